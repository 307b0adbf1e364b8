set_option maxHeartbeats 4000000 in
set_option maxRecDepth 100000 in
theorem k_M_spread (l : Launch) (G : va_G) (z : tz3) (w : Nat → Nat) (it : Int) (cd : Int) (now : Int) (gr : Int) (md : Int) (dO : Int) (pcn : Int → Int) (prt : Int → Int) (pnt : Int → Int) (pco : Int → Int) (pus : Int → Int) (pfa : Int → Int) (src : Int) (rcn : ∀ i : Int, 0 ≤ pcn i ∧ pcn i ≤ 24) (rrt : ∀ i : Int, -1 ≤ prt i ∧ prt i ≤ 63) (rnt : ∀ i : Int, 0 ≤ pnt i ∧ pnt i ≤ 63) (rco : ∀ i : Int, 0 ≤ pco i ∧ pco i ≤ 1000) (rus : ∀ i : Int, 0 ≤ pus i ∧ pus i ≤ 1) (rfa : ∀ i : Int, -1 ≤ pfa i ∧ pfa i ≤ 64000) (hAK : AOK pcn prt pco) (hck : CK pcn prt pnt pus 64 1536) (hsrc : 0 ≤ src ∧ src < 64) : Kv l y_M_spread c_M_spread 6 (rmD 0) G z [.ref (w 0), .int (iI src)] [(w 0, .inr (4, [.int (iI it), .int (iI cd), .int (iI now), .ref (w 1), .ref (w 2), .int (iI gr), .int (iI md), .ref (w 3), .ref (w 4), .ref (w 5), .ref (w 6), .ref (w 7), .ref (w 8), .int (iI dO), .ref (w 9), .ref (w 10)])), (w 5, .inl (z.1, 66, .inl (aI pcn))), (w 6, .inl (z.1, 1584, .inl (aI prt))), (w 7, .inl (z.1, 1584, .inl (aI pnt))), (w 8, .inl (z.1, 1584, .inl (aI pco))), (w 9, .inl (z.2.1, 1536, .inl (aI pus))), (w 10, .inl (z.1, 64, .inl (aI pfa)))] (fun u9 => ∃ (gfa : Int → Int), u9 = [(w 0, .inr (4, [.int (iI it), .int (iI cd), .int (iI now), .ref (w 1), .ref (w 2), .int (iI gr), .int (iI md), .ref (w 3), .ref (w 4), .ref (w 5), .ref (w 6), .ref (w 7), .ref (w 8), .int (iI dO), .ref (w 9), .ref (w 10)])), (w 5, .inl (z.1, 66, .inl (aI pcn))), (w 6, .inl (z.1, 1584, .inl (aI prt))), (w 7, .inl (z.1, 1584, .inl (aI pnt))), (w 8, .inl (z.1, 1584, .inl (aI pco))), (w 9, .inl (z.2.1, 1536, .inl (aI pus))), (w 10, .inl (z.1, 64, .inl (aI gfa)))] ∧ (∀ i : Int, -1 ≤ gfa i ∧ gfa i ≤ 64000) ∧ (isD (eg pcn prt pnt pco) src gfa)) := by
  refine Kv.of (by decide) (Nat.le_of_ble_eq_true rfl) ?_
  intro p e s m below meth c A hB hP hD ls hl
  obtain ⟨hx, hb, hRt, hml, hown, hlocks, hg, hE, hA, hin⟩ := hB
  have hown : s.vm.findClass R_M = some m.cls := hown
  have hl : lv_has ls 6 [(0, .ref (w 0)), (1, .int (iI src))] := hl
  obtain ⟨H, hH⟩ : ∃ H, H = s.heap := ⟨_, rfl⟩
  have hS : va_S A s.heap H [] := by rw [hH]; exact va_S.rf
  rw [← hH] at hP
  rw [← hH]
  have hP : va_P G cls0 [(w 0, .inr (4, [.int (iI it), .int (iI cd), .int (iI now), .ref (w 1), .ref (w 2), .int (iI gr), .int (iI md), .ref (w 3), .ref (w 4), .ref (w 5), .ref (w 6), .ref (w 7), .ref (w 8), .int (iI dO), .ref (w 9), .ref (w 10)])), (w 5, .inl (z.1, 66, .inl (aI pcn))), (w 6, .inl (z.1, 1584, .inl (aI prt))), (w 7, .inl (z.1, 1584, .inl (aI pnt))), (w 8, .inl (z.1, 1584, .inl (aI pco))), (w 9, .inl (z.2.1, 1536, .inl (aI pus))), (w 10, .inl (z.1, 64, .inl (aI pfa)))] H := hP
  have hD : va_D A [(w 0, .inr (4, [.int (iI it), .int (iI cd), .int (iI now), .ref (w 1), .ref (w 2), .int (iI gr), .int (iI md), .ref (w 3), .ref (w 4), .ref (w 5), .ref (w 6), .ref (w 7), .ref (w 8), .int (iI dO), .ref (w 9), .ref (w 10)])), (w 5, .inl (z.1, 66, .inl (aI pcn))), (w 6, .inl (z.1, 1584, .inl (aI prt))), (w 7, .inl (z.1, 1584, .inl (aI pnt))), (w 8, .inl (z.1, 1584, .inl (aI pco))), (w 9, .inl (z.2.1, 1536, .inl (aI pus))), (w 10, .inl (z.1, 64, .inl (aI pfa)))] := hD
  refine lv_iconst (v := iI 0) hx hb d_M_spread_0 rfl ?_
  refine lv_istore_n (lv' := [(2, .int (iI 0)), (0, .ref (w 0)), (1, .int (iI src))]) hx hb d_M_spread_1 rfl hl (by decide) rfl (fun ls hl => ?_)
  have L2 : ∀ n9 : Nat, ∀ (gfa : Int → Int) (i : Int), (64 - i : Int).toNat < n9 → (∀ i : Int, -1 ≤ gfa i ∧ gfa i ≤ 64000) → (0 ≤ i ∧ i ≤ 64) → (∀ t : Int, 0 ≤ t → t < i → ((t = src ∧ gfa t = 0) ∨ (t ≠ src ∧ gfa t = -1))) → ∀ (H : Heap) (locs : List Loc), va_P G cls0 [(w 0, .inr (4, [.int (iI it), .int (iI cd), .int (iI now), .ref (w 1), .ref (w 2), .int (iI gr), .int (iI md), .ref (w 3), .ref (w 4), .ref (w 5), .ref (w 6), .ref (w 7), .ref (w 8), .int (iI dO), .ref (w 9), .ref (w 10)])), (w 5, .inl (z.1, 66, .inl (aI pcn))), (w 6, .inl (z.1, 1584, .inl (aI prt))), (w 7, .inl (z.1, 1584, .inl (aI pnt))), (w 8, .inl (z.1, 1584, .inl (aI pco))), (w 9, .inl (z.2.1, 1536, .inl (aI pus))), (w 10, .inl (z.1, 64, .inl (aI gfa)))] H → va_D A [(w 0, .inr (4, [.int (iI it), .int (iI cd), .int (iI now), .ref (w 1), .ref (w 2), .int (iI gr), .int (iI md), .ref (w 3), .ref (w 4), .ref (w 5), .ref (w 6), .ref (w 7), .ref (w 8), .int (iI dO), .ref (w 9), .ref (w 10)])), (w 5, .inl (z.1, 66, .inl (aI pcn))), (w 6, .inl (z.1, 1584, .inl (aI prt))), (w 7, .inl (z.1, 1584, .inl (aI pnt))), (w 8, .inl (z.1, 1584, .inl (aI pco))), (w 9, .inl (z.2.1, 1536, .inl (aI pus))), (w 10, .inl (z.1, 64, .inl (aI gfa)))] → va_S A s.heap H locs → ∀ ls : Array Slot, lv_has ls 6 [(0, .ref (w 0)), (1, .int (iI src)), (2, .int (iI i))] → W p l e (rmD 0) s m [.ref (w 0), .int (iI src)].toArray below meth c H locs 0 0 (Zv below [.ref (w 0), .int (iI src)].toArray s (rmD 0) G A (fun u9 => ∃ (gfa : Int → Int), u9 = [(w 0, .inr (4, [.int (iI it), .int (iI cd), .int (iI now), .ref (w 1), .ref (w 2), .int (iI gr), .int (iI md), .ref (w 3), .ref (w 4), .ref (w 5), .ref (w 6), .ref (w 7), .ref (w 8), .int (iI dO), .ref (w 9), .ref (w 10)])), (w 5, .inl (z.1, 66, .inl (aI pcn))), (w 6, .inl (z.1, 1584, .inl (aI prt))), (w 7, .inl (z.1, 1584, .inl (aI pnt))), (w 8, .inl (z.1, 1584, .inl (aI pco))), (w 9, .inl (z.2.1, 1536, .inl (aI pus))), (w 10, .inl (z.1, 64, .inl (aI gfa)))] ∧ (∀ i : Int, -1 ≤ gfa i ∧ gfa i ≤ 64000) ∧ (isD (eg pcn prt pnt pco) src gfa))) (F0 m 2 ls []) := by
    intro n9
    induction n9 with
    | zero => intro gfa i hmu; exact absurd hmu (Nat.not_lt_zero _)
    | succ n9 ih2 =>
      intro gfa i hmu rgfa hi h0 H locs hP hD hS ls hl
      refine lv_iload_n hx hb d_M_spread_2 rfl (lv_at hl 2 rfl) ?_
      refine lv_bipush (v := iI 64) hx hb d_M_spread_3 (by decide +kernel) ?_
      refine rv_icmp_ge (tgt := 30) hx hb d_M_spread_5 (by decide) (by constructor <;> omega) ⟨by decide, by decide⟩ (fun c_1 => ?_) (fun c_1 => ?_)
      · skip
        refine lv_iconst (v := iI 1) hx hb d_M_spread_30 rfl ?_
        refine lv_istore_n (lv' := [(2, .int (iI 1)), (0, .ref (w 0)), (1, .int (iI src))]) hx hb d_M_spread_31 rfl hl (by decide) rfl (fun ls hl => ?_)
        have L32 : ∀ n9 : Nat, ∀ (gfa : Int → Int) (mr : Int), (2 * sM gfa 64 + mr : Int).toNat < n9 → (∀ i : Int, -1 ≤ gfa i ∧ gfa i ≤ 64000) → (mr = 0 ∨ mr = 1) → (BF pcn prt pnt pco src gfa) → (mr = 0 → RX pcn prt pnt pco gfa 64 1536) → ∀ (H : Heap) (locs : List Loc), va_P G cls0 [(w 0, .inr (4, [.int (iI it), .int (iI cd), .int (iI now), .ref (w 1), .ref (w 2), .int (iI gr), .int (iI md), .ref (w 3), .ref (w 4), .ref (w 5), .ref (w 6), .ref (w 7), .ref (w 8), .int (iI dO), .ref (w 9), .ref (w 10)])), (w 5, .inl (z.1, 66, .inl (aI pcn))), (w 6, .inl (z.1, 1584, .inl (aI prt))), (w 7, .inl (z.1, 1584, .inl (aI pnt))), (w 8, .inl (z.1, 1584, .inl (aI pco))), (w 9, .inl (z.2.1, 1536, .inl (aI pus))), (w 10, .inl (z.1, 64, .inl (aI gfa)))] H → va_D A [(w 0, .inr (4, [.int (iI it), .int (iI cd), .int (iI now), .ref (w 1), .ref (w 2), .int (iI gr), .int (iI md), .ref (w 3), .ref (w 4), .ref (w 5), .ref (w 6), .ref (w 7), .ref (w 8), .int (iI dO), .ref (w 9), .ref (w 10)])), (w 5, .inl (z.1, 66, .inl (aI pcn))), (w 6, .inl (z.1, 1584, .inl (aI prt))), (w 7, .inl (z.1, 1584, .inl (aI pnt))), (w 8, .inl (z.1, 1584, .inl (aI pco))), (w 9, .inl (z.2.1, 1536, .inl (aI pus))), (w 10, .inl (z.1, 64, .inl (aI gfa)))] → va_S A s.heap H locs → ∀ ls : Array Slot, lv_has ls 6 [(0, .ref (w 0)), (1, .int (iI src)), (2, .int (iI mr))] → W p l e (rmD 0) s m [.ref (w 0), .int (iI src)].toArray below meth c H locs 0 0 (Zv below [.ref (w 0), .int (iI src)].toArray s (rmD 0) G A (fun u9 => ∃ (gfa : Int → Int), u9 = [(w 0, .inr (4, [.int (iI it), .int (iI cd), .int (iI now), .ref (w 1), .ref (w 2), .int (iI gr), .int (iI md), .ref (w 3), .ref (w 4), .ref (w 5), .ref (w 6), .ref (w 7), .ref (w 8), .int (iI dO), .ref (w 9), .ref (w 10)])), (w 5, .inl (z.1, 66, .inl (aI pcn))), (w 6, .inl (z.1, 1584, .inl (aI prt))), (w 7, .inl (z.1, 1584, .inl (aI pnt))), (w 8, .inl (z.1, 1584, .inl (aI pco))), (w 9, .inl (z.2.1, 1536, .inl (aI pus))), (w 10, .inl (z.1, 64, .inl (aI gfa)))] ∧ (∀ i : Int, -1 ≤ gfa i ∧ gfa i ≤ 64000) ∧ (isD (eg pcn prt pnt pco) src gfa))) (F0 m 32 ls []) := by
          intro n9
          induction n9 with
          | zero => intro gfa mr hmu; exact absurd hmu (Nat.not_lt_zero _)
          | succ n9 ih32 =>
            intro gfa mr hmu rgfa hm hB hX0 H locs hP hD hS ls hl
            refine lv_iload_n hx hb d_M_spread_32 rfl (lv_at hl 2 rfl) ?_
            refine rv_if_eq (tgt := 168) hx hb d_M_spread_33 (by decide) (by constructor <;> omega) (fun c_2 => ?_) (fun c_2 => ?_)
            · skip
              have hP9 : va_P G cls0 [(w 0, .inr (4, [.int (iI it), .int (iI cd), .int (iI now), .ref (w 1), .ref (w 2), .int (iI gr), .int (iI md), .ref (w 3), .ref (w 4), .ref (w 5), .ref (w 6), .ref (w 7), .ref (w 8), .int (iI dO), .ref (w 9), .ref (w 10)])), (w 5, .inl (z.1, 66, .inl (aI pcn))), (w 6, .inl (z.1, 1584, .inl (aI prt))), (w 7, .inl (z.1, 1584, .inl (aI pnt))), (w 8, .inl (z.1, 1584, .inl (aI pco))), (w 9, .inl (z.2.1, 1536, .inl (aI pus))), (w 10, .inl (z.1, 64, .inl (aI gfa)))] H := hP.sub [0, 1, 2, 3, 4, 5, 6] rfl
              have hD9 : va_D A [(w 0, .inr (4, [.int (iI it), .int (iI cd), .int (iI now), .ref (w 1), .ref (w 2), .int (iI gr), .int (iI md), .ref (w 3), .ref (w 4), .ref (w 5), .ref (w 6), .ref (w 7), .ref (w 8), .int (iI dO), .ref (w 9), .ref (w 10)])), (w 5, .inl (z.1, 66, .inl (aI pcn))), (w 6, .inl (z.1, 1584, .inl (aI prt))), (w 7, .inl (z.1, 1584, .inl (aI pnt))), (w 8, .inl (z.1, 1584, .inl (aI pco))), (w 9, .inl (z.2.1, 1536, .inl (aI pus))), (w 10, .inl (z.1, 64, .inl (aI gfa)))] := hD.sub [0, 1, 2, 3, 4, 5, 6] (by decide) rfl
              refine rv_vret hx hb hRt hlocks (Nat.le_of_ble_eq_true rfl) (Nat.le_of_ble_eq_true rfl) hP9 hD9 hS d_M_spread_168 ?_
              exact ⟨gfa, rfl, rgfa, (BF_end hAK hsrc hB (hX0 (by omega)))⟩
            · skip
              obtain ⟨S0, hS0⟩ : ∃ S : Int, S = sM gfa 64 := ⟨_, rfl⟩
              have hS00 := sM_nn (fa := gfa) (fun i => (rgfa i).1) 64
              refine lv_iconst (v := iI 0) hx hb d_M_spread_36 rfl ?_
              refine lv_istore_n (lv' := [(2, .int (iI 0)), (0, .ref (w 0)), (1, .int (iI src))]) hx hb d_M_spread_37 rfl hl (by decide) rfl (fun ls hl => ?_)
              refine lv_iconst (v := iI 0) hx hb d_M_spread_38 rfl ?_
              refine lv_istore_n (lv' := [(3, .int (iI 0)), (2, .int (iI 0)), (0, .ref (w 0)), (1, .int (iI src))]) hx hb d_M_spread_39 rfl hl (by decide) rfl (fun ls hl => ?_)
              have L40 : ∀ n9 : Nat, ∀ (gfa : Int → Int) (mr : Int) (r : Int), (64 - r : Int).toNat < n9 → (∀ i : Int, -1 ≤ gfa i ∧ gfa i ≤ 64000) → (mr = 0 ∨ mr = 1) → (0 ≤ r ∧ r ≤ 64) → (BF pcn prt pnt pco src gfa) → (0 ≤ sM gfa 64 ∧ sM gfa 64 ≤ S0 ∧ (mr = 1 → sM gfa 64 ≤ S0 - 1)) → (mr = 0 → RX pcn prt pnt pco gfa r (r * 24)) → ∀ (H : Heap) (locs : List Loc), va_P G cls0 [(w 0, .inr (4, [.int (iI it), .int (iI cd), .int (iI now), .ref (w 1), .ref (w 2), .int (iI gr), .int (iI md), .ref (w 3), .ref (w 4), .ref (w 5), .ref (w 6), .ref (w 7), .ref (w 8), .int (iI dO), .ref (w 9), .ref (w 10)])), (w 5, .inl (z.1, 66, .inl (aI pcn))), (w 6, .inl (z.1, 1584, .inl (aI prt))), (w 7, .inl (z.1, 1584, .inl (aI pnt))), (w 8, .inl (z.1, 1584, .inl (aI pco))), (w 9, .inl (z.2.1, 1536, .inl (aI pus))), (w 10, .inl (z.1, 64, .inl (aI gfa)))] H → va_D A [(w 0, .inr (4, [.int (iI it), .int (iI cd), .int (iI now), .ref (w 1), .ref (w 2), .int (iI gr), .int (iI md), .ref (w 3), .ref (w 4), .ref (w 5), .ref (w 6), .ref (w 7), .ref (w 8), .int (iI dO), .ref (w 9), .ref (w 10)])), (w 5, .inl (z.1, 66, .inl (aI pcn))), (w 6, .inl (z.1, 1584, .inl (aI prt))), (w 7, .inl (z.1, 1584, .inl (aI pnt))), (w 8, .inl (z.1, 1584, .inl (aI pco))), (w 9, .inl (z.2.1, 1536, .inl (aI pus))), (w 10, .inl (z.1, 64, .inl (aI gfa)))] → va_S A s.heap H locs → ∀ ls : Array Slot, lv_has ls 6 [(0, .ref (w 0)), (1, .int (iI src)), (2, .int (iI mr)), (3, .int (iI r))] → W p l e (rmD 0) s m [.ref (w 0), .int (iI src)].toArray below meth c H locs 0 0 (Zv below [.ref (w 0), .int (iI src)].toArray s (rmD 0) G A (fun u9 => ∃ (gfa : Int → Int), u9 = [(w 0, .inr (4, [.int (iI it), .int (iI cd), .int (iI now), .ref (w 1), .ref (w 2), .int (iI gr), .int (iI md), .ref (w 3), .ref (w 4), .ref (w 5), .ref (w 6), .ref (w 7), .ref (w 8), .int (iI dO), .ref (w 9), .ref (w 10)])), (w 5, .inl (z.1, 66, .inl (aI pcn))), (w 6, .inl (z.1, 1584, .inl (aI prt))), (w 7, .inl (z.1, 1584, .inl (aI pnt))), (w 8, .inl (z.1, 1584, .inl (aI pco))), (w 9, .inl (z.2.1, 1536, .inl (aI pus))), (w 10, .inl (z.1, 64, .inl (aI gfa)))] ∧ (∀ i : Int, -1 ≤ gfa i ∧ gfa i ≤ 64000) ∧ (isD (eg pcn prt pnt pco) src gfa))) (F0 m 40 ls []) := by
                intro n9
                induction n9 with
                | zero => intro gfa mr r hmu; exact absurd hmu (Nat.not_lt_zero _)
                | succ n9 ih40 =>
                  intro gfa mr r hmu rgfa hm hr hB hS1 hX0 H locs hP hD hS ls hl
                  refine lv_iload_n hx hb d_M_spread_40 rfl (lv_at hl 3 rfl) ?_
                  refine lv_bipush (v := iI 64) hx hb d_M_spread_41 (by decide +kernel) ?_
                  refine rv_icmp_ge (tgt := 165) hx hb d_M_spread_43 (by decide) (by constructor <;> omega) ⟨by decide, by decide⟩ (fun c_3 => ?_) (fun c_3 => ?_)
                  · skip
                    refine lv_goto (tgt := 32) hx hb d_M_spread_165 (by decide) ?_
                    exact ih32 gfa mr (by have hm2 := hS1.2.2; rcases hm with w | w; omega; have := hm2 w; omega) rgfa hm hB (fun q => by have h64 : r = 64 := (by omega); subst h64; exact hX0 q) H _ (hP.sub [0, 1, 2, 3, 4, 5, 6] rfl) (hD.sub [0, 1, 2, 3, 4, 5, 6] (by decide) rfl) hS ls (lv_sub hl [0, 1, 2] rfl)
                  · skip
                    refine lv_bipush (v := iI 24) hx hb d_M_spread_46 (by decide +kernel) ?_
                    refine lv_iload_n hx hb d_M_spread_48 rfl (lv_at hl 3 rfl) ?_
                    refine rv_imul hx hb d_M_spread_49 ?_
                    refine lv_istore (lv' := [(4, .int (iI (24 * r))), (0, .ref (w 0)), (1, .int (iI src)), (2, .int (iI mr)), (3, .int (iI r))]) hx hb d_M_spread_50 hl (by decide) rfl (fun ls hl => ?_)
                    have L52 : ∀ n9 : Nat, ∀ (gfa : Int → Int) (mr : Int) (ix : Int), (24 * r + pcn r - ix : Int).toNat < n9 → (∀ i : Int, -1 ≤ gfa i ∧ gfa i ≤ 64000) → (mr = 0 ∨ mr = 1) → (24 * r ≤ ix ∧ ix ≤ 24 * r + pcn r) → (BF pcn prt pnt pco src gfa) → (0 ≤ sM gfa 64 ∧ sM gfa 64 ≤ S0 ∧ (mr = 1 → sM gfa 64 ≤ S0 - 1)) → (mr = 0 → RX pcn prt pnt pco gfa r ix) → ∀ (H : Heap) (locs : List Loc), va_P G cls0 [(w 0, .inr (4, [.int (iI it), .int (iI cd), .int (iI now), .ref (w 1), .ref (w 2), .int (iI gr), .int (iI md), .ref (w 3), .ref (w 4), .ref (w 5), .ref (w 6), .ref (w 7), .ref (w 8), .int (iI dO), .ref (w 9), .ref (w 10)])), (w 5, .inl (z.1, 66, .inl (aI pcn))), (w 6, .inl (z.1, 1584, .inl (aI prt))), (w 7, .inl (z.1, 1584, .inl (aI pnt))), (w 8, .inl (z.1, 1584, .inl (aI pco))), (w 9, .inl (z.2.1, 1536, .inl (aI pus))), (w 10, .inl (z.1, 64, .inl (aI gfa)))] H → va_D A [(w 0, .inr (4, [.int (iI it), .int (iI cd), .int (iI now), .ref (w 1), .ref (w 2), .int (iI gr), .int (iI md), .ref (w 3), .ref (w 4), .ref (w 5), .ref (w 6), .ref (w 7), .ref (w 8), .int (iI dO), .ref (w 9), .ref (w 10)])), (w 5, .inl (z.1, 66, .inl (aI pcn))), (w 6, .inl (z.1, 1584, .inl (aI prt))), (w 7, .inl (z.1, 1584, .inl (aI pnt))), (w 8, .inl (z.1, 1584, .inl (aI pco))), (w 9, .inl (z.2.1, 1536, .inl (aI pus))), (w 10, .inl (z.1, 64, .inl (aI gfa)))] → va_S A s.heap H locs → ∀ ls : Array Slot, lv_has ls 6 [(0, .ref (w 0)), (1, .int (iI src)), (2, .int (iI mr)), (3, .int (iI r)), (4, .int (iI ix))] → W p l e (rmD 0) s m [.ref (w 0), .int (iI src)].toArray below meth c H locs 0 0 (Zv below [.ref (w 0), .int (iI src)].toArray s (rmD 0) G A (fun u9 => ∃ (gfa : Int → Int), u9 = [(w 0, .inr (4, [.int (iI it), .int (iI cd), .int (iI now), .ref (w 1), .ref (w 2), .int (iI gr), .int (iI md), .ref (w 3), .ref (w 4), .ref (w 5), .ref (w 6), .ref (w 7), .ref (w 8), .int (iI dO), .ref (w 9), .ref (w 10)])), (w 5, .inl (z.1, 66, .inl (aI pcn))), (w 6, .inl (z.1, 1584, .inl (aI prt))), (w 7, .inl (z.1, 1584, .inl (aI pnt))), (w 8, .inl (z.1, 1584, .inl (aI pco))), (w 9, .inl (z.2.1, 1536, .inl (aI pus))), (w 10, .inl (z.1, 64, .inl (aI gfa)))] ∧ (∀ i : Int, -1 ≤ gfa i ∧ gfa i ≤ 64000) ∧ (isD (eg pcn prt pnt pco) src gfa))) (F0 m 52 ls []) := by
                      intro n9
                      induction n9 with
                      | zero => intro gfa mr ix hmu; exact absurd hmu (Nat.not_lt_zero _)
                      | succ n9 ih52 =>
                        intro gfa mr ix hmu rgfa hm hx1 hB hS1 hX0 H locs hP hD hS ls hl
                        refine lv_iload hx hb d_M_spread_52 (lv_at hl 4 rfl) ?_
                        refine lv_bipush (v := iI 24) hx hb d_M_spread_54 (by decide +kernel) ?_
                        refine lv_iload_n hx hb d_M_spread_56 rfl (lv_at hl 3 rfl) ?_
                        refine rv_imul hx hb d_M_spread_57 ?_
                        refine lv_aload_n hx hb d_M_spread_58 rfl (lv_at hl 0 rfl) ?_
                        refine va_get (D := G) (ci := 4) (v := .ref (w 5)) (C := R_M) (T := T_M) (N := 16) hx hb hg iw_M hown hE.1 hP 0 rfl rfl 9 (by decide) (hg _ fl_M_27) (fun _ h9 => h9) rfl d_M_spread_59 ?_
                        refine lv_iload_n hx hb d_M_spread_62 rfl (lv_at hl 3 rfl) ?_
                        refine rv_iald hx hb hE hP 1 rfl (i := r) (by omega) (by omega) (by decide) d_M_spread_63 ?_
                        refine rv_iadd hx hb d_M_spread_64 ?_
                        refine rv_icmp_ge (tgt := 159) hx hb d_M_spread_65 (by decide) (by (try have := rcn r); constructor <;> omega) (by (try have := rcn r); (try have := rcn r); constructor <;> omega) (fun c_4 => ?_) (fun c_4 => ?_)
                        · skip
                          have hend : r * 24 + pcn r ≤ ix ∨ gfa r = -1 := Or.inl (by omega)
                          refine lv_iinc (v := iI (r + 1)) (lv' := [(3, .int (iI (r + 1))), (0, .ref (w 0)), (1, .int (iI src)), (2, .int (iI mr)), (4, .int (iI ix))]) hx hb d_M_spread_159 hl (k := 3) rfl (iI_add _ _) (by decide) rfl (fun ls hl => ?_)
                          refine lv_goto (tgt := 40) hx hb d_M_spread_162 (by decide) ?_
                          exact ih40 gfa mr (r + 1) (by omega) rgfa hm (by omega) hB hS1 (fun q => RX_row hend (by omega) (hX0 q)) H _ (hP.sub [0, 1, 2, 3, 4, 5, 6] rfl) (hD.sub [0, 1, 2, 3, 4, 5, 6] (by decide) rfl) hS ls (lv_sub hl [1, 2, 3, 0] rfl)
                        · skip
                          refine lv_aload_n hx hb d_M_spread_68 rfl (lv_at hl 0 rfl) ?_
                          refine va_get (D := G) (ci := 4) (v := .ref (w 10)) (C := R_M) (T := T_M) (N := 16) hx hb hg iw_M hown hE.1 hP 0 rfl rfl 15 (by decide) (hg _ fl_M_42) (fun _ h9 => h9) rfl d_M_spread_69 ?_
                          refine lv_iload_n hx hb d_M_spread_72 rfl (lv_at hl 3 rfl) ?_
                          refine rv_iald hx hb hE hP 6 rfl (i := r) (by omega) (by omega) (by decide) d_M_spread_73 ?_
                          refine rv_if_lt (tgt := 159) hx hb d_M_spread_74 (by decide) (by (try have := rgfa r); constructor <;> omega) (fun c_5 => ?_) (fun c_5 => ?_)
                          · skip
                            have hend : r * 24 + pcn r ≤ ix ∨ gfa r = -1 := Or.inr (by have := rgfa r; omega)
                            refine lv_iinc (v := iI (r + 1)) (lv' := [(3, .int (iI (r + 1))), (0, .ref (w 0)), (1, .int (iI src)), (2, .int (iI mr)), (4, .int (iI ix))]) hx hb d_M_spread_159 hl (k := 3) rfl (iI_add _ _) (by decide) rfl (fun ls hl => ?_)
                            refine lv_goto (tgt := 40) hx hb d_M_spread_162 (by decide) ?_
                            exact ih40 gfa mr (r + 1) (by omega) rgfa hm (by omega) hB hS1 (fun q => RX_row hend (by omega) (hX0 q)) H _ (hP.sub [0, 1, 2, 3, 4, 5, 6] rfl) (hD.sub [0, 1, 2, 3, 4, 5, 6] (by decide) rfl) hS ls (lv_sub hl [1, 2, 3, 0] rfl)
                          · skip
                            have hckr := hck r (ix - 24 * r) hr.1 (by omega) (by omega) (by omega) (Or.inl (by omega))
                            rw [show r * 24 + (ix - 24 * r) = ix by omega] at hckr
                            have hfr : 0 ≤ gfa r := by omega
                            refine lv_aload_n hx hb d_M_spread_77 rfl (lv_at hl 0 rfl) ?_
                            refine va_get (D := G) (ci := 4) (v := .ref (w 6)) (C := R_M) (T := T_M) (N := 16) hx hb hg iw_M hown hE.1 hP 0 rfl rfl 10 (by decide) (hg _ fl_M_30) (fun _ h9 => h9) rfl d_M_spread_78 ?_
                            refine lv_iload hx hb d_M_spread_81 (lv_at hl 4 rfl) ?_
                            refine rv_iald hx hb hE hP 2 rfl (i := ix) (by (try have := rcn r); omega) (by (try have := rcn r); omega) (by decide) d_M_spread_83 ?_
                            refine lv_istore (lv' := [(5, .int (iI (prt ix))), (0, .ref (w 0)), (1, .int (iI src)), (2, .int (iI mr)), (3, .int (iI r)), (4, .int (iI ix))]) hx hb d_M_spread_84 hl (by decide) rfl (fun ls hl => ?_)
                            refine lv_aload_n hx hb d_M_spread_86 rfl (lv_at hl 1 rfl) ?_
                            refine va_get (D := G) (ci := 4) (v := .ref (w 9)) (C := R_M) (T := T_M) (N := 16) hx hb hg iw_M hown hE.1 hP 0 rfl rfl 14 (by decide) (hg _ fl_M_39) (fun _ h9 => h9) rfl d_M_spread_87 ?_
                            refine lv_iload hx hb d_M_spread_90 (lv_at hl 5 rfl) ?_
                            refine rv_zald hx hb hE hP 5 rfl (i := ix) (by (try have := rcn r); omega) (by (try have := rcn r); omega) (by decide) d_M_spread_92 ?_
                            refine rv_if_eq (tgt := 153) hx hb d_M_spread_93 (by decide) (by (try have := rus ix); constructor <;> omega) (fun c_6 => ?_) (fun c_6 => ?_)
                            · skip
                              have hnu : ¬ usb pcn prt pnt r (ix - 24 * r) := by
                                rcases hckr with ⟨w, -⟩ | ⟨-, w⟩
                                · omega
                                · exact w
                              clear hckr
                              have hrel : usb pcn prt pnt r (ix - 24 * r) → gfa r ≠ -1 → gfa (prt ix) ≠ -1 ∧ gfa (prt ix) ≤ gfa r + pco ix := fun w => absurd w hnu
                              refine lv_iinc (v := iI (ix + 1)) (lv' := [(4, .int (iI (ix + 1))), (5, .int (iI (prt ix))), (0, .ref (w 0)), (1, .int (iI src)), (2, .int (iI mr)), (3, .int (iI r))]) hx hb d_M_spread_153 hl (k := 5) rfl (iI_add _ _) (by decide) rfl (fun ls hl => ?_)
                              refine lv_goto (tgt := 52) hx hb d_M_spread_156 (by decide) ?_
                              exact ih52 _ _ (ix + 1) (by (try have := rcn r); (try have := rcn r); omega) (by first | exact hrg2 | exact rgfa) (by first | exact hm | exact Or.inr rfl) (by (try have := rcn r); (try have := rcn r); omega) (by first | exact hup.1 | exact hB) (by first | exact hS1 | exact ⟨hnn2, by omega, fun _ => by omega⟩) (by first | exact fun q => RX_next rcn hrel (hX0 q) | exact fun q => absurd q (by decide)) H _ (hP.sub [0, 1, 2, 3, 4, 5, 6] rfl) (hD.sub [0, 1, 2, 3, 4, 5, 6] (by decide) rfl) hS ls (lv_sub hl [2, 3, 4, 5, 0] rfl)
                            · skip
                              have hu : usb pcn prt pnt r (ix - 24 * r) := by
                                rcases hckr with ⟨-, w⟩ | ⟨w, -⟩
                                · exact w
                                · omega
                              clear hckr
                              have hto := usb_t hAK hu
                              rw [show r * 24 + (ix - 24 * r) = ix by omega] at hto
                              refine lv_aload_n hx hb d_M_spread_96 rfl (lv_at hl 1 rfl) ?_
                              refine va_get (D := G) (ci := 4) (v := .ref (w 10)) (C := R_M) (T := T_M) (N := 16) hx hb hg iw_M hown hE.1 hP 0 rfl rfl 15 (by decide) (hg _ fl_M_42) (fun _ h9 => h9) rfl d_M_spread_97 ?_
                              refine lv_iload hx hb d_M_spread_100 (lv_at hl 0 rfl) ?_
                              refine rv_iald hx hb hE hP 6 rfl (i := prt ix) (by (try have := rrt ix); omega) (by (try have := rrt ix); omega) (by decide) d_M_spread_102 ?_
                              refine rv_if_lt (tgt := 130) hx hb d_M_spread_103 (by decide) (by (try have := rrt ix); (try have := rgfa (prt ix)); constructor <;> omega) (fun c_7 => ?_) (fun c_7 => ?_)
                              · skip
                                have hlt : gfa (prt ix) = -1 ∨ gfa r + pco ix < gfa (prt ix) := Or.inl (by have := rgfa (prt ix); omega)
                                have hup := BF_upd hAK hsrc (k := ix - 24 * r) ⟨hr.1, by omega⟩ hu (by omega) (by rw [show r * 24 + (ix - 24 * r) = ix by omega]; exact hlt) hB
                                rw [show r * 24 + (ix - 24 * r) = ix by omega] at hup
                                have hb63 := BF_b hB hr.1 (show r < 64 by omega)
                                have hc10 := rco ix
                                refine lv_aload_n hx hb d_M_spread_130 rfl (lv_at hl 1 rfl) ?_
                                refine va_get (D := G) (ci := 4) (v := .ref (w 10)) (C := R_M) (T := T_M) (N := 16) hx hb hg iw_M hown hE.1 hP 0 rfl rfl 15 (by decide) (hg _ fl_M_42) (fun _ h9 => h9) rfl d_M_spread_131 ?_
                                refine lv_iload hx hb d_M_spread_134 (lv_at hl 0 rfl) ?_
                                refine lv_aload_n hx hb d_M_spread_136 rfl (lv_at hl 1 rfl) ?_
                                refine va_get (D := G) (ci := 4) (v := .ref (w 10)) (C := R_M) (T := T_M) (N := 16) hx hb hg iw_M hown hE.1 hP 0 rfl rfl 15 (by decide) (hg _ fl_M_42) (fun _ h9 => h9) rfl d_M_spread_137 ?_
                                refine lv_iload_n hx hb d_M_spread_140 rfl (lv_at hl 4 rfl) ?_
                                refine rv_iald hx hb hE hP 6 rfl (i := r) (by omega) (by omega) (by decide) d_M_spread_141 ?_
                                refine lv_aload_n hx hb d_M_spread_142 rfl (lv_at hl 1 rfl) ?_
                                refine va_get (D := G) (ci := 4) (v := .ref (w 8)) (C := R_M) (T := T_M) (N := 16) hx hb hg iw_M hown hE.1 hP 0 rfl rfl 12 (by decide) (hg _ fl_M_36) (fun _ h9 => h9) rfl d_M_spread_143 ?_
                                refine lv_iload hx hb d_M_spread_146 (lv_at hl 5 rfl) ?_
                                refine rv_iald hx hb hE hP 4 rfl (i := ix) (by (try have := rcn r); omega) (by (try have := rcn r); omega) (by decide) d_M_spread_148 ?_
                                refine rv_iadd hx hb d_M_spread_149 ?_
                                refine rv_iast hx hb hE hP hD hS 6 rfl (i := prt ix) (x := (gfa r) + (pco ix)) (by (try have := rrt ix); omega) (by (try have := rrt ix); omega) (by decide) d_M_spread_150 (fun H locs hP hD hS => ?_)
                                have hP : va_P G cls0 [(w 0, .inr (4, [.int (iI it), .int (iI cd), .int (iI now), .ref (w 1), .ref (w 2), .int (iI gr), .int (iI md), .ref (w 3), .ref (w 4), .ref (w 5), .ref (w 6), .ref (w 7), .ref (w 8), .int (iI dO), .ref (w 9), .ref (w 10)])), (w 5, .inl (z.1, 66, .inl (aI pcn))), (w 6, .inl (z.1, 1584, .inl (aI prt))), (w 7, .inl (z.1, 1584, .inl (aI pnt))), (w 8, .inl (z.1, 1584, .inl (aI pco))), (w 9, .inl (z.2.1, 1536, .inl (aI pus))), (w 10, .inl (z.1, 64, .inl (aI (uZ gfa (prt ix) ((gfa r) + (pco ix))))))] H := hP
                                have hD : va_D A [(w 0, .inr (4, [.int (iI it), .int (iI cd), .int (iI now), .ref (w 1), .ref (w 2), .int (iI gr), .int (iI md), .ref (w 3), .ref (w 4), .ref (w 5), .ref (w 6), .ref (w 7), .ref (w 8), .int (iI dO), .ref (w 9), .ref (w 10)])), (w 5, .inl (z.1, 66, .inl (aI pcn))), (w 6, .inl (z.1, 1584, .inl (aI prt))), (w 7, .inl (z.1, 1584, .inl (aI pnt))), (w 8, .inl (z.1, 1584, .inl (aI pco))), (w 9, .inl (z.2.1, 1536, .inl (aI pus))), (w 10, .inl (z.1, 64, .inl (aI (uZ gfa (prt ix) ((gfa r) + (pco ix))))))] := hD
                                have hrg2 : ∀ i : Int, -1 ≤ uZ gfa (prt ix) (gfa r + pco ix) i ∧ uZ gfa (prt ix) (gfa r + pco ix) i ≤ 64000 := uZ_rng rgfa (by omega)
                                have hnn2 := sM_nn (fun i => (hrg2 i).1) 64
                                refine lv_iconst (v := iI 1) hx hb d_M_spread_151 rfl ?_
                                refine lv_istore_n (lv' := [(2, .int (iI 1)), (5, .int (iI (prt ix))), (0, .ref (w 0)), (1, .int (iI src)), (3, .int (iI r)), (4, .int (iI ix))]) hx hb d_M_spread_152 rfl hl (by decide) rfl (fun ls hl => ?_)
                                refine lv_iinc (v := iI (ix + 1)) (lv' := [(4, .int (iI (ix + 1))), (2, .int (iI 1)), (5, .int (iI (prt ix))), (0, .ref (w 0)), (1, .int (iI src)), (3, .int (iI r))]) hx hb d_M_spread_153 hl (k := 5) rfl (iI_add _ _) (by decide) rfl (fun ls hl => ?_)
                                refine lv_goto (tgt := 52) hx hb d_M_spread_156 (by decide) ?_
                                exact ih52 _ _ (ix + 1) (by (try have := rcn r); (try have := rcn r); omega) (by first | exact hrg2 | exact rgfa) (by first | exact hm | exact Or.inr rfl) (by (try have := rcn r); (try have := rcn r); omega) (by first | exact hup.1 | exact hB) (by first | exact hS1 | exact ⟨hnn2, by omega, fun _ => by omega⟩) (by first | exact fun q => RX_next rcn hrel (hX0 q) | exact fun q => absurd q (by decide)) H _ (hP.sub [0, 1, 2, 3, 4, 5, 6] rfl) (hD.sub [0, 1, 2, 3, 4, 5, 6] (by decide) rfl) hS ls (lv_sub hl [3, 4, 1, 5, 0] rfl)
                              · skip
                                refine lv_aload_n hx hb d_M_spread_106 rfl (lv_at hl 1 rfl) ?_
                                refine va_get (D := G) (ci := 4) (v := .ref (w 10)) (C := R_M) (T := T_M) (N := 16) hx hb hg iw_M hown hE.1 hP 0 rfl rfl 15 (by decide) (hg _ fl_M_42) (fun _ h9 => h9) rfl d_M_spread_107 ?_
                                refine lv_iload_n hx hb d_M_spread_110 rfl (lv_at hl 4 rfl) ?_
                                refine rv_iald hx hb hE hP 6 rfl (i := r) (by omega) (by omega) (by decide) d_M_spread_111 ?_
                                refine lv_aload_n hx hb d_M_spread_112 rfl (lv_at hl 1 rfl) ?_
                                refine va_get (D := G) (ci := 4) (v := .ref (w 8)) (C := R_M) (T := T_M) (N := 16) hx hb hg iw_M hown hE.1 hP 0 rfl rfl 12 (by decide) (hg _ fl_M_36) (fun _ h9 => h9) rfl d_M_spread_113 ?_
                                refine lv_iload hx hb d_M_spread_116 (lv_at hl 5 rfl) ?_
                                refine rv_iald hx hb hE hP 4 rfl (i := ix) (by (try have := rcn r); omega) (by (try have := rcn r); omega) (by decide) d_M_spread_118 ?_
                                refine rv_iadd hx hb d_M_spread_119 ?_
                                refine lv_aload_n hx hb d_M_spread_120 rfl (lv_at hl 1 rfl) ?_
                                refine va_get (D := G) (ci := 4) (v := .ref (w 10)) (C := R_M) (T := T_M) (N := 16) hx hb hg iw_M hown hE.1 hP 0 rfl rfl 15 (by decide) (hg _ fl_M_42) (fun _ h9 => h9) rfl d_M_spread_121 ?_
                                refine lv_iload hx hb d_M_spread_124 (lv_at hl 0 rfl) ?_
                                refine rv_iald hx hb hE hP 6 rfl (i := prt ix) (by (try have := rrt ix); omega) (by (try have := rrt ix); omega) (by decide) d_M_spread_126 ?_
                                refine rv_icmp_ge (tgt := 153) hx hb d_M_spread_127 (by decide) (by (try have := rco ix); (try have := rgfa r); constructor <;> omega) (by (try have := rrt ix); (try have := rgfa (prt ix)); constructor <;> omega) (fun c_8 => ?_) (fun c_8 => ?_)
                                · skip
                                  have hrel : usb pcn prt pnt r (ix - 24 * r) → gfa r ≠ -1 → gfa (prt ix) ≠ -1 ∧ gfa (prt ix) ≤ gfa r + pco ix := fun _ _ => ⟨by omega, by omega⟩
                                  refine lv_iinc (v := iI (ix + 1)) (lv' := [(4, .int (iI (ix + 1))), (5, .int (iI (prt ix))), (0, .ref (w 0)), (1, .int (iI src)), (2, .int (iI mr)), (3, .int (iI r))]) hx hb d_M_spread_153 hl (k := 5) rfl (iI_add _ _) (by decide) rfl (fun ls hl => ?_)
                                  refine lv_goto (tgt := 52) hx hb d_M_spread_156 (by decide) ?_
                                  exact ih52 _ _ (ix + 1) (by (try have := rcn r); (try have := rcn r); omega) (by first | exact hrg2 | exact rgfa) (by first | exact hm | exact Or.inr rfl) (by (try have := rcn r); (try have := rcn r); omega) (by first | exact hup.1 | exact hB) (by first | exact hS1 | exact ⟨hnn2, by omega, fun _ => by omega⟩) (by first | exact fun q => RX_next rcn hrel (hX0 q) | exact fun q => absurd q (by decide)) H _ (hP.sub [0, 1, 2, 3, 4, 5, 6] rfl) (hD.sub [0, 1, 2, 3, 4, 5, 6] (by decide) rfl) hS ls (lv_sub hl [2, 3, 4, 5, 0] rfl)
                                · skip
                                  have hlt : gfa (prt ix) = -1 ∨ gfa r + pco ix < gfa (prt ix) := Or.inr (by omega)
                                  have hup := BF_upd hAK hsrc (k := ix - 24 * r) ⟨hr.1, by omega⟩ hu (by omega) (by rw [show r * 24 + (ix - 24 * r) = ix by omega]; exact hlt) hB
                                  rw [show r * 24 + (ix - 24 * r) = ix by omega] at hup
                                  have hb63 := BF_b hB hr.1 (show r < 64 by omega)
                                  have hc10 := rco ix
                                  refine lv_aload_n hx hb d_M_spread_130 rfl (lv_at hl 1 rfl) ?_
                                  refine va_get (D := G) (ci := 4) (v := .ref (w 10)) (C := R_M) (T := T_M) (N := 16) hx hb hg iw_M hown hE.1 hP 0 rfl rfl 15 (by decide) (hg _ fl_M_42) (fun _ h9 => h9) rfl d_M_spread_131 ?_
                                  refine lv_iload hx hb d_M_spread_134 (lv_at hl 0 rfl) ?_
                                  refine lv_aload_n hx hb d_M_spread_136 rfl (lv_at hl 1 rfl) ?_
                                  refine va_get (D := G) (ci := 4) (v := .ref (w 10)) (C := R_M) (T := T_M) (N := 16) hx hb hg iw_M hown hE.1 hP 0 rfl rfl 15 (by decide) (hg _ fl_M_42) (fun _ h9 => h9) rfl d_M_spread_137 ?_
                                  refine lv_iload_n hx hb d_M_spread_140 rfl (lv_at hl 4 rfl) ?_
                                  refine rv_iald hx hb hE hP 6 rfl (i := r) (by omega) (by omega) (by decide) d_M_spread_141 ?_
                                  refine lv_aload_n hx hb d_M_spread_142 rfl (lv_at hl 1 rfl) ?_
                                  refine va_get (D := G) (ci := 4) (v := .ref (w 8)) (C := R_M) (T := T_M) (N := 16) hx hb hg iw_M hown hE.1 hP 0 rfl rfl 12 (by decide) (hg _ fl_M_36) (fun _ h9 => h9) rfl d_M_spread_143 ?_
                                  refine lv_iload hx hb d_M_spread_146 (lv_at hl 5 rfl) ?_
                                  refine rv_iald hx hb hE hP 4 rfl (i := ix) (by (try have := rcn r); omega) (by (try have := rcn r); omega) (by decide) d_M_spread_148 ?_
                                  refine rv_iadd hx hb d_M_spread_149 ?_
                                  refine rv_iast hx hb hE hP hD hS 6 rfl (i := prt ix) (x := (gfa r) + (pco ix)) (by (try have := rrt ix); omega) (by (try have := rrt ix); omega) (by decide) d_M_spread_150 (fun H locs hP hD hS => ?_)
                                  have hP : va_P G cls0 [(w 0, .inr (4, [.int (iI it), .int (iI cd), .int (iI now), .ref (w 1), .ref (w 2), .int (iI gr), .int (iI md), .ref (w 3), .ref (w 4), .ref (w 5), .ref (w 6), .ref (w 7), .ref (w 8), .int (iI dO), .ref (w 9), .ref (w 10)])), (w 5, .inl (z.1, 66, .inl (aI pcn))), (w 6, .inl (z.1, 1584, .inl (aI prt))), (w 7, .inl (z.1, 1584, .inl (aI pnt))), (w 8, .inl (z.1, 1584, .inl (aI pco))), (w 9, .inl (z.2.1, 1536, .inl (aI pus))), (w 10, .inl (z.1, 64, .inl (aI (uZ gfa (prt ix) ((gfa r) + (pco ix))))))] H := hP
                                  have hD : va_D A [(w 0, .inr (4, [.int (iI it), .int (iI cd), .int (iI now), .ref (w 1), .ref (w 2), .int (iI gr), .int (iI md), .ref (w 3), .ref (w 4), .ref (w 5), .ref (w 6), .ref (w 7), .ref (w 8), .int (iI dO), .ref (w 9), .ref (w 10)])), (w 5, .inl (z.1, 66, .inl (aI pcn))), (w 6, .inl (z.1, 1584, .inl (aI prt))), (w 7, .inl (z.1, 1584, .inl (aI pnt))), (w 8, .inl (z.1, 1584, .inl (aI pco))), (w 9, .inl (z.2.1, 1536, .inl (aI pus))), (w 10, .inl (z.1, 64, .inl (aI (uZ gfa (prt ix) ((gfa r) + (pco ix))))))] := hD
                                  have hrg2 : ∀ i : Int, -1 ≤ uZ gfa (prt ix) (gfa r + pco ix) i ∧ uZ gfa (prt ix) (gfa r + pco ix) i ≤ 64000 := uZ_rng rgfa (by omega)
                                  have hnn2 := sM_nn (fun i => (hrg2 i).1) 64
                                  refine lv_iconst (v := iI 1) hx hb d_M_spread_151 rfl ?_
                                  refine lv_istore_n (lv' := [(2, .int (iI 1)), (5, .int (iI (prt ix))), (0, .ref (w 0)), (1, .int (iI src)), (3, .int (iI r)), (4, .int (iI ix))]) hx hb d_M_spread_152 rfl hl (by decide) rfl (fun ls hl => ?_)
                                  refine lv_iinc (v := iI (ix + 1)) (lv' := [(4, .int (iI (ix + 1))), (2, .int (iI 1)), (5, .int (iI (prt ix))), (0, .ref (w 0)), (1, .int (iI src)), (3, .int (iI r))]) hx hb d_M_spread_153 hl (k := 5) rfl (iI_add _ _) (by decide) rfl (fun ls hl => ?_)
                                  refine lv_goto (tgt := 52) hx hb d_M_spread_156 (by decide) ?_
                                  exact ih52 _ _ (ix + 1) (by (try have := rcn r); (try have := rcn r); omega) (by first | exact hrg2 | exact rgfa) (by first | exact hm | exact Or.inr rfl) (by (try have := rcn r); (try have := rcn r); omega) (by first | exact hup.1 | exact hB) (by first | exact hS1 | exact ⟨hnn2, by omega, fun _ => by omega⟩) (by first | exact fun q => RX_next rcn hrel (hX0 q) | exact fun q => absurd q (by decide)) H _ (hP.sub [0, 1, 2, 3, 4, 5, 6] rfl) (hD.sub [0, 1, 2, 3, 4, 5, 6] (by decide) rfl) hS ls (lv_sub hl [3, 4, 1, 5, 0] rfl)
                    exact L52 ((24 * r + pcn r - (24 * r) : Int).toNat + 1) gfa mr (24 * r) (Nat.lt_succ_self _) rgfa hm (by (try have := rcn r); (try have := rcn r); omega) hB hS1 (fun q => RX_start (by omega) (hX0 q)) H _ (hP.sub [0, 1, 2, 3, 4, 5, 6] rfl) (hD.sub [0, 1, 2, 3, 4, 5, 6] (by decide) rfl) hS ls (lv_sub hl [1, 2, 3, 4, 0] rfl)
              exact L40 ((64 - 0 : Int).toNat + 1) gfa 0 0 (Nat.lt_succ_self _) rgfa (Or.inl rfl) (by omega) hB ⟨by omega, by omega, fun q => absurd q (by decide)⟩ (fun _ => RX_0) H _ (hP.sub [0, 1, 2, 3, 4, 5, 6] rfl) (hD.sub [0, 1, 2, 3, 4, 5, 6] (by decide) rfl) hS ls (lv_sub hl [2, 3, 1, 0] rfl)
        exact L32 ((2 * sM gfa 64 + 1 : Int).toNat + 1) gfa 1 (Nat.lt_succ_self _) rgfa (Or.inr rfl) (BF_0 hsrc (by rcases h0 src hsrc.1 (by omega) with w | w; exact w.2; exact absurd rfl w.1) (fun t t0 t1 ts => by rcases h0 t t0 (by omega) with w | w; exact absurd w.1 ts; exact w.2)) (fun q => absurd q (by decide)) H _ (hP.sub [0, 1, 2, 3, 4, 5, 6] rfl) (hD.sub [0, 1, 2, 3, 4, 5, 6] (by decide) rfl) hS ls (lv_sub hl [1, 2, 0] rfl)
      · skip
        refine lv_aload_n hx hb d_M_spread_8 rfl (lv_at hl 0 rfl) ?_
        refine va_get (D := G) (ci := 4) (v := .ref (w 10)) (C := R_M) (T := T_M) (N := 16) hx hb hg iw_M hown hE.1 hP 0 rfl rfl 15 (by decide) (hg _ fl_M_42) (fun _ h9 => h9) rfl d_M_spread_9 ?_
        refine lv_iload_n hx hb d_M_spread_12 rfl (lv_at hl 2 rfl) ?_
        refine lv_iload_n hx hb d_M_spread_13 rfl (lv_at hl 2 rfl) ?_
        refine lv_iload_n hx hb d_M_spread_14 rfl (lv_at hl 1 rfl) ?_
        refine rv_icmp_ne (tgt := 22) hx hb d_M_spread_15 (by decide) (by constructor <;> omega) (by constructor <;> omega) (fun c_9 => ?_) (fun c_9 => ?_)
        · skip
          refine lv_iconst (v := iI (-1)) hx hb d_M_spread_22 rfl ?_
          refine rv_iast hx hb hE hP hD hS 6 rfl (i := i) (x := (-1)) (by omega) (by omega) (by decide) d_M_spread_23 (fun H locs hP hD hS => ?_)
          have hP : va_P G cls0 [(w 0, .inr (4, [.int (iI it), .int (iI cd), .int (iI now), .ref (w 1), .ref (w 2), .int (iI gr), .int (iI md), .ref (w 3), .ref (w 4), .ref (w 5), .ref (w 6), .ref (w 7), .ref (w 8), .int (iI dO), .ref (w 9), .ref (w 10)])), (w 5, .inl (z.1, 66, .inl (aI pcn))), (w 6, .inl (z.1, 1584, .inl (aI prt))), (w 7, .inl (z.1, 1584, .inl (aI pnt))), (w 8, .inl (z.1, 1584, .inl (aI pco))), (w 9, .inl (z.2.1, 1536, .inl (aI pus))), (w 10, .inl (z.1, 64, .inl (aI (uZ gfa i ((-1))))))] H := hP
          have hD : va_D A [(w 0, .inr (4, [.int (iI it), .int (iI cd), .int (iI now), .ref (w 1), .ref (w 2), .int (iI gr), .int (iI md), .ref (w 3), .ref (w 4), .ref (w 5), .ref (w 6), .ref (w 7), .ref (w 8), .int (iI dO), .ref (w 9), .ref (w 10)])), (w 5, .inl (z.1, 66, .inl (aI pcn))), (w 6, .inl (z.1, 1584, .inl (aI prt))), (w 7, .inl (z.1, 1584, .inl (aI pnt))), (w 8, .inl (z.1, 1584, .inl (aI pco))), (w 9, .inl (z.2.1, 1536, .inl (aI pus))), (w 10, .inl (z.1, 64, .inl (aI (uZ gfa i ((-1))))))] := hD
          refine lv_iinc (v := iI (i + 1)) (lv' := [(2, .int (iI (i + 1))), (0, .ref (w 0)), (1, .int (iI src))]) hx hb d_M_spread_24 hl (k := 2) rfl (iI_add _ _) (by decide) rfl (fun ls hl => ?_)
          refine lv_goto (tgt := 2) hx hb d_M_spread_27 (by decide) ?_
          exact ih2 _ (i + 1) (by omega) (uZ_rng rgfa (by omega)) (by omega) (fun t t0 t1 => if e : t = i then (by subst e; rw [uZ_s]; first | exact Or.inl ⟨by omega, rfl⟩ | exact Or.inr ⟨by omega, rfl⟩) else (by rw [uZ_n e]; exact h0 t t0 (by omega))) H _ (hP.sub [0, 1, 2, 3, 4, 5, 6] rfl) (hD.sub [0, 1, 2, 3, 4, 5, 6] (by decide) rfl) hS ls (lv_sub hl [1, 2, 0] rfl)
        · skip
          refine lv_iconst (v := iI 0) hx hb d_M_spread_18 rfl ?_
          refine lv_goto (tgt := 23) hx hb d_M_spread_19 (by decide) ?_
          refine rv_iast hx hb hE hP hD hS 6 rfl (i := i) (x := 0) (by omega) (by omega) (by decide) d_M_spread_23 (fun H locs hP hD hS => ?_)
          have hP : va_P G cls0 [(w 0, .inr (4, [.int (iI it), .int (iI cd), .int (iI now), .ref (w 1), .ref (w 2), .int (iI gr), .int (iI md), .ref (w 3), .ref (w 4), .ref (w 5), .ref (w 6), .ref (w 7), .ref (w 8), .int (iI dO), .ref (w 9), .ref (w 10)])), (w 5, .inl (z.1, 66, .inl (aI pcn))), (w 6, .inl (z.1, 1584, .inl (aI prt))), (w 7, .inl (z.1, 1584, .inl (aI pnt))), (w 8, .inl (z.1, 1584, .inl (aI pco))), (w 9, .inl (z.2.1, 1536, .inl (aI pus))), (w 10, .inl (z.1, 64, .inl (aI (uZ gfa i 0))))] H := hP
          have hD : va_D A [(w 0, .inr (4, [.int (iI it), .int (iI cd), .int (iI now), .ref (w 1), .ref (w 2), .int (iI gr), .int (iI md), .ref (w 3), .ref (w 4), .ref (w 5), .ref (w 6), .ref (w 7), .ref (w 8), .int (iI dO), .ref (w 9), .ref (w 10)])), (w 5, .inl (z.1, 66, .inl (aI pcn))), (w 6, .inl (z.1, 1584, .inl (aI prt))), (w 7, .inl (z.1, 1584, .inl (aI pnt))), (w 8, .inl (z.1, 1584, .inl (aI pco))), (w 9, .inl (z.2.1, 1536, .inl (aI pus))), (w 10, .inl (z.1, 64, .inl (aI (uZ gfa i 0))))] := hD
          refine lv_iinc (v := iI (i + 1)) (lv' := [(2, .int (iI (i + 1))), (0, .ref (w 0)), (1, .int (iI src))]) hx hb d_M_spread_24 hl (k := 2) rfl (iI_add _ _) (by decide) rfl (fun ls hl => ?_)
          refine lv_goto (tgt := 2) hx hb d_M_spread_27 (by decide) ?_
          exact ih2 _ (i + 1) (by omega) (uZ_rng rgfa (by omega)) (by omega) (fun t t0 t1 => if e : t = i then (by subst e; rw [uZ_s]; first | exact Or.inl ⟨by omega, rfl⟩ | exact Or.inr ⟨by omega, rfl⟩) else (by rw [uZ_n e]; exact h0 t t0 (by omega))) H _ (hP.sub [0, 1, 2, 3, 4, 5, 6] rfl) (hD.sub [0, 1, 2, 3, 4, 5, 6] (by decide) rfl) hS ls (lv_sub hl [1, 2, 0] rfl)
  exact L2 ((64 - 0 : Int).toNat + 1) pfa 0 (Nat.lt_succ_self _) rfa (by omega) (fun t t0 t1 => absurd t1 (by omega)) H _ (hP.sub [0, 1, 2, 3, 4, 5, 6] rfl) (hD.sub [0, 1, 2, 3, 4, 5, 6] (by decide) rfl) hS ls (lv_sub hl [1, 2, 0] rfl)
set_option maxHeartbeats 4000000 in
set_option maxRecDepth 100000 in
theorem k_M_reach (l : Launch) (G : va_G) (z : tz3) (w : Nat → Nat) (it : Int) (cd : Int) (now : Int) (gr : Int) (md : Int) (dO : Int) (pcn : Int → Int) (prt : Int → Int) (pnt : Int → Int) (pco : Int → Int) (pfa : Int → Int) (net : Int) (rcn : ∀ i : Int, 0 ≤ pcn i ∧ pcn i ≤ 24) (rrt : ∀ i : Int, -1 ≤ prt i ∧ prt i ≤ 63) (rnt : ∀ i : Int, 0 ≤ pnt i ∧ pnt i ≤ 63) (rco : ∀ i : Int, 0 ≤ pco i ∧ pco i ≤ 1000) (rfa : ∀ i : Int, -1 ≤ pfa i ∧ pfa i ≤ 64000) (hAK : AOK pcn prt pco) (hUQ : UNQ pcn prt pnt) (hnet : 0 ≤ net ∧ net < 64) : Ki l y_M_reach c_M_reach 6 (some .int) (rmD 1) G z [.ref (w 0), .int (iI net)] [(w 0, .inr (4, [.int (iI it), .int (iI cd), .int (iI now), .ref (w 1), .ref (w 2), .int (iI gr), .int (iI md), .ref (w 3), .ref (w 4), .ref (w 5), .ref (w 6), .ref (w 7), .ref (w 8), .int (iI dO), .ref (w 9), .ref (w 10)])), (w 5, .inl (z.1, 66, .inl (aI pcn))), (w 6, .inl (z.1, 1584, .inl (aI prt))), (w 7, .inl (z.1, 1584, .inl (aI pnt))), (w 8, .inl (z.1, 1584, .inl (aI pco))), (w 10, .inl (z.1, 64, .inl (aI pfa)))] (fun r9 u9 => ∃ (rv : Int), u9 = [(w 0, .inr (4, [.int (iI it), .int (iI cd), .int (iI now), .ref (w 1), .ref (w 2), .int (iI gr), .int (iI md), .ref (w 3), .ref (w 4), .ref (w 5), .ref (w 6), .ref (w 7), .ref (w 8), .int (iI dO), .ref (w 9), .ref (w 10)])), (w 5, .inl (z.1, 66, .inl (aI pcn))), (w 6, .inl (z.1, 1584, .inl (aI prt))), (w 7, .inl (z.1, 1584, .inl (aI pnt))), (w 8, .inl (z.1, 1584, .inl (aI pco))), (w 10, .inl (z.1, 64, .inl (aI pfa)))] ∧ r9 = iI rv ∧ (-1 ≤ rv ∧ rv ≤ 65000) ∧ (LST pcn prt pnt pco pfa net 64 rv)) := by
  refine Ki.of (by decide) (Nat.le_of_ble_eq_true rfl) ?_
  intro p e s m below meth c A hB hP hD ls hl
  obtain ⟨hx, hb, hRt, hml, hown, hlocks, hg, hE, hA, hin⟩ := hB
  have hown : s.vm.findClass R_M = some m.cls := hown
  have hl : lv_has ls 6 [(0, .ref (w 0)), (1, .int (iI net))] := hl
  obtain ⟨H, hH⟩ : ∃ H, H = s.heap := ⟨_, rfl⟩
  have hS : va_S A s.heap H [] := by rw [hH]; exact va_S.rf
  rw [← hH] at hP
  rw [← hH]
  have hP : va_P G cls0 [(w 0, .inr (4, [.int (iI it), .int (iI cd), .int (iI now), .ref (w 1), .ref (w 2), .int (iI gr), .int (iI md), .ref (w 3), .ref (w 4), .ref (w 5), .ref (w 6), .ref (w 7), .ref (w 8), .int (iI dO), .ref (w 9), .ref (w 10)])), (w 5, .inl (z.1, 66, .inl (aI pcn))), (w 6, .inl (z.1, 1584, .inl (aI prt))), (w 7, .inl (z.1, 1584, .inl (aI pnt))), (w 8, .inl (z.1, 1584, .inl (aI pco))), (w 10, .inl (z.1, 64, .inl (aI pfa)))] H := hP
  have hD : va_D A [(w 0, .inr (4, [.int (iI it), .int (iI cd), .int (iI now), .ref (w 1), .ref (w 2), .int (iI gr), .int (iI md), .ref (w 3), .ref (w 4), .ref (w 5), .ref (w 6), .ref (w 7), .ref (w 8), .int (iI dO), .ref (w 9), .ref (w 10)])), (w 5, .inl (z.1, 66, .inl (aI pcn))), (w 6, .inl (z.1, 1584, .inl (aI prt))), (w 7, .inl (z.1, 1584, .inl (aI pnt))), (w 8, .inl (z.1, 1584, .inl (aI pco))), (w 10, .inl (z.1, 64, .inl (aI pfa)))] := hD
  refine lv_iconst (v := iI (-1)) hx hb d_M_reach_0 rfl ?_
  refine lv_istore_n (lv' := [(2, .int (iI ((-1)))), (0, .ref (w 0)), (1, .int (iI net))]) hx hb d_M_reach_1 rfl hl (by decide) rfl (fun ls hl => ?_)
  refine lv_iconst (v := iI 0) hx hb d_M_reach_2 rfl ?_
  refine lv_istore_n (lv' := [(3, .int (iI 0)), (2, .int (iI ((-1)))), (0, .ref (w 0)), (1, .int (iI net))]) hx hb d_M_reach_3 rfl hl (by decide) rfl (fun ls hl => ?_)
  have L4 : ∀ n9 : Nat, ∀ (L : Int) (i : Int), (64 - i : Int).toNat < n9 → (0 ≤ i ∧ i ≤ 64 ∧ -1 ≤ L ∧ L ≤ 65000) → (LST pcn prt pnt pco pfa net i L) → ∀ (H : Heap) (locs : List Loc), va_P G cls0 [(w 0, .inr (4, [.int (iI it), .int (iI cd), .int (iI now), .ref (w 1), .ref (w 2), .int (iI gr), .int (iI md), .ref (w 3), .ref (w 4), .ref (w 5), .ref (w 6), .ref (w 7), .ref (w 8), .int (iI dO), .ref (w 9), .ref (w 10)])), (w 5, .inl (z.1, 66, .inl (aI pcn))), (w 6, .inl (z.1, 1584, .inl (aI prt))), (w 7, .inl (z.1, 1584, .inl (aI pnt))), (w 8, .inl (z.1, 1584, .inl (aI pco))), (w 10, .inl (z.1, 64, .inl (aI pfa)))] H → va_D A [(w 0, .inr (4, [.int (iI it), .int (iI cd), .int (iI now), .ref (w 1), .ref (w 2), .int (iI gr), .int (iI md), .ref (w 3), .ref (w 4), .ref (w 5), .ref (w 6), .ref (w 7), .ref (w 8), .int (iI dO), .ref (w 9), .ref (w 10)])), (w 5, .inl (z.1, 66, .inl (aI pcn))), (w 6, .inl (z.1, 1584, .inl (aI prt))), (w 7, .inl (z.1, 1584, .inl (aI pnt))), (w 8, .inl (z.1, 1584, .inl (aI pco))), (w 10, .inl (z.1, 64, .inl (aI pfa)))] → va_S A s.heap H locs → ∀ ls : Array Slot, lv_has ls 6 [(0, .ref (w 0)), (1, .int (iI net)), (2, .int (iI L)), (3, .int (iI i))] → W p l e (rmD 1) s m [.ref (w 0), .int (iI net)].toArray below meth c H locs 0 0 (Zi below [.ref (w 0), .int (iI net)].toArray s (rmD 1) G A (fun r9 u9 => ∃ (rv : Int), u9 = [(w 0, .inr (4, [.int (iI it), .int (iI cd), .int (iI now), .ref (w 1), .ref (w 2), .int (iI gr), .int (iI md), .ref (w 3), .ref (w 4), .ref (w 5), .ref (w 6), .ref (w 7), .ref (w 8), .int (iI dO), .ref (w 9), .ref (w 10)])), (w 5, .inl (z.1, 66, .inl (aI pcn))), (w 6, .inl (z.1, 1584, .inl (aI prt))), (w 7, .inl (z.1, 1584, .inl (aI pnt))), (w 8, .inl (z.1, 1584, .inl (aI pco))), (w 10, .inl (z.1, 64, .inl (aI pfa)))] ∧ r9 = iI rv ∧ (-1 ≤ rv ∧ rv ≤ 65000) ∧ (LST pcn prt pnt pco pfa net 64 rv))) (F0 m 4 ls []) := by
    intro n9
    induction n9 with
    | zero => intro L i hmu; exact absurd hmu (Nat.not_lt_zero _)
    | succ n9 ih4 =>
      intro L i hmu hi hL H locs hP hD hS ls hl
      refine lv_iload_n hx hb d_M_reach_4 rfl (lv_at hl 3 rfl) ?_
      refine lv_bipush (v := iI 64) hx hb d_M_reach_5 (by decide +kernel) ?_
      refine rv_icmp_ge (tgt := 85) hx hb d_M_reach_7 (by decide) (by constructor <;> omega) ⟨by decide, by decide⟩ (fun c_1 => ?_) (fun c_1 => ?_)
      · skip
        refine lv_iload_n hx hb d_M_reach_85 rfl (lv_at hl 2 rfl) ?_
        have hP9 : va_P G cls0 [(w 0, .inr (4, [.int (iI it), .int (iI cd), .int (iI now), .ref (w 1), .ref (w 2), .int (iI gr), .int (iI md), .ref (w 3), .ref (w 4), .ref (w 5), .ref (w 6), .ref (w 7), .ref (w 8), .int (iI dO), .ref (w 9), .ref (w 10)])), (w 5, .inl (z.1, 66, .inl (aI pcn))), (w 6, .inl (z.1, 1584, .inl (aI prt))), (w 7, .inl (z.1, 1584, .inl (aI pnt))), (w 8, .inl (z.1, 1584, .inl (aI pco))), (w 10, .inl (z.1, 64, .inl (aI pfa)))] H := hP.sub [0, 1, 2, 3, 4, 5] rfl
        have hD9 : va_D A [(w 0, .inr (4, [.int (iI it), .int (iI cd), .int (iI now), .ref (w 1), .ref (w 2), .int (iI gr), .int (iI md), .ref (w 3), .ref (w 4), .ref (w 5), .ref (w 6), .ref (w 7), .ref (w 8), .int (iI dO), .ref (w 9), .ref (w 10)])), (w 5, .inl (z.1, 66, .inl (aI pcn))), (w 6, .inl (z.1, 1584, .inl (aI prt))), (w 7, .inl (z.1, 1584, .inl (aI pnt))), (w 8, .inl (z.1, 1584, .inl (aI pco))), (w 10, .inl (z.1, 64, .inl (aI pfa)))] := hD.sub [0, 1, 2, 3, 4, 5] (by decide) rfl
        refine rv_iret hx hb hRt (nar_int _) hlocks (Nat.le_of_ble_eq_true rfl) (Nat.le_of_ble_eq_true rfl) hP9 hD9 hS d_M_reach_86 ?_
        exact ⟨L, rfl, rfl, (by omega), (by rw [show (64 : Int) = i by omega]; exact hL)⟩
      · skip
        refine lv_aload_n hx hb d_M_reach_10 rfl (lv_at hl 0 rfl) ?_
        refine va_get (D := G) (ci := 4) (v := .ref (w 10)) (C := R_M) (T := T_M) (N := 16) hx hb hg iw_M hown hE.1 hP 0 rfl rfl 15 (by decide) (hg _ fl_M_42) (fun _ h9 => h9) rfl d_M_reach_11 ?_
        refine lv_iload_n hx hb d_M_reach_14 rfl (lv_at hl 3 rfl) ?_
        refine rv_iald hx hb hE hP 5 rfl (i := i) (by omega) (by omega) (by decide) d_M_reach_15 ?_
        refine rv_if_ge (tgt := 23) hx hb d_M_reach_16 (by decide) (by (try have := rfa i); constructor <;> omega) (fun c_2 => ?_) (fun c_2 => ?_)
        · skip
          refine lv_aload_n hx hb d_M_reach_23 rfl (lv_at hl 0 rfl) ?_
          refine lv_iload_n hx hb d_M_reach_24 rfl (lv_at hl 3 rfl) ?_
          refine lv_iconst (v := iI (-1)) hx hb d_M_reach_25 rfl ?_
          refine lv_iload_n hx hb d_M_reach_26 rfl (lv_at hl 1 rfl) ?_
          refine qV_i (As := [.int (iI i), .int (iI ((-1))), .int (iI net)]) (rest := []) (wr := [(w 8, .inl (z.1, 1584, .inl (aI pco))), (w 10, .inl (z.1, 64, .inl (aI pfa)))]) hx hb hml hown hg hE hA hS hP hD (k_M_find l G z w it cd now gr md dO pcn prt pnt i ((-1)) net (by assumption) (by assumption) (by assumption) (by omega) (by omega) (by omega)) [0, 1, 2, 3] [4, 5] rfl rfl (by decide) (by decide) (by decide) (q0 := 0) rfl rfl ml_M_70 im_M_find se_M_find in_M co_M_find ok_M_find ⟨Nat.le_of_ble_eq_true rfl, Nat.le_of_ble_eq_true rfl⟩ hl.1 rfl (Nat.le_of_ble_eq_true rfl) d_M_reach_27 ⟨Nat.le_of_ble_eq_true rfl, Nat.le_of_ble_eq_true rfl⟩ (fun r9 u9 H locs hw hP hD hS => ?_)
          obtain ⟨fd, rfl, rfl, fd0, fd1⟩ := hw
          have hP : va_P G cls0 [(w 8, .inl (z.1, 1584, .inl (aI pco))), (w 10, .inl (z.1, 64, .inl (aI pfa))), (w 0, .inr (4, [.int (iI it), .int (iI cd), .int (iI now), .ref (w 1), .ref (w 2), .int (iI gr), .int (iI md), .ref (w 3), .ref (w 4), .ref (w 5), .ref (w 6), .ref (w 7), .ref (w 8), .int (iI dO), .ref (w 9), .ref (w 10)])), (w 5, .inl (z.1, 66, .inl (aI pcn))), (w 6, .inl (z.1, 1584, .inl (aI prt))), (w 7, .inl (z.1, 1584, .inl (aI pnt)))] H := hP
          have hD : va_D A [(w 8, .inl (z.1, 1584, .inl (aI pco))), (w 10, .inl (z.1, 64, .inl (aI pfa))), (w 0, .inr (4, [.int (iI it), .int (iI cd), .int (iI now), .ref (w 1), .ref (w 2), .int (iI gr), .int (iI md), .ref (w 3), .ref (w 4), .ref (w 5), .ref (w 6), .ref (w 7), .ref (w 8), .int (iI dO), .ref (w 9), .ref (w 10)])), (w 5, .inl (z.1, 66, .inl (aI pcn))), (w 6, .inl (z.1, 1584, .inl (aI prt))), (w 7, .inl (z.1, 1584, .inl (aI pnt)))] := hD
          skip
          refine lv_istore (lv' := [(4, .int (iI fd)), (0, .ref (w 0)), (1, .int (iI net)), (2, .int (iI L)), (3, .int (iI i))]) hx hb d_M_reach_30 hl (by decide) rfl (fun ls hl => ?_)
          refine lv_iload hx hb d_M_reach_32 (lv_at hl 0 rfl) ?_
          refine rv_if_ge (tgt := 41) hx hb d_M_reach_34 (by decide) (by constructor <;> omega) (fun c_3 => ?_) (fun c_3 => ?_)
          · skip
            have hps1 : ps pcn prt pnt pco pfa i net (pfa i + pco fd) := by
              rcases fd1 with ⟨q, -⟩ | ⟨j, j0, j1, j2, j3, q⟩
              · omega
              · exact ⟨by omega, j, j0, j1, j2, j3, by rw [q]⟩
            clear fd1
            have hpp := ps_pos hAK rfa (show 0 ≤ i by omega) (show i < 64 by omega) hps1
            refine lv_aload_n hx hb d_M_reach_41 rfl (lv_at hl 1 rfl) ?_
            refine va_get (D := G) (ci := 4) (v := .ref (w 10)) (C := R_M) (T := T_M) (N := 16) hx hb hg iw_M hown hE.1 hP 2 rfl rfl 15 (by decide) (hg _ fl_M_42) (fun _ h9 => h9) rfl d_M_reach_42 ?_
            refine lv_iload_n hx hb d_M_reach_45 rfl (lv_at hl 4 rfl) ?_
            refine rv_iald hx hb hE hP 1 rfl (i := i) (by omega) (by omega) (by decide) d_M_reach_46 ?_
            refine lv_aload_n hx hb d_M_reach_47 rfl (lv_at hl 1 rfl) ?_
            refine va_get (D := G) (ci := 4) (v := .ref (w 8)) (C := R_M) (T := T_M) (N := 16) hx hb hg iw_M hown hE.1 hP 2 rfl rfl 12 (by decide) (hg _ fl_M_36) (fun _ h9 => h9) rfl d_M_reach_48 ?_
            refine lv_iload hx hb d_M_reach_51 (lv_at hl 0 rfl) ?_
            refine rv_iald hx hb hE hP 0 rfl (i := fd) (by omega) (by omega) (by decide) d_M_reach_53 ?_
            refine rv_iadd hx hb d_M_reach_54 ?_
            refine lv_istore (lv' := [(5, .int (iI ((pfa i) + (pco fd)))), (4, .int (iI fd)), (0, .ref (w 0)), (1, .int (iI net)), (2, .int (iI L)), (3, .int (iI i))]) hx hb d_M_reach_55 hl (by decide) rfl (fun ls hl => ?_)
            refine lv_iload hx hb d_M_reach_57 (lv_at hl 0 rfl) ?_
            refine rv_if_lt (tgt := 77) hx hb d_M_reach_59 (by decide) (by (try have := rco fd); (try have := rfa i); constructor <;> omega) (fun c_4 => ?_) (fun c_4 => ?_)
            · skip
              have hstep : LST pcn prt pnt pco pfa net (i + 1) L := by first | exact LST_none hL hps rfl (fun q => by have := ps_pos hAK rfa (show 0 ≤ i by omega) (show i < 64 by omega) q; omega) | (exfalso; omega)
              refine lv_iload_n hx hb d_M_reach_77 rfl (lv_at hl 4 rfl) ?_
              refine lv_istore_n (lv' := [(2, .int (iI L)), (5, .int (iI ((pfa i) + (pco fd)))), (4, .int (iI fd)), (0, .ref (w 0)), (1, .int (iI net)), (3, .int (iI i))]) hx hb d_M_reach_78 rfl hl (by decide) rfl (fun ls hl => ?_)
              refine lv_iinc (v := iI (i + 1)) (lv' := [(3, .int (iI (i + 1))), (2, .int (iI L)), (5, .int (iI ((pfa i) + (pco fd)))), (4, .int (iI fd)), (0, .ref (w 0)), (1, .int (iI net))]) hx hb d_M_reach_79 hl (k := 5) rfl (iI_add _ _) (by decide) rfl (fun ls hl => ?_)
              refine lv_goto (tgt := 4) hx hb d_M_reach_82 (by decide) ?_
              exact ih4 _ (i + 1) (by omega) (by omega) (by first | exact hstep | exact LST_none hL hps rfl (fun q => by have := ps_pos hAK rfa (show 0 ≤ i by omega) (show i < 64 by omega) q; omega)) H _ (hP.sub [2, 3, 4, 5, 0, 1] rfl) (hD.sub [2, 3, 4, 5, 0, 1] (by decide) rfl) hS ls (lv_sub hl [4, 5, 1, 0] rfl)
            · skip
              refine lv_iload_n hx hb d_M_reach_62 rfl (lv_at hl 4 rfl) ?_
              refine rv_if_lt (tgt := 72) hx hb d_M_reach_63 (by decide) (by constructor <;> omega) (fun c_5 => ?_) (fun c_5 => ?_)
              · skip
                have hstep : LST pcn prt pnt pco pfa net (i + 1) (pfa i + pco fd) := LST_take hUQ ⟨hi.1, by omega⟩ hL hps1 (by omega) (Or.inl (by omega))
                refine lv_iload hx hb d_M_reach_72 (lv_at hl 0 rfl) ?_
                refine lv_goto (tgt := 78) hx hb d_M_reach_74 (by decide) ?_
                refine lv_istore_n (lv' := [(2, .int (iI ((pfa i) + (pco fd)))), (5, .int (iI ((pfa i) + (pco fd)))), (4, .int (iI fd)), (0, .ref (w 0)), (1, .int (iI net)), (3, .int (iI i))]) hx hb d_M_reach_78 rfl hl (by decide) rfl (fun ls hl => ?_)
                refine lv_iinc (v := iI (i + 1)) (lv' := [(3, .int (iI (i + 1))), (2, .int (iI ((pfa i) + (pco fd)))), (5, .int (iI ((pfa i) + (pco fd)))), (4, .int (iI fd)), (0, .ref (w 0)), (1, .int (iI net))]) hx hb d_M_reach_79 hl (k := 5) rfl (iI_add _ _) (by decide) rfl (fun ls hl => ?_)
                refine lv_goto (tgt := 4) hx hb d_M_reach_82 (by decide) ?_
                exact ih4 _ (i + 1) (by omega) (by omega) (by first | exact hstep | exact LST_none hL hps rfl (fun q => by have := ps_pos hAK rfa (show 0 ≤ i by omega) (show i < 64 by omega) q; omega)) H _ (hP.sub [2, 3, 4, 5, 0, 1] rfl) (hD.sub [2, 3, 4, 5, 0, 1] (by decide) rfl) hS ls (lv_sub hl [4, 5, 1, 0] rfl)
              · skip
                refine lv_iload hx hb d_M_reach_66 (lv_at hl 0 rfl) ?_
                refine lv_iload_n hx hb d_M_reach_68 rfl (lv_at hl 4 rfl) ?_
                refine rv_icmp_ge (tgt := 77) hx hb d_M_reach_69 (by decide) (by (try have := rco fd); (try have := rfa i); constructor <;> omega) (by constructor <;> omega) (fun c_6 => ?_) (fun c_6 => ?_)
                · skip
                  have hstep : LST pcn prt pnt pco pfa net (i + 1) L := LST_keep hUQ ⟨hi.1, by omega⟩ hL hps1 (by omega) (by omega)
                  refine lv_iload_n hx hb d_M_reach_77 rfl (lv_at hl 4 rfl) ?_
                  refine lv_istore_n (lv' := [(2, .int (iI L)), (5, .int (iI ((pfa i) + (pco fd)))), (4, .int (iI fd)), (0, .ref (w 0)), (1, .int (iI net)), (3, .int (iI i))]) hx hb d_M_reach_78 rfl hl (by decide) rfl (fun ls hl => ?_)
                  refine lv_iinc (v := iI (i + 1)) (lv' := [(3, .int (iI (i + 1))), (2, .int (iI L)), (5, .int (iI ((pfa i) + (pco fd)))), (4, .int (iI fd)), (0, .ref (w 0)), (1, .int (iI net))]) hx hb d_M_reach_79 hl (k := 5) rfl (iI_add _ _) (by decide) rfl (fun ls hl => ?_)
                  refine lv_goto (tgt := 4) hx hb d_M_reach_82 (by decide) ?_
                  exact ih4 _ (i + 1) (by omega) (by omega) (by first | exact hstep | exact LST_none hL hps rfl (fun q => by have := ps_pos hAK rfa (show 0 ≤ i by omega) (show i < 64 by omega) q; omega)) H _ (hP.sub [2, 3, 4, 5, 0, 1] rfl) (hD.sub [2, 3, 4, 5, 0, 1] (by decide) rfl) hS ls (lv_sub hl [4, 5, 1, 0] rfl)
                · skip
                  have hstep : LST pcn prt pnt pco pfa net (i + 1) (pfa i + pco fd) := LST_take hUQ ⟨hi.1, by omega⟩ hL hps1 (by omega) (Or.inr (by omega))
                  refine lv_iload hx hb d_M_reach_72 (lv_at hl 0 rfl) ?_
                  refine lv_goto (tgt := 78) hx hb d_M_reach_74 (by decide) ?_
                  refine lv_istore_n (lv' := [(2, .int (iI ((pfa i) + (pco fd)))), (5, .int (iI ((pfa i) + (pco fd)))), (4, .int (iI fd)), (0, .ref (w 0)), (1, .int (iI net)), (3, .int (iI i))]) hx hb d_M_reach_78 rfl hl (by decide) rfl (fun ls hl => ?_)
                  refine lv_iinc (v := iI (i + 1)) (lv' := [(3, .int (iI (i + 1))), (2, .int (iI ((pfa i) + (pco fd)))), (5, .int (iI ((pfa i) + (pco fd)))), (4, .int (iI fd)), (0, .ref (w 0)), (1, .int (iI net))]) hx hb d_M_reach_79 hl (k := 5) rfl (iI_add _ _) (by decide) rfl (fun ls hl => ?_)
                  refine lv_goto (tgt := 4) hx hb d_M_reach_82 (by decide) ?_
                  exact ih4 _ (i + 1) (by omega) (by omega) (by first | exact hstep | exact LST_none hL hps rfl (fun q => by have := ps_pos hAK rfa (show 0 ≤ i by omega) (show i < 64 by omega) q; omega)) H _ (hP.sub [2, 3, 4, 5, 0, 1] rfl) (hD.sub [2, 3, 4, 5, 0, 1] (by decide) rfl) hS ls (lv_sub hl [4, 5, 1, 0] rfl)
          · skip
            have hps : PSO pcn prt pnt pco pfa i net (-1) := by
              refine Or.inl ⟨rfl, ?_⟩
              rintro w ⟨q0, k, k0, k1, k2, k3, -⟩
              rcases fd1 with ⟨-, q⟩ | ⟨j, j0, -, -, -, q⟩
              · exact q k k0 k1 ⟨k2, k3⟩
              · omega
            clear fd1
            refine lv_iconst (v := iI (-1)) hx hb d_M_reach_37 rfl ?_
            refine lv_goto (tgt := 55) hx hb d_M_reach_38 (by decide) ?_
            refine lv_istore (lv' := [(5, .int (iI ((-1)))), (4, .int (iI fd)), (0, .ref (w 0)), (1, .int (iI net)), (2, .int (iI L)), (3, .int (iI i))]) hx hb d_M_reach_55 hl (by decide) rfl (fun ls hl => ?_)
            refine lv_iload hx hb d_M_reach_57 (lv_at hl 0 rfl) ?_
            refine rv_if_lt (tgt := 77) hx hb d_M_reach_59 (by decide) ⟨by decide, by decide⟩ (fun c_7 => ?_) (fun c_7 => ?_)
            · skip
              refine lv_iload_n hx hb d_M_reach_77 rfl (lv_at hl 4 rfl) ?_
              refine lv_istore_n (lv' := [(2, .int (iI L)), (5, .int (iI ((-1)))), (4, .int (iI fd)), (0, .ref (w 0)), (1, .int (iI net)), (3, .int (iI i))]) hx hb d_M_reach_78 rfl hl (by decide) rfl (fun ls hl => ?_)
              refine lv_iinc (v := iI (i + 1)) (lv' := [(3, .int (iI (i + 1))), (2, .int (iI L)), (5, .int (iI ((-1)))), (4, .int (iI fd)), (0, .ref (w 0)), (1, .int (iI net))]) hx hb d_M_reach_79 hl (k := 5) rfl (iI_add _ _) (by decide) rfl (fun ls hl => ?_)
              refine lv_goto (tgt := 4) hx hb d_M_reach_82 (by decide) ?_
              exact ih4 _ (i + 1) (by omega) (by omega) (by first | exact hstep | exact LST_none hL hps rfl (fun q => by have := ps_pos hAK rfa (show 0 ≤ i by omega) (show i < 64 by omega) q; omega)) H _ (hP.sub [2, 3, 4, 5, 0, 1] rfl) (hD.sub [2, 3, 4, 5, 0, 1] (by decide) rfl) hS ls (lv_sub hl [4, 5, 1, 0] rfl)
            · exact absurd c_7 (by decide)
        · skip
          have hps : PSO pcn prt pnt pco pfa i net (-1) := Or.inl ⟨rfl, fun w q => q.1 (by have := rfa i; omega)⟩
          have hfd : True := trivial
          refine lv_iconst (v := iI (-1)) hx hb d_M_reach_19 rfl ?_
          refine lv_goto (tgt := 30) hx hb d_M_reach_20 (by decide) ?_
          skip
          refine lv_istore (lv' := [(4, .int (iI ((-1)))), (0, .ref (w 0)), (1, .int (iI net)), (2, .int (iI L)), (3, .int (iI i))]) hx hb d_M_reach_30 hl (by decide) rfl (fun ls hl => ?_)
          refine lv_iload hx hb d_M_reach_32 (lv_at hl 0 rfl) ?_
          refine rv_if_ge (tgt := 41) hx hb d_M_reach_34 (by decide) ⟨by decide, by decide⟩ (fun c_8 => ?_) (fun c_8 => ?_)
          · exact absurd c_8 (by decide)
          · skip
            refine lv_iconst (v := iI (-1)) hx hb d_M_reach_37 rfl ?_
            refine lv_goto (tgt := 55) hx hb d_M_reach_38 (by decide) ?_
            refine lv_istore (lv' := [(5, .int (iI ((-1)))), (4, .int (iI ((-1)))), (0, .ref (w 0)), (1, .int (iI net)), (2, .int (iI L)), (3, .int (iI i))]) hx hb d_M_reach_55 hl (by decide) rfl (fun ls hl => ?_)
            refine lv_iload hx hb d_M_reach_57 (lv_at hl 0 rfl) ?_
            refine rv_if_lt (tgt := 77) hx hb d_M_reach_59 (by decide) ⟨by decide, by decide⟩ (fun c_9 => ?_) (fun c_9 => ?_)
            · skip
              refine lv_iload_n hx hb d_M_reach_77 rfl (lv_at hl 4 rfl) ?_
              refine lv_istore_n (lv' := [(2, .int (iI L)), (5, .int (iI ((-1)))), (4, .int (iI ((-1)))), (0, .ref (w 0)), (1, .int (iI net)), (3, .int (iI i))]) hx hb d_M_reach_78 rfl hl (by decide) rfl (fun ls hl => ?_)
              refine lv_iinc (v := iI (i + 1)) (lv' := [(3, .int (iI (i + 1))), (2, .int (iI L)), (5, .int (iI ((-1)))), (4, .int (iI ((-1)))), (0, .ref (w 0)), (1, .int (iI net))]) hx hb d_M_reach_79 hl (k := 5) rfl (iI_add _ _) (by decide) rfl (fun ls hl => ?_)
              refine lv_goto (tgt := 4) hx hb d_M_reach_82 (by decide) ?_
              exact ih4 _ (i + 1) (by omega) (by omega) (by first | exact hstep | exact LST_none hL hps rfl (fun q => by have := ps_pos hAK rfa (show 0 ≤ i by omega) (show i < 64 by omega) q; omega)) H _ (hP.sub [0, 1, 2, 3, 4, 5] rfl) (hD.sub [0, 1, 2, 3, 4, 5] (by decide) rfl) hS ls (lv_sub hl [4, 5, 1, 0] rfl)
            · exact absurd c_9 (by decide)
  exact L4 ((64 - 0 : Int).toNat + 1) (-1) 0 (Nat.lt_succ_self _) (by omega) LST_0 H _ (hP.sub [0, 1, 2, 3, 4, 5] rfl) (hD.sub [0, 1, 2, 3, 4, 5] (by decide) rfl) hS ls (lv_sub hl [2, 3, 1, 0] rfl)
