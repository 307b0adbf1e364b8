theorem rel_come {self : Int} {dO : Int} {dN : Int} {now : Int} {lm : Int} {go : Int} {fpo : Int → Int} {ffr : Int → Int} {pn : Int} {fn : Int} {fnu : Int → Int} {ftk : Int → Int} {fsz : Int → Int} {frt : Int → Int} {fnt : Int → Int} {fco : Int → Int} {fresh : Int} {fsu : Int → Int} {fsr : Int → Int} {fse : Int → Int} {it : Int} {mnow : Int} {gr : Int} {md : Int} {mO : Int} {ppo : Int → Int} {pfr : Int → Int} {pnu : Int → Int} {psi : Int → Int} {pcn : Int → Int} {prt : Int → Int} {pnt : Int → Int} {pco : Int → Int} {pus : Int → Int} {pfa : Int → Int} {gb : Int} {kc : Int} {ov : Int} {ndO : Int} {ngo : Int} {nnu : Int → Int} {ntk : Int → Int} {nsz : Int → Int} {nrt : Int → Int} {nnt : Int → Int} {nco : Int → Int} {nfresh : Int} {rv : Int} {c2 : Int} {gr2 : Int} {gnu : Int → Int} {gsi : Int → Int} {gcn : Int → Int} {grt : Int → Int} {gnt : Int → Int} {gco : Int → Int} (hR : REL self dO dN now lm go fpo ffr pn fn fnu ftk fsz frt fnt fco fresh fsu fsr fse it mnow gr md mO ppo pfr pnu psi pcn prt pnt pco pus pfa gb) (hgb : 1000000000 ≤ gb) (hC0 : (∃ (rv : Int) (gnu : Int → Int) (gtk : Int → Int) (gsz : Int → Int) (grt : Int → Int) (gnt : Int → Int) (gco : Int → Int) (fresh2 : Int) (go2 : Int), kc = 0 ∧ ov = rv ∧ ndO = -1 ∧ ngo = go2 ∧ nnu = gnu ∧ ntk = gtk ∧ nsz = gsz ∧ nrt = grt ∧ nnt = gnt ∧ nco = gco ∧ nfresh = fresh2 ∧ (dO ≠ -1) ∧ ((dO = self ∧ ((dN ≤ go ∧ rv = 4 ∧ go2 = go) ∨ (go < dN ∧ rv = 3 ∧ go2 = dN)) ∧ gnu = fnu ∧ gtk = ftk ∧ gsz = fsz ∧ grt = frt ∧ gnt = fnt ∧ gco = fco ∧ fresh2 = fresh) ∨ (dO ≠ self ∧ go2 = go ∧ ((fnu dO = dN ∧ rv = 1 ∧ gnu = fnu ∧ gtk = ftk ∧ gsz = fsz ∧ grt = frt ∧ gnt = fnt ∧ gco = fco ∧ fresh2 = fresh) ∨ (dN < fnu dO ∧ rv = 2 ∧ gnu = fnu ∧ gtk = ftk ∧ gsz = fsz ∧ grt = frt ∧ gnt = fnt ∧ gco = fco ∧ fresh2 = fresh) ∨ (fnu dO < dN ∧ rv = 0 ∧ gnu = uZ fnu dO dN ∧ gtk = uZ ftk dO now ∧ gsz = uZ fsz dO (fsz 64) ∧ grt = cZ frt (64 * 24 + 0) (dO * 24 + 0) (fsz 64) ∧ gnt = cZ fnt (64 * 24 + 0) (dO * 24 + 0) (fsz 64) ∧ gco = cZ fco (64 * 24 + 0) (dO * 24 + 0) (fsz 64) ∧ fresh2 = 0))))) ∨ (kc = 1 ∧ ndO = dO ∧ ngo = go ∧ nnu = fnu ∧ ntk = ftk ∧ nsz = fsz ∧ nrt = frt ∧ nnt = fnt ∧ nco = fco ∧ nfresh = fresh ∧ (dO = -1))) (hM0 : (pnu 64 = 0 ∧ c2 = 1 ∧ gr2 = gr ∧ gnu = pnu ∧ gsi = psi ∧ gcn = pcn ∧ grt = prt ∧ gnt = pnt ∧ gco = pco) ∨ (¬ pnu 64 = 0 ∧ mO = it ∧ c2 = 0 ∧ gnu = uZ pnu 64 0 ∧ gsi = psi ∧ gcn = pcn ∧ grt = prt ∧ gnt = pnt ∧ gco = pco ∧ ((pnu 64 ≤ gr ∧ rv = 4 ∧ gr2 = gr) ∨ (gr < pnu 64 ∧ rv = 3 ∧ gr2 = pnu 64))) ∨ (¬ pnu 64 = 0 ∧ mO ≠ it ∧ c2 = 0 ∧ gr2 = gr ∧ pnu 64 ≤ pnu mO ∧ gnu = uZ pnu 64 0 ∧ gsi = psi ∧ gcn = pcn ∧ grt = prt ∧ gnt = pnt ∧ gco = pco ∧ ((pnu mO = pnu 64 ∧ rv = 1) ∨ (pnu mO ≠ pnu 64 ∧ rv = 2))) ∨ (¬ pnu 64 = 0 ∧ mO ≠ it ∧ c2 = 0 ∧ gr2 = gr ∧ pnu mO < pnu 64 ∧ rv = 0 ∧ gnu = uZ (uZ pnu 64 0) mO (pnu 64) ∧ gsi = uZ psi mO mnow ∧ gcn = uZ pcn mO (pcn 64) ∧ grt = cZ prt (24 * 64) (24 * mO) (pcn 64) ∧ gnt = cZ pnt (24 * 64) (24 * mO) (pcn 64) ∧ gco = cZ pco (24 * 64) (24 * mO) (pcn 64))) : c2 = kc ∧ (kc = 0 → ov = rv) ∧ REL self ndO dN now lm ngo fpo ffr pn fn nnu ntk nsz nrt nnt nco nfresh fsu fsr fse it mnow gr2 md mO ppo pfr gnu gsi gcn grt gnt gco pus pfa gb := by
  obtain ⟨hS, hD, hL, hN, hr1, hr2, hw, hk, hy⟩ := hR
  have hit : self = it := hS.1.2.2.symm
  have hs64 : 0 ≤ self ∧ self < 64 := ⟨hS.1.1, hS.1.2.1⟩
  obtain ⟨n1, n2, n3, n4, n5⟩ := hN
  obtain ⟨d1, d2, d3⟩ := hD
  have hS4 := hS.2.2.2
  have hS2 := hS.2.1
  rcases hC0 with ⟨crv, cnu, ctk, csz, crt, cnt, cco, fr2, go2, rfl, rfl, rfl, rfl, rfl, rfl, rfl, rfl, rfl, rfl, rfl, f0, f1⟩ | ⟨rfl, rfl, rfl, rfl, rfl, rfl, rfl, rfl, rfl, rfl, hx⟩
  · obtain ⟨e64, g1, g2, emo⟩ : pnu 64 = dN ∧ 1 ≤ dN ∧ dN ≤ 1000000000 ∧ dO = mO := by omega
    have e5 := n5 dO (by omega) (by omega)
    have hN' : RAd fnu ftk fsz (uZ pnu 64 0) psi := ⟨n1, n2, uZ_rng n3 (by omega), n4, fun r r0 r1 => by rw [uZ_n (by omega)]; exact n5 r r0 r1⟩
    subst emo
    rcases f1 with ⟨q, f2, rfl, rfl, rfl, rfl, rfl, rfl, rfl⟩ | ⟨q, rfl, f2⟩
    · rcases hM0 with ⟨m1, -⟩ | ⟨m1, m2, rfl, rfl, rfl, rfl, rfl, rfl, rfl, m3⟩ | ⟨m1, m2, -⟩ | ⟨m1, m2, -⟩
      · omega
      · exact ⟨rfl, fun _ => by omega, ⟨hS.1, hS.2.1, hS.2.2.1, by omega, by omega, by omega⟩, ⟨by omega, d2, Or.inl ⟨rfl, uZ_s⟩⟩, hL, hN', hr1, hr2, hw, hk, hy⟩
      · omega
      · omega
    · have done : ∀ (x : Int), x = gr → REL self (-1) dN now lm ngo fpo ffr pn fn fnu ftk fsz frt fnt fco fresh fsu fsr fse it mnow x md dO ppo pfr (uZ pnu 64 0) psi pcn prt pnt pco pus pfa gb := fun x hx => ⟨⟨hS.1, hS.2.1, hS.2.2.1, by omega, by omega, by omega⟩, ⟨by omega, d2, Or.inl ⟨rfl, uZ_s⟩⟩, hL, hN', hr1, hr2, hw, hk, hy⟩
      rcases f2 with ⟨a1, a2, rfl, rfl, rfl, rfl, rfl, rfl, rfl⟩ | ⟨a1, a2, rfl, rfl, rfl, rfl, rfl, rfl, rfl⟩ | ⟨a1, a2, rfl, rfl, rfl, rfl, rfl, rfl, rfl⟩
      · rcases hM0 with ⟨m1, -⟩ | ⟨m1, m2, -⟩ | ⟨m1, m2, rfl, m3, m4, rfl, rfl, rfl, rfl, rfl, rfl, m5⟩ | ⟨m1, m2, -, -, m3, -⟩
        · omega
        · omega
        · exact ⟨rfl, fun _ => by omega, done _ m3⟩
        · omega
      · rcases hM0 with ⟨m1, -⟩ | ⟨m1, m2, -⟩ | ⟨m1, m2, rfl, m3, m4, rfl, rfl, rfl, rfl, rfl, rfl, m5⟩ | ⟨m1, m2, -, -, m3, -⟩
        · omega
        · omega
        · exact ⟨rfl, fun _ => by omega, done _ m3⟩
        · omega
      · rcases hM0 with ⟨m1, -⟩ | ⟨m1, m2, -⟩ | ⟨m1, m2, -, -, m4, -⟩ | ⟨m1, m2, rfl, m3, m4, m5, rfl, rfl, rfl, rfl, rfl, rfl⟩
        · omega
        · omega
        · omega
        · have s64 := hr1.1 64
          have t64 := hr2.1 64
          have hr1' : RRg (uZ fsz dO (fsz 64)) (cZ frt (64 * 24 + 0) (dO * 24 + 0) (fsz 64)) (cZ fnt (64 * 24 + 0) (dO * 24 + 0) (fsz 64)) (cZ fco (64 * 24 + 0) (dO * 24 + 0) (fsz 64)) := ⟨uZ_rng hr1.1 s64, cZ_rng hr1.2.1, cZ_rng hr1.2.2.1, cZ_rng hr1.2.2.2⟩
          have hr2' : RRg (uZ pcn dO (pcn 64)) (cZ prt (24 * 64) (24 * dO) (pcn 64)) (cZ pnt (24 * 64) (24 * dO) (pcn 64)) (cZ pco (24 * 64) (24 * dO) (pcn 64)) := ⟨uZ_rng hr2.1 t64, cZ_rng hr2.2.1, cZ_rng hr2.2.2.1, cZ_rng hr2.2.2.2⟩
          have cE : ∀ r : Int, r ≠ dO → ROWE fsz frt fnt fco r (uZ fsz dO (fsz 64)) (cZ frt (64 * 24 + 0) (dO * 24 + 0) (fsz 64)) (cZ fnt (64 * 24 + 0) (dO * 24 + 0) (fsz 64)) (cZ fco (64 * 24 + 0) (dO * 24 + 0) (fsz 64)) r := fun r h => ROWE.off (by omega) s64.2 (hr1.1 r).2 h
          have mE : ∀ r : Int, r ≠ dO → ROWE pcn prt pnt pco r (uZ pcn dO (pcn 64)) (cZ prt (24 * 64) (24 * dO) (pcn 64)) (cZ pnt (24 * 64) (24 * dO) (pcn 64)) (cZ pco (24 * 64) (24 * dO) (pcn 64)) r := fun r h => ROWE.off (by omega) t64.2 (hr2.1 r).2 h
          have cC : ROWE fsz frt fnt fco 64 (uZ fsz dO (fsz 64)) (cZ frt (64 * 24 + 0) (dO * 24 + 0) (fsz 64)) (cZ fnt (64 * 24 + 0) (dO * 24 + 0) (fsz 64)) (cZ fco (64 * 24 + 0) (dO * 24 + 0) (fsz 64)) dO := ROWE.copy (by omega) (by omega) s64.1
          have mC : ROWE pcn prt pnt pco 64 (uZ pcn dO (pcn 64)) (cZ prt (24 * 64) (24 * dO) (pcn 64)) (cZ pnt (24 * 64) (24 * dO) (pcn 64)) (cZ pco (24 * 64) (24 * dO) (pcn 64)) dO := ROWE.copy (by omega) (by omega) t64.1
          refine ⟨rfl, fun _ => by omega, ⟨hS.1, hS.2.1, hS.2.2.1, by omega, by omega, by omega⟩, ⟨by omega, d2, Or.inl ⟨rfl, ?_⟩⟩, hL, ⟨uZ_rng n1 (by omega), uZ_rng n2 (by omega), uZ_rng (uZ_rng n3 (by omega)) (by omega), uZ_rng n4 (by omega), fun r r0 r1 => ?_⟩, hr1', hr2', fun r r0 r1 => ?_, fun r r0 r1 => ?_, RWy_0 hy⟩
          · rw [uZ_n (by omega), uZ_s]
          · by_cases er : r = dO
            · subst er
              rw [uZ_s, uZ_s, uZ_s, uZ_s, uZ_s]
              omega
            · rw [uZ_n er, uZ_n er, uZ_n er, uZ_n er, uZ_n er, uZ_n (by omega)]
              exact n5 r r0 r1
          · by_cases er : r = dO
            · subst er
              exact cC.symm.trans ((hw 64 (by decide) (by decide)).trans mC)
            · exact (cE r er).symm.trans ((hw r r0 r1).trans (mE r er))
          · by_cases er : r = dO
            · subst er
              exact ROWK.via cC (hk 64 (by decide) (by decide))
            · exact ROWK.via (cE r er) (hk r r0 r1)
  · rcases hM0 with ⟨m1, rfl, rfl, rfl, rfl, rfl, rfl, rfl, rfl⟩ | ⟨m1, -⟩ | ⟨m1, -⟩ | ⟨m1, -⟩
    · exact ⟨rfl, fun h => absurd h (by decide), hS, ⟨d1, d2, d3⟩, hL, ⟨n1, n2, n3, n4, n5⟩, hr1, hr2, hw, hk, hy⟩
    · omega
    · omega
    · omega
theorem oFP {fnu ftk pnu psi : Int → Int} {T r : Int} (h : (fnu r = -1 ∧ pnu r = 0) ∨ (1 ≤ fnu r ∧ pnu r = fnu r ∧ psi r = ftk r)) : oF fnu ftk T r = oP pnu psi T r := by
  unfold oF oP
  by_cases c : fnu r ≠ -1 ∧ 5000 ≤ T - ftk r
  · rw [if_pos c, if_pos (by omega)]
  · rw [if_neg c, if_neg (by omega)]
theorem rel_pass {self : Int} {dO : Int} {dN : Int} {now : Int} {lm : Int} {go : Int} {fpo : Int → Int} {ffr : Int → Int} {pn : Int} {fn : Int} {fnu : Int → Int} {ftk : Int → Int} {fsz : Int → Int} {frt : Int → Int} {fnt : Int → Int} {fco : Int → Int} {fresh : Int} {fsu : Int → Int} {fsr : Int → Int} {fse : Int → Int} {it : Int} {mnow : Int} {gr : Int} {md : Int} {mO : Int} {ppo : Int → Int} {pfr : Int → Int} {pnu : Int → Int} {psi : Int → Int} {pcn : Int → Int} {prt : Int → Int} {pnt : Int → Int} {pco : Int → Int} {pus : Int → Int} {pfa : Int → Int} {gb : Int} {ticks : Int} {kc : Int} {ov : Int} {nnow : Int} {nnu : Int → Int} {nsz : Int → Int} {nfresh : Int} {rv : Int} {c2 : Int} {now2 : Int} {gnu : Int → Int} {gcn : Int → Int} (hR : REL self dO dN now lm go fpo ffr pn fn fnu ftk fsz frt fnt fco fresh fsu fsr fse it mnow gr md mO ppo pfr pnu psi pcn prt pnt pco pus pfa gb) (hC0 : (∃ (rv : Int) (gnu : Int → Int) (gsz : Int → Int) (fresh2 : Int), kc = 0 ∧ ov = rv ∧ nnow = now + ticks ∧ nnu = gnu ∧ nsz = gsz ∧ nfresh = fresh2 ∧ ((0 ≤ ticks ∧ ticks ≤ 10000) ∧ now + ticks ≤ 1000000) ∧ (∀ i : Int, -1 ≤ gnu i ∧ gnu i ≤ 1100000000) ∧ (∀ i : Int, 0 ≤ gsz i ∧ gsz i ≤ 24) ∧ (TO fnu ftk fsz (now + ticks) gnu gsz 64) ∧ (rv = cI (oF fnu ftk (now + ticks)) 64) ∧ ((rv = 0 ∧ fresh2 = fresh) ∨ (0 < rv ∧ fresh2 = 0))) ∨ (kc = 1 ∧ nnow = now ∧ nnu = fnu ∧ nsz = fsz ∧ nfresh = fresh ∧ (¬ (0 ≤ ticks ∧ ticks ≤ 10000))) ∨ (kc = 2 ∧ nnow = now ∧ nnu = fnu ∧ nsz = fsz ∧ nfresh = fresh ∧ ((0 ≤ ticks ∧ ticks ≤ 10000) ∧ 1000000 < now + ticks))) (hM0 : ∀ i : Int, 0 ≤ gnu i ∧ gnu i ≤ 1100000000) (hM1 : ∀ i : Int, 0 ≤ gcn i ∧ gcn i ≤ 24) (hM2 : (¬ (0 ≤ ticks ∧ ticks ≤ 10000) ∧ c2 = 1 ∧ now2 = mnow ∧ gnu = pnu ∧ gcn = pcn) ∨ ((0 ≤ ticks ∧ ticks ≤ 10000) ∧ 1000000 < mnow + ticks ∧ c2 = 2 ∧ now2 = mnow ∧ gnu = pnu ∧ gcn = pcn) ∨ ((0 ≤ ticks ∧ ticks ≤ 10000) ∧ ¬ 1000000 < mnow + ticks ∧ c2 = 0 ∧ now2 = mnow + ticks ∧ rv = cI (oP pnu psi (mnow + ticks)) 64 ∧ TP pnu psi pcn (mnow + ticks) gnu gcn 64)) : c2 = kc ∧ (kc = 0 → ov = rv) ∧ REL self dO dN nnow lm go fpo ffr pn fn nnu ftk nsz frt fnt fco nfresh fsu fsr fse it now2 gr md mO ppo pfr gnu psi gcn prt pnt pco pus pfa gb := by
  obtain ⟨hS, hD, hL, hN, hr1, hr2, hw, hk, hy⟩ := hR
  have hit : self = it := hS.1.2.2.symm
  have hs64 : 0 ≤ self ∧ self < 64 := ⟨hS.1.1, hS.1.2.1⟩
  obtain ⟨n1, n2, n3, n4, n5⟩ := hN
  obtain ⟨d1, d2, d3⟩ := hD
  have hS2 := hS.2.1
  have hnw : now = mnow := by omega
  subst hnw
  rcases hC0 with ⟨crv, x1, x2, fr2, rfl, rfl, rfl, rfl, rfl, rfl, f0, f1, f2, f3, f4, f5⟩ | ⟨rfl, rfl, rfl, rfl, rfl, hx⟩ | ⟨rfl, rfl, rfl, rfl, rfl, hx⟩
  · rcases hM2 with ⟨m1, -⟩ | ⟨m1, m2, -⟩ | ⟨m1, m2, rfl, rfl, m3, m4⟩
    · omega
    · omega
    · have hoo : ∀ r : Int, 0 ≤ r → r < 64 → oF fnu ftk (now + ticks) r = oP pnu psi (now + ticks) r := fun r r0 r1 => oFP (by have := n5 r r0 r1; omega)
      have hcc : cI (oF fnu ftk (now + ticks)) 64 = cI (oP pnu psi (now + ticks)) 64 := cI_congr (fun r r0 r1 => by rw [hoo r r0 r1])
      have g64 := (m4 64).2 (fun w => by omega)
      have c64 := (f3 64).2 (fun w => by omega)
      have hold : ∀ r : Int, 0 ≤ r → r < 65 → ((nnu r = -1 ∧ nsz r = 0 ∧ gnu r = 0 ∧ gcn r = 0) ∨ (nnu r = fnu r ∧ nsz r = fsz r ∧ gnu r = pnu r ∧ gcn r = pcn r)) := fun r r0 r1 => by
        by_cases c : r < 64 ∧ oF fnu ftk (now + ticks) r ≠ 0
        · have h1 := (f3 r).1 ⟨r0, c.1, c.2⟩
          have h2 := (m4 r).1 ⟨r0, c.1, by rw [← hoo r r0 c.1]; exact c.2⟩
          exact Or.inl ⟨h1.1, h1.2, h2.1, h2.2⟩
        · have h1 := (f3 r).2 (fun w => c ⟨w.2.1, w.2.2⟩)
          have h2 := (m4 r).2 (fun w => c ⟨w.2.1, by rw [hoo r r0 w.2.1]; exact w.2.2⟩)
          exact Or.inr ⟨h1.1, h1.2, h2.1, h2.2⟩
      have hr1' : RRg nsz frt fnt fco := ⟨f2, hr1.2⟩
      have hkk : RK5 nsz frt fnt fco := fun r r0 r1 => by
        rcases hold r r0 r1 with ⟨a, b, c, d⟩ | ⟨a, b, c, d⟩
        · exact ROWK.zero b
        · exact ROWK.via ⟨b, fun _ _ _ => ⟨rfl, rfl, rfl⟩⟩ (hk r r0 r1)
      refine ⟨rfl, fun _ => by omega, ⟨hS.1, by omega, hS.2.2⟩, ⟨d1, d2, by rw [g64.1]; exact d3⟩, hL, ⟨f1, n2, hM0, n4, fun r r0 r1 => ?_⟩, hr1', ⟨hM1, hr2.2⟩, fun r r0 r1 => ?_, hkk, ?_⟩
      · rcases hold r r0 (by omega) with ⟨a, b, c, d⟩ | ⟨a, b, c, d⟩
        · exact Or.inl ⟨a, c, b⟩
        · rw [a, b, c]; exact n5 r r0 r1
      · rcases hold r r0 r1 with ⟨a, b, c, d⟩ | ⟨a, b, c, d⟩
        · exact ROWE.zero b d
        · have h := hw r r0 r1
          exact ⟨by rw [d, b]; exact h.1, fun k k0 k1 => h.2 k k0 (by rw [← b]; exact k1)⟩
      · rcases f5 with ⟨z, rfl⟩ | ⟨z, rfl⟩
        · refine RWy_im hs64 hr1 hk hr1' hkk (fun r r0 r1 => ⟨?_, fun _ _ _ => ⟨rfl, rfl, rfl⟩⟩) hy
          refine ((f3 r).2 (fun w => ?_)).2
          have h1 := cI_lt (oF fnu ftk (now + ticks)) r0 r1 w.2.2
          have h2 := (cI_b (oF fnu ftk (now + ticks)) r0).1
          omega
        · exact RWy_0 hy
  · rcases hM2 with ⟨m1, rfl, rfl, rfl, rfl⟩ | ⟨m1, -⟩ | ⟨m1, -⟩
    · exact ⟨rfl, fun h => absurd h (by decide), hS, ⟨d1, d2, d3⟩, hL, ⟨n1, n2, n3, n4, n5⟩, hr1, hr2, hw, hk, hy⟩
    · exact absurd m1 hx
    · exact absurd m1 hx
  · rcases hM2 with ⟨m1, -⟩ | ⟨m1, m2, rfl, rfl, rfl, rfl⟩ | ⟨m1, m2, -⟩
    · exact absurd hx.1 m1
    · exact ⟨rfl, fun h => absurd h (by decide), hS, ⟨d1, d2, d3⟩, hL, ⟨n1, n2, n3, n4, n5⟩, hr1, hr2, hw, hk, hy⟩
    · omega
theorem rel_number {self : Int} {dO : Int} {dN : Int} {now : Int} {lm : Int} {go : Int} {fpo : Int → Int} {ffr : Int → Int} {pn : Int} {fn : Int} {fnu : Int → Int} {ftk : Int → Int} {fsz : Int → Int} {frt : Int → Int} {fnt : Int → Int} {fco : Int → Int} {fresh : Int} {fsu : Int → Int} {fsr : Int → Int} {fse : Int → Int} {it : Int} {mnow : Int} {gr : Int} {md : Int} {mO : Int} {ppo : Int → Int} {pfr : Int → Int} {pnu : Int → Int} {psi : Int → Int} {pcn : Int → Int} {prt : Int → Int} {pnt : Int → Int} {pco : Int → Int} {pus : Int → Int} {pfa : Int → Int} {gb : Int} {a : Int} {kc : Int} {ov : Int} {rv : Int} {c2 : Int} (hR : REL self dO dN now lm go fpo ffr pn fn fnu ftk fsz frt fnt fco fresh fsu fsr fse it mnow gr md mO ppo pfr pnu psi pcn prt pnt pco pus pfa gb) (hC0 : (kc = 0 ∧ ov = fnu a ∧ ((0 ≤ a ∧ a < 64))) ∨ (kc = 1 ∧ (¬ (0 ≤ a ∧ a < 64)))) (hM0 : (¬ (0 ≤ a ∧ a < 64) ∧ c2 = 1) ∨ ((0 ≤ a ∧ a < 64) ∧ c2 = 0 ∧ ((pnu a = 0 ∧ rv = -1) ∨ (¬ pnu a = 0 ∧ rv = pnu a)))) : c2 = kc ∧ (kc = 0 → ov = rv) ∧ REL self dO dN now lm go fpo ffr pn fn fnu ftk fsz frt fnt fco fresh fsu fsr fse it mnow gr md mO ppo pfr pnu psi pcn prt pnt pco pus pfa gb := by
  have hR0 := hR
  obtain ⟨hS, hD, hL, hN, hr1, hr2, hw, hk, hy⟩ := hR
  have hit : self = it := hS.1.2.2.symm
  have hs64 : 0 ≤ self ∧ self < 64 := ⟨hS.1.1, hS.1.2.1⟩
  obtain ⟨n1, n2, n3, n4, n5⟩ := hN
  have hS2 := hS.2.1
  rcases hC0 with ⟨rfl, rfl, f0⟩ | ⟨rfl, hx⟩
  · have e := n5 a f0.1 f0.2
    rcases hM0 with ⟨m1, -⟩ | ⟨m1, rfl, m2⟩
    · exact absurd f0 m1
    · exact ⟨rfl, fun _ => by omega, hR0⟩
  · rcases hM0 with ⟨m1, rfl⟩ | ⟨m1, -⟩
    · exact ⟨rfl, fun h => absurd h (by decide), hR0⟩
    · exact absurd m1 hx
theorem rel_entries {self : Int} {dO : Int} {dN : Int} {now : Int} {lm : Int} {go : Int} {fpo : Int → Int} {ffr : Int → Int} {pn : Int} {fn : Int} {fnu : Int → Int} {ftk : Int → Int} {fsz : Int → Int} {frt : Int → Int} {fnt : Int → Int} {fco : Int → Int} {fresh : Int} {fsu : Int → Int} {fsr : Int → Int} {fse : Int → Int} {it : Int} {mnow : Int} {gr : Int} {md : Int} {mO : Int} {ppo : Int → Int} {pfr : Int → Int} {pnu : Int → Int} {psi : Int → Int} {pcn : Int → Int} {prt : Int → Int} {pnt : Int → Int} {pco : Int → Int} {pus : Int → Int} {pfa : Int → Int} {gb : Int} {a : Int} {kc : Int} {ov : Int} {rv : Int} {c2 : Int} (hR : REL self dO dN now lm go fpo ffr pn fn fnu ftk fsz frt fnt fco fresh fsu fsr fse it mnow gr md mO ppo pfr pnu psi pcn prt pnt pco pus pfa gb) (hC0 : (∃ (rv : Int), kc = 0 ∧ ov = rv ∧ ((0 ≤ a ∧ a < 64)) ∧ ((fnu a = -1 ∧ rv = -1) ∨ (fnu a ≠ -1 ∧ rv = fsz a))) ∨ (kc = 1 ∧ (¬ (0 ≤ a ∧ a < 64)))) (hM0 : (¬ (0 ≤ a ∧ a < 64) ∧ c2 = 1) ∨ ((0 ≤ a ∧ a < 64) ∧ c2 = 0 ∧ ((pnu a = 0 ∧ rv = -1) ∨ (¬ pnu a = 0 ∧ rv = pcn a)))) : c2 = kc ∧ (kc = 0 → ov = rv) ∧ REL self dO dN now lm go fpo ffr pn fn fnu ftk fsz frt fnt fco fresh fsu fsr fse it mnow gr md mO ppo pfr pnu psi pcn prt pnt pco pus pfa gb := by
  have hR0 := hR
  obtain ⟨hS, hD, hL, hN, hr1, hr2, hw, hk, hy⟩ := hR
  have hit : self = it := hS.1.2.2.symm
  have hs64 : 0 ≤ self ∧ self < 64 := ⟨hS.1.1, hS.1.2.1⟩
  obtain ⟨n1, n2, n3, n4, n5⟩ := hN
  have hS2 := hS.2.1
  rcases hC0 with ⟨crv, rfl, rfl, f0, f1⟩ | ⟨rfl, hx⟩
  · have e := n5 a f0.1 f0.2
    have e2 := (hw a f0.1 (by omega)).1
    rcases hM0 with ⟨m1, -⟩ | ⟨m1, rfl, m2⟩
    · exact absurd f0 m1
    · exact ⟨rfl, fun _ => by omega, hR0⟩
  · rcases hM0 with ⟨m1, rfl⟩ | ⟨m1, -⟩
    · exact ⟨rfl, fun h => absurd h (by decide), hR0⟩
    · exact absurd m1 hx
theorem rel_age {self : Int} {dO : Int} {dN : Int} {now : Int} {lm : Int} {go : Int} {fpo : Int → Int} {ffr : Int → Int} {pn : Int} {fn : Int} {fnu : Int → Int} {ftk : Int → Int} {fsz : Int → Int} {frt : Int → Int} {fnt : Int → Int} {fco : Int → Int} {fresh : Int} {fsu : Int → Int} {fsr : Int → Int} {fse : Int → Int} {it : Int} {mnow : Int} {gr : Int} {md : Int} {mO : Int} {ppo : Int → Int} {pfr : Int → Int} {pnu : Int → Int} {psi : Int → Int} {pcn : Int → Int} {prt : Int → Int} {pnt : Int → Int} {pco : Int → Int} {pus : Int → Int} {pfa : Int → Int} {gb : Int} {a : Int} {kc : Int} {ov : Int} {rv : Int} {c2 : Int} (hR : REL self dO dN now lm go fpo ffr pn fn fnu ftk fsz frt fnt fco fresh fsu fsr fse it mnow gr md mO ppo pfr pnu psi pcn prt pnt pco pus pfa gb) (hC0 : (∃ (rv : Int), kc = 0 ∧ ov = rv ∧ ((0 ≤ a ∧ a < 64)) ∧ ((fnu a = -1 ∧ rv = -1) ∨ (fnu a ≠ -1 ∧ rv = now - ftk a))) ∨ (kc = 1 ∧ (¬ (0 ≤ a ∧ a < 64)))) (hM0 : (¬ (0 ≤ a ∧ a < 64) ∧ c2 = 1) ∨ ((0 ≤ a ∧ a < 64) ∧ c2 = 0 ∧ ((pnu a = 0 ∧ rv = -1) ∨ (¬ pnu a = 0 ∧ rv = mnow - psi a)))) : c2 = kc ∧ (kc = 0 → ov = rv) ∧ REL self dO dN now lm go fpo ffr pn fn fnu ftk fsz frt fnt fco fresh fsu fsr fse it mnow gr md mO ppo pfr pnu psi pcn prt pnt pco pus pfa gb := by
  have hR0 := hR
  obtain ⟨hS, hD, hL, hN, hr1, hr2, hw, hk, hy⟩ := hR
  have hit : self = it := hS.1.2.2.symm
  have hs64 : 0 ≤ self ∧ self < 64 := ⟨hS.1.1, hS.1.2.1⟩
  obtain ⟨n1, n2, n3, n4, n5⟩ := hN
  have hS2 := hS.2.1
  rcases hC0 with ⟨crv, rfl, rfl, f0, f1⟩ | ⟨rfl, hx⟩
  · have e := n5 a f0.1 f0.2
    rcases hM0 with ⟨m1, -⟩ | ⟨m1, rfl, m2⟩
    · exact absurd f0 m1
    · exact ⟨rfl, fun _ => by omega, hR0⟩
  · rcases hM0 with ⟨m1, rfl⟩ | ⟨m1, -⟩
    · exact ⟨rfl, fun h => absurd h (by decide), hR0⟩
    · exact absurd m1 hx
theorem rel_told {self : Int} {dO : Int} {dN : Int} {now : Int} {lm : Int} {go : Int} {fpo : Int → Int} {ffr : Int → Int} {pn : Int} {fn : Int} {fnu : Int → Int} {ftk : Int → Int} {fsz : Int → Int} {frt : Int → Int} {fnt : Int → Int} {fco : Int → Int} {fresh : Int} {fsu : Int → Int} {fsr : Int → Int} {fse : Int → Int} {it : Int} {mnow : Int} {gr : Int} {md : Int} {mO : Int} {ppo : Int → Int} {pfr : Int → Int} {pnu : Int → Int} {psi : Int → Int} {pcn : Int → Int} {prt : Int → Int} {pnt : Int → Int} {pco : Int → Int} {pus : Int → Int} {pfa : Int → Int} {gb : Int} {a : Int} {k : Int} {wh : Int} {kc : Int} {ov : Int} {rv : Int} {c2 : Int} (hR : REL self dO dN now lm go fpo ffr pn fn fnu ftk fsz frt fnt fco fresh fsu fsr fse it mnow gr md mO ppo pfr pnu psi pcn prt pnt pco pus pfa gb) (hC0 : (∃ (rv : Int), kc = 0 ∧ ov = rv ∧ ((0 ≤ a ∧ a < 64 ∧ 0 ≤ wh ∧ wh ≤ 2) ∧ 0 ≤ k ∧ k < fsz a) ∧ ((wh = 0 ∧ rv = frt (a * 24 + k)) ∨ (wh = 1 ∧ rv = fnt (a * 24 + k)) ∨ (wh = 2 ∧ rv = fco (a * 24 + k)))) ∨ (kc = 1 ∧ (¬ (0 ≤ a ∧ a < 64 ∧ 0 ≤ wh ∧ wh ≤ 2))) ∨ (kc = 2 ∧ ((0 ≤ a ∧ a < 64 ∧ 0 ≤ wh ∧ wh ≤ 2) ∧ ¬ (0 ≤ k ∧ k < fsz a)))) (hM0 : (¬ (0 ≤ a ∧ a < 64 ∧ 0 ≤ wh ∧ wh ≤ 2) ∧ c2 = 1) ∨ ((0 ≤ a ∧ a < 64 ∧ 0 ≤ wh ∧ wh ≤ 2) ∧ (pnu a = 0 ∨ ¬ (0 ≤ k ∧ k < pcn a)) ∧ c2 = 2) ∨ ((0 ≤ a ∧ a < 64 ∧ 0 ≤ wh ∧ wh ≤ 2) ∧ ¬ pnu a = 0 ∧ 0 ≤ k ∧ k < pcn a ∧ c2 = 0 ∧ ((wh = 0 ∧ rv = prt (24 * a + k)) ∨ (wh = 1 ∧ rv = pnt (24 * a + k)) ∨ (wh = 2 ∧ rv = pco (24 * a + k))))) : c2 = kc ∧ (kc = 0 → ov = rv) ∧ REL self dO dN now lm go fpo ffr pn fn fnu ftk fsz frt fnt fco fresh fsu fsr fse it mnow gr md mO ppo pfr pnu psi pcn prt pnt pco pus pfa gb := by
  have hR0 := hR
  obtain ⟨hS, hD, hL, hN, hr1, hr2, hw, hk, hy⟩ := hR
  have hit : self = it := hS.1.2.2.symm
  have hs64 : 0 ≤ self ∧ self < 64 := ⟨hS.1.1, hS.1.2.1⟩
  obtain ⟨n1, n2, n3, n4, n5⟩ := hN
  have hS2 := hS.2.1
  rcases hC0 with ⟨crv, rfl, rfl, ⟨f0, f1, f2⟩, f3⟩ | ⟨rfl, hx⟩ | ⟨rfl, hx⟩
  · have e := n5 a f0.1 f0.2.1
    have h := hw a f0.1 (by omega)
    have e2 := h.1
    rcases hM0 with ⟨m1, -⟩ | ⟨m1, m2, -⟩ | ⟨m1, m2, m3, m4, rfl, m5⟩
    · exact absurd f0 m1
    · omega
    · obtain ⟨h1, h2, h3⟩ := h.2 k f1 f2
      refine ⟨rfl, fun _ => ?_, hR0⟩
      rw [show 24 * a + k = a * 24 + k by omega] at m5
      omega
  · rcases hM0 with ⟨m1, rfl⟩ | ⟨m1, -⟩ | ⟨m1, -⟩
    · exact ⟨rfl, fun h => absurd h (by decide), hR0⟩
    · exact absurd m1 hx
    · exact absurd m1 hx
  · have e := n5 a hx.1.1 hx.1.2.1
    have e2 := (hw a hx.1.1 (by omega)).1
    rcases hM0 with ⟨m1, -⟩ | ⟨m1, m2, rfl⟩ | ⟨m1, m2, m3, m4, rfl, m5⟩
    · exact absurd hx.1 m1
    · exact ⟨rfl, fun h => absurd h (by decide), hR0⟩
    · omega
theorem rel_known {self : Int} {dO : Int} {dN : Int} {now : Int} {lm : Int} {go : Int} {fpo : Int → Int} {ffr : Int → Int} {pn : Int} {fn : Int} {fnu : Int → Int} {ftk : Int → Int} {fsz : Int → Int} {frt : Int → Int} {fnt : Int → Int} {fco : Int → Int} {fresh : Int} {fsu : Int → Int} {fsr : Int → Int} {fse : Int → Int} {it : Int} {mnow : Int} {gr : Int} {md : Int} {mO : Int} {ppo : Int → Int} {pfr : Int → Int} {pnu : Int → Int} {psi : Int → Int} {pcn : Int → Int} {prt : Int → Int} {pnt : Int → Int} {pco : Int → Int} {pus : Int → Int} {pfa : Int → Int} {gb : Int} {krv : Int} {rv : Int} (hR : REL self dO dN now lm go fpo ffr pn fn fnu ftk fsz frt fnt fco fresh fsu fsr fse it mnow gr md mO ppo pfr pnu psi pcn prt pnt pco pus pfa gb) (hC0 : krv = cI (knF fnu) 64) (hM0 : rv = cI (knP pnu) 64) : krv = rv ∧ REL self dO dN now lm go fpo ffr pn fn fnu ftk fsz frt fnt fco fresh fsu fsr fse it mnow gr md mO ppo pfr pnu psi pcn prt pnt pco pus pfa gb := by
  have n5 := hR.2.2.2.1.2.2.2.2
  refine ⟨?_, hR⟩
  rw [hC0, hM0]
  apply cI_congr
  intro r r0 r1
  have h := n5 r r0 r1
  unfold knF knP
  by_cases c : fnu r = -1
  · rw [if_pos c, if_neg (by omega)]
  · rw [if_neg c, if_pos (by omega)]
theorem rel_time {self : Int} {dO : Int} {dN : Int} {now : Int} {lm : Int} {go : Int} {fpo : Int → Int} {ffr : Int → Int} {pn : Int} {fn : Int} {fnu : Int → Int} {ftk : Int → Int} {fsz : Int → Int} {frt : Int → Int} {fnt : Int → Int} {fco : Int → Int} {fresh : Int} {fsu : Int → Int} {fsr : Int → Int} {fse : Int → Int} {it : Int} {mnow : Int} {gr : Int} {md : Int} {mO : Int} {ppo : Int → Int} {pfr : Int → Int} {pnu : Int → Int} {psi : Int → Int} {pcn : Int → Int} {prt : Int → Int} {pnt : Int → Int} {pco : Int → Int} {pus : Int → Int} {pfa : Int → Int} {gb : Int} (hR : REL self dO dN now lm go fpo ffr pn fn fnu ftk fsz frt fnt fco fresh fsu fsr fse it mnow gr md mO ppo pfr pnu psi pcn prt pnt pco pus pfa gb) : now = mnow ∧ REL self dO dN now lm go fpo ffr pn fn fnu ftk fsz frt fnt fco fresh fsu fsr fse it mnow gr md mO ppo pfr pnu psi pcn prt pnt pco pus pfa gb := by
  exact ⟨hR.1.2.1.2.2.symm, hR⟩
theorem rel_distance {self : Int} {dO : Int} {dN : Int} {now : Int} {lm : Int} {go : Int} {fpo : Int → Int} {ffr : Int → Int} {pn : Int} {fn : Int} {fnu : Int → Int} {ftk : Int → Int} {fsz : Int → Int} {frt : Int → Int} {fnt : Int → Int} {fco : Int → Int} {fresh : Int} {fsu : Int → Int} {fsr : Int → Int} {fse : Int → Int} {it : Int} {mnow : Int} {gr : Int} {md : Int} {mO : Int} {ppo : Int → Int} {pfr : Int → Int} {pnu : Int → Int} {psi : Int → Int} {pcn : Int → Int} {prt : Int → Int} {pnt : Int → Int} {pco : Int → Int} {pus : Int → Int} {pfa : Int → Int} {gb : Int} {a : Int} {kc : Int} {ov : Int} {nfresh : Int} {nsu : Int → Int} {nsr : Int → Int} {nse : Int → Int} {rv : Int} {c2 : Int} {gus : Int → Int} {gfa : Int → Int} (hR : REL self dO dN now lm go fpo ffr pn fn fnu ftk fsz frt fnt fco fresh fsu fsr fse it mnow gr md mO ppo pfr pnu psi pcn prt pnt pco pus pfa gb) (hC0 : (∃ (gsu : Int → Int) (gsr : Int → Int) (gse : Int → Int), kc = 0 ∧ ov = gsu a ∧ nfresh = 1 ∧ nsu = gsu ∧ nsr = gsr ∧ nse = gse ∧ ((0 ≤ a ∧ a < 64)) ∧ (∀ i : Int, -1 ≤ gsu i ∧ gsu i ≤ 64000) ∧ (∀ i : Int, 0 ≤ gsr i ∧ gsr i ≤ 16777215) ∧ (∀ i : Int, 0 ≤ gse i ∧ gse i ≤ 1) ∧ (WAYS fsz frt fnt fco self gsu gsr)) ∨ (kc = 1 ∧ nfresh = fresh ∧ nsu = fsu ∧ nsr = fsr ∧ nse = fse ∧ (¬ (0 ≤ a ∧ a < 64)))) (hM0 : ∀ i : Int, 0 ≤ gus i ∧ gus i ≤ 1) (hM1 : ∀ i : Int, -1 ≤ gfa i ∧ gfa i ≤ 64000) (hM2 : (¬ (0 ≤ a ∧ a < 64) ∧ c2 = 1) ∨ ((0 ≤ a ∧ a < 64) ∧ c2 = 0 ∧ rv = gfa a ∧ isD (eg pcn prt pnt pco) it gfa)) : c2 = kc ∧ (kc = 0 → ov = rv) ∧ REL self dO dN now lm go fpo ffr pn fn fnu ftk fsz frt fnt fco nfresh nsu nsr nse it mnow gr md mO ppo pfr pnu psi pcn prt pnt pco gus gfa gb := by
  obtain ⟨hS, hD, hL, hN, hr1, hr2, hw, hk, hy⟩ := hR
  have hit : self = it := hS.1.2.2.symm
  have hs64 : 0 ≤ self ∧ self < 64 := ⟨hS.1.1, hS.1.2.1⟩
  have hA1 := AOK_c hr1 hk
  have hA2 := AOK_c hr2 (RK5_m hw hk)
  have hws := hw.rws
  subst hit
  rcases hC0 with ⟨gsu, gsr, gse, rfl, rfl, rfl, rfl, rfl, rfl, f0, f1, f2, f3, f4⟩ | ⟨rfl, rfl, rfl, rfl, rfl, hx⟩
  · rcases hM2 with ⟨m1, -⟩ | ⟨m1, rfl, rfl, m2⟩
    · exact absurd f0 m1
    · exact ⟨rfl, fun _ => isD_uniq (isD_im hA1 hA2 hws hs64 f4.1) m2 f0.1 f0.2, hS, hD, hL, hN, hr1, hr2, hw, hk, Or.inr rfl, f1, f2, f3, hM0, hM1, fun _ => f4⟩
  · rcases hM2 with ⟨m1, rfl⟩ | ⟨m1, -⟩
    · exact ⟨rfl, fun h => absurd h (by decide), hS, hD, hL, hN, hr1, hr2, hw, hk, hy.1, hy.2.1, hy.2.2.1, hy.2.2.2.1, hM0, hM1, hy.2.2.2.2.2.2⟩
    · exact absurd m1 hx
theorem rel_cost {self : Int} {dO : Int} {dN : Int} {now : Int} {lm : Int} {go : Int} {fpo : Int → Int} {ffr : Int → Int} {pn : Int} {fn : Int} {fnu : Int → Int} {ftk : Int → Int} {fsz : Int → Int} {frt : Int → Int} {fnt : Int → Int} {fco : Int → Int} {fresh : Int} {fsu : Int → Int} {fsr : Int → Int} {fse : Int → Int} {it : Int} {mnow : Int} {gr : Int} {md : Int} {mO : Int} {ppo : Int → Int} {pfr : Int → Int} {pnu : Int → Int} {psi : Int → Int} {pcn : Int → Int} {prt : Int → Int} {pnt : Int → Int} {pco : Int → Int} {pus : Int → Int} {pfa : Int → Int} {gb : Int} {a : Int} {kc : Int} {ov : Int} {nfresh : Int} {nsu : Int → Int} {nsr : Int → Int} {nse : Int → Int} {rv : Int} {c2 : Int} {gus : Int → Int} {gfa : Int → Int} (hR : REL self dO dN now lm go fpo ffr pn fn fnu ftk fsz frt fnt fco fresh fsu fsr fse it mnow gr md mO ppo pfr pnu psi pcn prt pnt pco pus pfa gb) (hC0 : (∃ (gsu : Int → Int) (gsr : Int → Int) (gse : Int → Int) (rv : Int), kc = 0 ∧ ov = rv ∧ nfresh = 1 ∧ nsu = gsu ∧ nsr = gsr ∧ nse = gse ∧ ((0 ≤ a ∧ a < 64)) ∧ (∀ i : Int, -1 ≤ gsu i ∧ gsu i ≤ 64000) ∧ (∀ i : Int, 0 ≤ gsr i ∧ gsr i ≤ 16777215) ∧ (∀ i : Int, 0 ≤ gse i ∧ gse i ≤ 1) ∧ (WAYS fsz frt fnt fco self gsu gsr) ∧ (LST fsz frt fnt fco gsu a 64 rv)) ∨ (kc = 1 ∧ nfresh = fresh ∧ nsu = fsu ∧ nsr = fsr ∧ nse = fse ∧ (¬ (0 ≤ a ∧ a < 64)))) (hM0 : ∀ i : Int, 0 ≤ gus i ∧ gus i ≤ 1) (hM1 : ∀ i : Int, -1 ≤ gfa i ∧ gfa i ≤ 64000) (hM2 : (¬ (0 ≤ a ∧ a < 64) ∧ c2 = 1) ∨ ((0 ≤ a ∧ a < 64) ∧ c2 = 0 ∧ LST pcn prt pnt pco gfa a 64 rv ∧ isD (eg pcn prt pnt pco) it gfa)) : c2 = kc ∧ (kc = 0 → ov = rv) ∧ REL self dO dN now lm go fpo ffr pn fn fnu ftk fsz frt fnt fco nfresh nsu nsr nse it mnow gr md mO ppo pfr pnu psi pcn prt pnt pco gus gfa gb := by
  obtain ⟨hS, hD, hL, hN, hr1, hr2, hw, hk, hy⟩ := hR
  have hit : self = it := hS.1.2.2.symm
  have hs64 : 0 ≤ self ∧ self < 64 := ⟨hS.1.1, hS.1.2.1⟩
  have hA1 := AOK_c hr1 hk
  have hA2 := AOK_c hr2 (RK5_m hw hk)
  have hws := hw.rws
  subst hit
  rcases hC0 with ⟨gsu, gsr, gse, crv, rfl, rfl, rfl, rfl, rfl, rfl, f0, f1, f2, f3, f4, f5⟩ | ⟨rfl, rfl, rfl, rfl, rfl, hx⟩
  · rcases hM2 with ⟨m1, -⟩ | ⟨m1, rfl, m2, m3⟩
    · exact absurd f0 m1
    · exact ⟨rfl, fun _ => LST_uniq (LST_im hws (fun r r0 r1 => isD_uniq m3 (isD_im hA1 hA2 hws hs64 f4.1) r0 r1) f5) m2, hS, hD, hL, hN, hr1, hr2, hw, hk, Or.inr rfl, f1, f2, f3, hM0, hM1, fun _ => f4⟩
  · rcases hM2 with ⟨m1, rfl⟩ | ⟨m1, -⟩
    · exact ⟨rfl, fun h => absurd h (by decide), hS, hD, hL, hN, hr1, hr2, hw, hk, hy.1, hy.2.1, hy.2.2.1, hy.2.2.2.1, hM0, hM1, hy.2.2.2.2.2.2⟩
    · exact absurd m1 hx
theorem popI_0 : popI 0 = 0 := by decide +kernel
/-- the two sides' first steps -/
theorem two_fst {fsz frt fnt fco pcn prt pnt pco gsu gsr fa1 : Int → Int} {self a L L' mk : Int} (hr1 : RRg fsz frt fnt fco) (hr2 : RRg pcn prt pnt pco) (hk : RK5 fsz frt fnt fco) (hw : RW5 fsz frt fnt fco pcn prt pnt pco) (hs64 : 0 ≤ self ∧ self < 64) (f4 : WAYS fsz frt fnt fco self gsu gsr)
    (f6 : LST fsz frt fnt fco gsu a 64 L) (f7 : ((L = -1 ∨ ps fsz frt fnt fco gsu self a L) ∧ mk = 0) ∨ (¬ (L = -1 ∨ ps fsz frt fnt fco gsu self a L) ∧ MSK fsz frt fnt fco gsu gsr a L 64 mk)) (m3 : isD (eg pcn prt pnt pco) self fa1) (m4 : LST pcn prt pnt pco fa1 a 64 L') :
    L' = L ∧ (((L = -1 ∨ ps pcn prt pnt pco fa1 self a L) ∧ mk = 0) ∨ (¬ (L = -1 ∨ ps pcn prt pnt pco fa1 self a L) ∧ (∀ b : Int, 0 ≤ b → b < 24 → (tb mk b ↔ FST pcn prt pnt pco self a L b)))) := by
  have hA1 := AOK_c hr1 hk
  have hA2 := AOK_c hr2 (RK5_m hw hk)
  have hws := hw.rws
  have hsu : ∀ r : Int, 0 ≤ r → r < 64 → fa1 r = gsu r := fun r r0 r1 => isD_uniq m3 (isD_im hA1 hA2 hws hs64 f4.1) r0 r1
  have eL : L' = L := LST_uniq m4 (LST_im hws hsu f6)
  have hps : ps fsz frt fnt fco gsu self a L ↔ ps pcn prt pnt pco fa1 self a L := ⟨fun w => ps_im (hws self hs64.1 hs64.2) (hsu self hs64.1 hs64.2) w, fun w => ps_im (hws self hs64.1 hs64.2).symm (hsu self hs64.1 hs64.2).symm w⟩
  refine ⟨eL, ?_⟩
  rw [← hps]
  rcases f7 with ⟨c, d⟩ | ⟨c, d⟩
  · exact Or.inl ⟨c, d⟩
  · refine Or.inr ⟨c, fun b b0 b1 => ?_⟩
    rw [FST_class f4 f6 c d b0 b1]
    exact ⟨fun w => FST_im hA1 hws hs64 w, fun w => FST_im hA2 hws.symm hs64 w⟩
theorem pop_fs {pcn prt pnt pco : Int → Int} {self a L mk : Int} (hr2 : RRg pcn prt pnt pco) (h : ∀ b : Int, 0 ≤ b → b < 24 → (tb mk b ↔ FST pcn prt pnt pco self a L b)) :
    (∀ b : Int, 0 ≤ b → b < 24 → (bF mk b = 0 ↔ fsF pcn prt pnt pco self a L b = 0)) ∧ popI mk = cI (fsF pcn prt pnt pco self a L) (pcn self) := by
  have h1 : ∀ b : Int, 0 ≤ b → b < 24 → (bF mk b = 0 ↔ fsF pcn prt pnt pco self a L b = 0) := fun b b0 b1 => by
    constructor
    · intro w
      exact fsF_0 (fun x => absurd w (bF_1.2 ((h b b0 b1).2 x)))
    · intro w
      exact Classical.byContradiction (fun x => absurd w (fsF_1 ((h b b0 b1).1 (bF_1.1 x))))
  refine ⟨h1, ?_⟩
  have h2 : popI mk = cI (fsF pcn prt pnt pco self a L) 24 := cI_congr (fun j j0 j1 => h1 j j0 j1)
  rw [h2]
  have := hr2.1 self
  exact cI_gp _ (by omega) (by omega) (fun j j0 j1 => fsF_0 (fun w => by have := w.1.2.1; omega))
theorem rel_firsts {self : Int} {dO : Int} {dN : Int} {now : Int} {lm : Int} {go : Int} {fpo : Int → Int} {ffr : Int → Int} {pn : Int} {fn : Int} {fnu : Int → Int} {ftk : Int → Int} {fsz : Int → Int} {frt : Int → Int} {fnt : Int → Int} {fco : Int → Int} {fresh : Int} {fsu : Int → Int} {fsr : Int → Int} {fse : Int → Int} {it : Int} {mnow : Int} {gr : Int} {md : Int} {mO : Int} {ppo : Int → Int} {pfr : Int → Int} {pnu : Int → Int} {psi : Int → Int} {pcn : Int → Int} {prt : Int → Int} {pnt : Int → Int} {pco : Int → Int} {pus : Int → Int} {pfa : Int → Int} {gb : Int} {a : Int} {kc : Int} {ov : Int} {nfresh : Int} {nsu : Int → Int} {nsr : Int → Int} {nse : Int → Int} {rv : Int} {c2 : Int} {gus : Int → Int} {gfa : Int → Int} (hR : REL self dO dN now lm go fpo ffr pn fn fnu ftk fsz frt fnt fco fresh fsu fsr fse it mnow gr md mO ppo pfr pnu psi pcn prt pnt pco pus pfa gb) (hC0 : (∃ (gsu : Int → Int) (gsr : Int → Int) (gse : Int → Int) (mk : Int), kc = 0 ∧ ov = popI mk ∧ nfresh = 1 ∧ nsu = gsu ∧ nsr = gsr ∧ nse = gse ∧ ((0 ≤ a ∧ a < 64)) ∧ (∀ i : Int, -1 ≤ gsu i ∧ gsu i ≤ 64000) ∧ (∀ i : Int, 0 ≤ gsr i ∧ gsr i ≤ 16777215) ∧ (∀ i : Int, 0 ≤ gse i ∧ gse i ≤ 1) ∧ (WAYS fsz frt fnt fco self gsu gsr) ∧ (0 ≤ mk ∧ mk ≤ 16777215) ∧ (∃ L : Int, LST fsz frt fnt fco gsu a 64 L ∧ (((L = -1 ∨ ps fsz frt fnt fco gsu self a L) ∧ mk = 0) ∨ (¬ (L = -1 ∨ ps fsz frt fnt fco gsu self a L) ∧ MSK fsz frt fnt fco gsu gsr a L 64 mk)))) ∨ (kc = 1 ∧ nfresh = fresh ∧ nsu = fsu ∧ nsr = fsr ∧ nse = fse ∧ (¬ (0 ≤ a ∧ a < 64)))) (hM0 : ∀ i : Int, 0 ≤ gus i ∧ gus i ≤ 1) (hM1 : ∀ i : Int, -1 ≤ gfa i ∧ gfa i ≤ 64000) (hM2 : (¬ (0 ≤ a ∧ a < 64) ∧ c2 = 1) ∨ ((0 ≤ a ∧ a < 64) ∧ c2 = 0 ∧ ∃ (fa1 : Int → Int) (L : Int), isD (eg pcn prt pnt pco) it fa1 ∧ LST pcn prt pnt pco fa1 a 64 L ∧ STP pcn prt pnt pco fa1 it a (-1) L rv)) : c2 = kc ∧ (kc = 0 → ov = rv) ∧ REL self dO dN now lm go fpo ffr pn fn fnu ftk fsz frt fnt fco nfresh nsu nsr nse it mnow gr md mO ppo pfr pnu psi pcn prt pnt pco gus gfa gb := by
  obtain ⟨hS, hD, hL, hN, hr1, hr2, hw, hk, hy⟩ := hR
  have hit : self = it := hS.1.2.2.symm
  have hs64 : 0 ≤ self ∧ self < 64 := ⟨hS.1.1, hS.1.2.1⟩
  subst hit
  rcases hC0 with ⟨gsu, gsr, gse, mk, rfl, rfl, rfl, rfl, rfl, rfl, f0, f1, f2, f3, f4, f5, L, f6, f7⟩ | ⟨rfl, rfl, rfl, rfl, rfl, hx⟩
  · rcases hM2 with ⟨m1, -⟩ | ⟨m1, rfl, fa1, L', m3, m4, m5⟩
    · exact absurd f0 m1
    · refine ⟨rfl, fun _ => ?_, hS, hD, hL, hN, hr1, hr2, hw, hk, Or.inr rfl, f1, f2, f3, hM0, hM1, fun _ => f4⟩
      obtain ⟨rfl, w⟩ := two_fst hr1 hr2 hk hw hs64 f4 f6 f7 m3 m4
      rcases w with ⟨c, rfl⟩ | ⟨c, w⟩
      · rcases m5 with ⟨-, ⟨-, v⟩ | ⟨v, -⟩⟩ | ⟨v, -⟩
        · rw [popI_0, v]
        · omega
        · exact absurd c v
      · rcases m5 with ⟨v, -⟩ | ⟨-, ⟨-, v⟩ | ⟨v, -⟩⟩
        · exact absurd v c
        · rw [v]; exact (pop_fs hr2 w).2
        · omega
  · rcases hM2 with ⟨m1, rfl⟩ | ⟨m1, -⟩
    · exact ⟨rfl, fun h => absurd h (by decide), hS, hD, hL, hN, hr1, hr2, hw, hk, hy.1, hy.2.1, hy.2.2.1, hy.2.2.2.1, hM0, hM1, hy.2.2.2.2.2.2⟩
    · exact absurd m1 hx
theorem rel_first {self : Int} {dO : Int} {dN : Int} {now : Int} {lm : Int} {go : Int} {fpo : Int → Int} {ffr : Int → Int} {pn : Int} {fn : Int} {fnu : Int → Int} {ftk : Int → Int} {fsz : Int → Int} {frt : Int → Int} {fnt : Int → Int} {fco : Int → Int} {fresh : Int} {fsu : Int → Int} {fsr : Int → Int} {fse : Int → Int} {it : Int} {mnow : Int} {gr : Int} {md : Int} {mO : Int} {ppo : Int → Int} {pfr : Int → Int} {pnu : Int → Int} {psi : Int → Int} {pcn : Int → Int} {prt : Int → Int} {pnt : Int → Int} {pco : Int → Int} {pus : Int → Int} {pfa : Int → Int} {gb : Int} {a : Int} {k : Int} {kc : Int} {ov : Int} {nfresh : Int} {nsu : Int → Int} {nsr : Int → Int} {nse : Int → Int} {rv : Int} {c2 : Int} {gus : Int → Int} {gfa : Int → Int} (hR : REL self dO dN now lm go fpo ffr pn fn fnu ftk fsz frt fnt fco fresh fsu fsr fse it mnow gr md mO ppo pfr pnu psi pcn prt pnt pco pus pfa gb) (hC0 : (∃ (gsu : Int → Int) (gsr : Int → Int) (gse : Int → Int) (mk : Int) (pp : Int), kc = 0 ∧ ov = 64 * fnt (self * 24 + pp) + frt (self * 24 + pp) ∧ nfresh = 1 ∧ nsu = gsu ∧ nsr = gsr ∧ nse = gse ∧ ((0 ≤ a ∧ a < 64)) ∧ (∀ i : Int, -1 ≤ gsu i ∧ gsu i ≤ 64000) ∧ (∀ i : Int, 0 ≤ gsr i ∧ gsr i ≤ 16777215) ∧ (∀ i : Int, 0 ≤ gse i ∧ gse i ≤ 1) ∧ (WAYS fsz frt fnt fco self gsu gsr) ∧ (0 ≤ mk ∧ mk ≤ 16777215) ∧ (∃ L : Int, LST fsz frt fnt fco gsu a 64 L ∧ (((L = -1 ∨ ps fsz frt fnt fco gsu self a L) ∧ mk = 0) ∨ (¬ (L = -1 ∨ ps fsz frt fnt fco gsu self a L) ∧ MSK fsz frt fnt fco gsu gsr a L 64 mk))) ∧ (0 ≤ k ∧ k < popI mk) ∧ (0 ≤ pp ∧ pp < 24) ∧ (tb mk pp) ∧ (cI (bF mk) pp = k)) ∨ (kc = 1 ∧ nfresh = fresh ∧ nsu = fsu ∧ nsr = fsr ∧ nse = fse ∧ (¬ (0 ≤ a ∧ a < 64))) ∨ (∃ (gsu : Int → Int) (gsr : Int → Int) (gse : Int → Int) (mk : Int), kc = 2 ∧ nfresh = 1 ∧ nsu = gsu ∧ nsr = gsr ∧ nse = gse ∧ ((0 ≤ a ∧ a < 64)) ∧ (∀ i : Int, -1 ≤ gsu i ∧ gsu i ≤ 64000) ∧ (∀ i : Int, 0 ≤ gsr i ∧ gsr i ≤ 16777215) ∧ (∀ i : Int, 0 ≤ gse i ∧ gse i ≤ 1) ∧ (WAYS fsz frt fnt fco self gsu gsr) ∧ (0 ≤ mk ∧ mk ≤ 16777215) ∧ (∃ L : Int, LST fsz frt fnt fco gsu a 64 L ∧ (((L = -1 ∨ ps fsz frt fnt fco gsu self a L) ∧ mk = 0) ∨ (¬ (L = -1 ∨ ps fsz frt fnt fco gsu self a L) ∧ MSK fsz frt fnt fco gsu gsr a L 64 mk))) ∧ (¬ (0 ≤ k ∧ k < popI mk)))) (hM0 : ∀ i : Int, 0 ≤ gus i ∧ gus i ≤ 1) (hM1 : ∀ i : Int, -1 ≤ gfa i ∧ gfa i ≤ 64000) (hM2 : (¬ (0 ≤ a ∧ a < 64) ∧ c2 = 1) ∨ ((0 ≤ a ∧ a < 64) ∧ k < 0 ∧ c2 = 2) ∨ ((0 ≤ a ∧ a < 64) ∧ 0 ≤ k ∧ ∃ sv : Int, ((sv < 0 ∧ c2 = 2) ∨ (0 ≤ sv ∧ c2 = 0 ∧ rv = sv)) ∧ ∃ (fa1 : Int → Int) (L : Int), isD (eg pcn prt pnt pco) it fa1 ∧ LST pcn prt pnt pco fa1 a 64 L ∧ STP pcn prt pnt pco fa1 it a k L sv)) : c2 = kc ∧ (kc = 0 → ov = rv) ∧ REL self dO dN now lm go fpo ffr pn fn fnu ftk fsz frt fnt fco nfresh nsu nsr nse it mnow gr md mO ppo pfr pnu psi pcn prt pnt pco gus gfa gb := by
  obtain ⟨hS, hD, hL, hN, hr1, hr2, hw, hk, hy⟩ := hR
  have hit : self = it := hS.1.2.2.symm
  have hs64 : 0 ≤ self ∧ self < 64 := ⟨hS.1.1, hS.1.2.1⟩
  subst hit
  rcases hC0 with ⟨gsu, gsr, gse, mk, pp, rfl, rfl, rfl, rfl, rfl, rfl, f0, f1, f2, f3, f4, f5, ⟨L, f6, f7⟩, f8, f9, f10, f11⟩ | ⟨rfl, rfl, rfl, rfl, rfl, hx⟩ | ⟨gsu, gsr, gse, mk, rfl, rfl, rfl, rfl, rfl, f0, f1, f2, f3, f4, f5, ⟨L, f6, f7⟩, f8⟩
  · rcases hM2 with ⟨m1, -⟩ | ⟨m1, m2, -⟩ | ⟨m1, m2, sv, m6, fa1, L', m3, m4, m5⟩
    · exact absurd f0 m1
    · omega
    · obtain ⟨rfl, w⟩ := two_fst hr1 hr2 hk hw hs64 f4 f6 f7 m3 m4
      rcases w with ⟨c, rfl⟩ | ⟨c, w⟩
      · rw [popI_0] at f8; omega
      · obtain ⟨p1, p2⟩ := pop_fs hr2 w
        rcases m5 with ⟨v, -⟩ | ⟨-, ⟨v, -⟩ | ⟨-, v⟩⟩
        · exact absurd v c
        · omega
        · rcases v with ⟨-, v | v⟩ | ⟨b, b0, b1, b2, b3, b4⟩
          · omega
          · omega
          · have hpp : ¬ fsF pcn prt pnt pco self a L' pp = 0 := fsF_1 ((w pp f9.1 f9.2).1 f10)
            have hcp : cI (fsF pcn prt pnt pco self a L') pp = k := by
              rw [← f11]
              exact (cI_congr (fun j j0 j1 => p1 j j0 (by omega))).symm
            have hbp : b = pp := by
              rcases Int.lt_trichotomy b pp with x | x | x
              · have := cI_lt _ b0 x b2; omega
              · exact x
              · have := cI_lt _ f9.1 x hpp; omega
            subst hbp
            have hu := (fsF_e b2).1
            have ht := usb_t (AOK_c hr2 (RK5_m hw hk)) hu
            have hn := hr2.2.2.1 (self * 24 + b)
            have h := hw self hs64.1 (by omega)
            obtain ⟨h1, h2, -⟩ := h.2 b b0 (by rw [← h.1]; exact b1)
            rcases m6 with ⟨x, -⟩ | ⟨-, rfl, rfl⟩
            · omega
            · exact ⟨rfl, fun _ => by omega, hS, hD, hL, hN, hr1, hr2, hw, hk, Or.inr rfl, f1, f2, f3, hM0, hM1, fun _ => f4⟩
  · rcases hM2 with ⟨m1, rfl⟩ | ⟨m1, -⟩ | ⟨m1, -⟩
    · exact ⟨rfl, fun h => absurd h (by decide), hS, hD, hL, hN, hr1, hr2, hw, hk, hy.1, hy.2.1, hy.2.2.1, hy.2.2.2.1, hM0, hM1, hy.2.2.2.2.2.2⟩
    · exact absurd m1 hx
    · exact absurd m1 hx
  · rcases hM2 with ⟨m1, -⟩ | ⟨m1, m2, rfl⟩ | ⟨m1, m2, sv, m6, fa1, L', m3, m4, m5⟩
    · exact absurd f0 m1
    · exact ⟨rfl, fun h => absurd h (by decide), hS, hD, hL, hN, hr1, hr2, hw, hk, Or.inr rfl, f1, f2, f3, hM0, hM1, fun _ => f4⟩
    · have hsv : sv = -1 := by
        obtain ⟨rfl, w⟩ := two_fst hr1 hr2 hk hw hs64 f4 f6 f7 m3 m4
        rcases w with ⟨c, rfl⟩ | ⟨c, w⟩
        · rcases m5 with ⟨-, ⟨v, -⟩ | ⟨-, v⟩⟩ | ⟨v, -⟩
          · omega
          · exact v
          · exact absurd c v
        · obtain ⟨p1, p2⟩ := pop_fs hr2 w
          rcases m5 with ⟨v, -⟩ | ⟨-, ⟨v, -⟩ | ⟨-, v⟩⟩
          · exact absurd v c
          · omega
          · rcases v with ⟨v, -⟩ | ⟨b, b0, b1, b2, b3, b4⟩
            · exact v
            · have := cI_lt _ b0 b1 b2
              omega
      rcases m6 with ⟨-, rfl⟩ | ⟨x, -⟩
      · exact ⟨rfl, fun h => absurd h (by decide), hS, hD, hL, hN, hr1, hr2, hw, hk, Or.inr rfl, f1, f2, f3, hM0, hM1, fun _ => f4⟩
      · omega
/-! What is told. -/
theorem told_at {fsz0 frt0 fnt0 fco0 fsz frt fnt fco fpo ffr : Int → Int} {pn fn : Int} {ppo pfr : Int → Int} (hL : RLk fpo ffr pn fn ppo pfr) (h : TL fsz0 frt0 fnt0 fco0 fsz frt fnt fco fpo ffr 65 64 fn) {k : Int} (k0 : 0 ≤ k) (k1 : k < fsz 65) :
    (∃ m : Int, 0 ≤ m ∧ m < 64 ∧ ¬ fpo m = 0 ∧ k = cI fpo m ∧ frt (65 * 24 + k) = -1 ∧ fnt (65 * 24 + k) = m ∧ fco (65 * 24 + k) = fpo m) ∨
    (∃ s : Int, 0 ≤ s ∧ s < 4096 ∧ ¬ pfr s = 0 ∧ k = cI fpo 64 + cI pfr s ∧ frt (65 * 24 + k) = s % 64 ∧ fnt (65 * 24 + k) = s / 64 ∧ fco (65 * 24 + k) = fpo (s / 64) ∧ ¬ fpo (s / 64) = 0) := by
  obtain ⟨rpo, rfr, rqo, rqr, heq, hpn, hs, hfn, hm, hp⟩ := hL
  obtain ⟨t1, t2, t3, t4, t5⟩ := h
  by_cases c : k < cI fpo 64
  · obtain ⟨m, m0, m1, m2, m3⟩ := cI_sur fpo (by decide) k0 c
    have := t4 m m0 m1 m2
    rw [m3] at this
    exact Or.inl ⟨m, m0, m1, m2, m3.symm, this.1, this.2.1, this.2.2⟩
  · have j0 : 0 ≤ k - cI fpo 64 := by omega
    have j1 : k - cI fpo 64 < fn := by omega
    have hs' := (hm (ffr (k - cI fpo 64))).1 ⟨_, j0, j1, rfl⟩
    have hc := cnt_i hs hm j0 j1
    have := t5 _ j0 j1
    rw [show cI fpo 64 + (k - cI fpo 64) = k by omega] at this
    exact Or.inr ⟨ffr (k - cI fpo 64), hs'.1, hs'.2.1, hs'.2.2, by omega, this.1, this.2.1, this.2.2, hp _ hs'.1 hs'.2.1 hs'.2.2⟩
theorem told_eq {fsz0 frt0 fnt0 fco0 fsz frt fnt fco fpo ffr cn0 rt0 nt0 co0 cn rt nt co : Int → Int} {pn fn : Int} {ppo pfr : Int → Int} (hL : RLk fpo ffr pn fn ppo pfr) (h : TL fsz0 frt0 fnt0 fco0 fsz frt fnt fco fpo ffr 65 64 fn) (h2 : TM cn0 rt0 nt0 co0 cn rt nt co ppo pfr 65 64 4096) : ROWE fsz frt fnt fco 65 cn rt nt co 65 := by
  have hcp := RLk_cp hL
  have hcf := RLk_cf hL
  have hat := fun k k0 k1 => told_at hL h (k := k) k0 k1
  obtain ⟨rpo, rfr, rqo, rqr, heq, hpn, hs, hfn, hm, hp⟩ := hL
  obtain ⟨t1, t2, t3, t4, t5⟩ := h
  obtain ⟨u1, u2, u3, u4, u5⟩ := h2
  refine ⟨by omega, fun k k0 k1 => ?_⟩
  rcases hat k k0 k1 with ⟨m, m0, m1, m2, rfl, a, b, c⟩ | ⟨s, s0, s1, s2, rfl, a, b, c, d⟩
  · have e : cI ppo m = cI fpo m := cI_congr (fun j j0 j1 => by rw [heq j j0 (by omega)])
    have := u4 m m0 m1 (by rw [heq m m0 m1]; exact m2)
    rw [e, heq m m0 m1] at this
    exact ⟨this.1.trans a.symm, this.2.1.trans b.symm, this.2.2.trans c.symm⟩
  · have := u5 s s0 s1 s2
    rw [hcp, hpn.1, heq (s / 64) (by omega) (by omega)] at this
    exact ⟨this.1.trans a.symm, this.2.1.trans b.symm, this.2.2.trans c.symm⟩
theorem told_ok {fsz0 frt0 fnt0 fco0 fsz frt fnt fco fpo ffr : Int → Int} {pn fn : Int} {ppo pfr : Int → Int} (hL : RLk fpo ffr pn fn ppo pfr) (h : TL fsz0 frt0 fnt0 fco0 fsz frt fnt fco fpo ffr 65 64 fn) : ROWK fsz frt fnt fco 65 := by
  have hat := fun k k0 k1 => told_at hL h (k := k) k0 k1
  have rpo := hL.1
  constructor
  · intro k k0 k1
    rcases hat k k0 k1 with ⟨m, m0, m1, m2, -, -, -, c⟩ | ⟨s, s0, s1, s2, -, -, -, c, d⟩
    · have := rpo m; omega
    · have := rpo (s / 64); omega
  · intro a b a0 a1 b0 b1 e1 e2
    rcases hat a a0 a1 with ⟨m, m0, m1, m2, m3, m4, m5, -⟩ | ⟨s, s0, s1, s2, s3, s4, s5, -, -⟩ <;> rcases hat b b0 b1 with ⟨m', m0', m1', m2', m3', m4', m5', -⟩ | ⟨s', s0', s1', s2', s3', s4', s5', -, -⟩
    · have : m = m' := by omega
      subst this
      omega
    · omega
    · omega
    · have : s = s' := by omega
      subst this
      omega
theorem TL_row {fsz0 frt0 fnt0 fco0 fsz frt fnt fco fpo ffr : Int → Int} {n i : Int} (hsz : ∀ j : Int, 0 ≤ fsz0 j ∧ fsz0 j ≤ 24) (h : TL fsz0 frt0 fnt0 fco0 fsz frt fnt fco fpo ffr 65 n i) : ∀ r : Int, 0 ≤ r → r < 65 → ROWE fsz0 frt0 fnt0 fco0 r fsz frt fnt fco r := fun r r0 r1 =>
  ⟨h.2.1 r (by omega), fun k k0 k1 => h.2.2.1 _ (Or.inl (by have := hsz r; omega))⟩
theorem TM_row {fsz0 frt0 fnt0 fco0 fsz frt fnt fco fpo ffr : Int → Int} {n i : Int} (hsz : ∀ j : Int, 0 ≤ fsz0 j ∧ fsz0 j ≤ 24) (h : TM fsz0 frt0 fnt0 fco0 fsz frt fnt fco fpo ffr 65 n i) : ∀ r : Int, 0 ≤ r → r < 65 → ROWE fsz0 frt0 fnt0 fco0 r fsz frt fnt fco r := fun r r0 r1 =>
  ⟨h.2.1 r (by omega), fun k k0 k1 => h.2.2.1 _ (Or.inl (by have := hsz r; omega))⟩
theorem told_same {fsz0 frt0 fnt0 fco0 fsz frt fnt fco fpo ffr cn0 rt0 nt0 co0 cn rt nt co : Int → Int} {pn fn self : Int} {ppo pfr : Int → Int} (hL : RLk fpo ffr pn fn ppo pfr) (h : TL fsz0 frt0 fnt0 fco0 fsz frt fnt fco fpo ffr 65 64 fn) (h2 : TM cn0 rt0 nt0 co0 cn rt nt co ppo pfr 65 64 4096)
    (r1 : RRg fsz0 frt0 fnt0 fco0) (r2 : RRg cn0 rt0 nt0 co0) (hw : RW5 fsz0 frt0 fnt0 fco0 cn0 rt0 nt0 co0) (hs : 0 ≤ self ∧ self < 64) : SAMEe fsz frt fnt fco self 65 ↔ SAMEe cn rt nt co 65 self := by
  have e := told_eq hL h h2
  have a : ROWE fsz frt fnt fco self cn rt nt co self := (TL_row r1.1 h self hs.1 (by omega)).symm.trans ((hw self hs.1 (by omega)).trans (TM_row r2.1 h2 self hs.1 (by omega)))
  rw [SAMEe_row, SAMEe_row]
  constructor
  · intro w
    exact a.symm.trans (w.symm.trans e)
  · intro w
    exact e.trans (w.symm.trans a.symm)
theorem rel_make {self : Int} {dO : Int} {dN : Int} {now : Int} {lm : Int} {go : Int} {fpo : Int → Int} {ffr : Int → Int} {pn : Int} {fn : Int} {fnu : Int → Int} {ftk : Int → Int} {fsz : Int → Int} {frt : Int → Int} {fnt : Int → Int} {fco : Int → Int} {fresh : Int} {fsu : Int → Int} {fsr : Int → Int} {fse : Int → Int} {it : Int} {mnow : Int} {gr : Int} {md : Int} {mO : Int} {ppo : Int → Int} {pfr : Int → Int} {pnu : Int → Int} {psi : Int → Int} {pcn : Int → Int} {prt : Int → Int} {pnt : Int → Int} {pco : Int → Int} {pus : Int → Int} {pfa : Int → Int} {gb : Int} {krv : Int} {kgnu : Int → Int} {kgtk : Int → Int} {kgsz : Int → Int} {kgrt : Int → Int} {kgnt : Int → Int} {kgco : Int → Int} {klm2 : Int} {kgo2 : Int} {kfresh2 : Int} {rv : Int} {gr2 : Int} {md2 : Int} {gnu : Int → Int} {gsi : Int → Int} {gcn : Int → Int} {grt : Int → Int} {gnt : Int → Int} {gco : Int → Int} (hR : REL self dO dN now lm go fpo ffr pn fn fnu ftk fsz frt fnt fco fresh fsu fsr fse it mnow gr md mO ppo pfr pnu psi pcn prt pnt pco pus pfa gb) (hgb : gb ≤ 1000500000) (hC0 : ∀ i : Int, 0 ≤ kgsz i ∧ kgsz i ≤ 24) (hC1 : ∀ i : Int, -1 ≤ kgrt i ∧ kgrt i ≤ 63) (hC2 : ∀ i : Int, 0 ≤ kgnt i ∧ kgnt i ≤ 63) (hC3 : ∀ i : Int, 0 ≤ kgco i ∧ kgco i ≤ 1000) (hC4 : (now - lm < 10 ∧ krv = -1 ∧ kgnu = fnu ∧ kgtk = ftk ∧ kgsz = fsz ∧ kgrt = frt ∧ kgnt = fnt ∧ kgco = fco ∧ klm2 = lm ∧ kgo2 = go ∧ kfresh2 = fresh) ∨ (¬ now - lm < 10 ∧ ¬ (fnu self = -1 ∨ 2000 ≤ now - ftk self ∨ fnu self < go) ∧ krv = -1 ∧ kgnu = uZ fnu 65 (-1) ∧ kgtk = ftk ∧ TL fsz frt fnt fco kgsz kgrt kgnt kgco fpo ffr 65 64 fn ∧ SAMEe kgsz kgrt kgnt kgco self 65 ∧ klm2 = lm ∧ kgo2 = go ∧ kfresh2 = fresh) ∨ (¬ now - lm < 10 ∧ ((fnu self = -1 ∨ 2000 ≤ now - ftk self ∨ fnu self < go) ∨ ∃ msz mrt mnt mco : Int → Int, TL fsz frt fnt fco msz mrt mnt mco fpo ffr 65 64 fn ∧ ¬ SAMEe msz mrt mnt mco self 65) ∧ krv = go + 1 ∧ kgo2 = go + 1 ∧ klm2 = now ∧ kfresh2 = 0 ∧ kgnu = uZ (uZ fnu 65 (-1)) self (go + 1) ∧ kgtk = uZ ftk self now ∧ ∃ hsz hrt hnt hco : Int → Int, TL fsz frt fnt fco hsz hrt hnt hco fpo ffr 65 64 fn ∧ kgsz = uZ hsz self (hsz 65) ∧ kgrt = cZ hrt (65 * 24 + 0) (self * 24 + 0) (hsz 65) ∧ kgnt = cZ hnt (65 * 24 + 0) (self * 24 + 0) (hsz 65) ∧ kgco = cZ hco (65 * 24 + 0) (self * 24 + 0) (hsz 65))) (hM0 : ∀ i : Int, 0 ≤ gcn i ∧ gcn i ≤ 24) (hM1 : ∀ i : Int, -1 ≤ grt i ∧ grt i ≤ 63) (hM2 : ∀ i : Int, 0 ≤ gnt i ∧ gnt i ≤ 63) (hM3 : ∀ i : Int, 0 ≤ gco i ∧ gco i ≤ 1000) (hM4 : (((0 < pnu it ∧ SAMEe gcn grt gnt gco 65 it ∧ mnow - psi it < 2000 ∧ gr ≤ pnu it) ∨ mnow - md < 10) ∧ rv = -1 ∧ gr2 = gr ∧ md2 = md ∧ gnu = pnu ∧ gsi = psi ∧ TM pcn prt pnt pco gcn grt gnt gco ppo pfr 65 64 4096) ∨ (∃ tcn trt tnt tco : Int → Int, TM pcn prt pnt pco tcn trt tnt tco ppo pfr 65 64 4096 ∧ ¬ (0 < pnu it ∧ SAMEe tcn trt tnt tco 65 it ∧ mnow - psi it < 2000 ∧ gr ≤ pnu it) ∧ ¬ mnow - md < 10 ∧ rv = gr + 1 ∧ gr2 = gr + 1 ∧ md2 = mnow ∧ gnu = uZ pnu it (gr + 1) ∧ gsi = uZ psi it mnow ∧ gcn = uZ tcn it (tcn 65) ∧ grt = cZ trt (24 * 65) (24 * it) (tcn 65) ∧ gnt = cZ tnt (24 * 65) (24 * it) (tcn 65) ∧ gco = cZ tco (24 * 65) (24 * it) (tcn 65))) : krv = rv ∧ REL self dO dN now klm2 kgo2 fpo ffr pn fn kgnu kgtk kgsz kgrt kgnt kgco kfresh2 fsu fsr fse it mnow gr2 md2 mO ppo pfr gnu gsi gcn grt gnt gco pus pfa (gb + 1) := by
  obtain ⟨hS, hD, hL, hN, hr1, hr2, hw, hk, hy⟩ := hR
  have hit : self = it := hS.1.2.2.symm
  have hs64 : 0 ≤ self ∧ self < 64 := ⟨hS.1.1, hS.1.2.1⟩
  obtain ⟨n1, n2, n3, n4, n5⟩ := hN
  obtain ⟨d1, d2, d3⟩ := hD
  have hS4 := hS.2.2.2
  have hS2 := hS.2.1
  have hS3 := hS.2.2.1
  subst hit
  have e5 := n5 self hs64.1 hs64.2
  have hnw : now = mnow := by omega
  subst hnw
  have hlm : lm = md := by omega
  subst hlm
  have hgr : go = gr := by omega
  subst hgr
  have hSg : RSc self now lm go self now lm go (gb + 1) := RSc_up (by omega) hS
  rcases hC4 with ⟨c1, rfl, rfl, rfl, rfl, rfl, rfl, rfl, rfl, rfl, rfl⟩ | ⟨c1, c2, rfl, rfl, rfl, c3, c4, rfl, rfl, rfl⟩ | ⟨c1, c2, rfl, rfl, rfl, rfl, rfl, rfl, hsz, hrt, hnt, hco, c3, rfl, rfl, rfl, rfl⟩
  · rcases hM4 with ⟨-, rfl, rfl, rfl, rfl, rfl, m1⟩ | ⟨tcn, trt, tnt, tco, -, -, m1, -⟩
    · exact ⟨rfl, hSg, ⟨d1, d2, d3⟩, hL, ⟨n1, n2, n3, n4, n5⟩, hr1, ⟨hM0, hM1, hM2, hM3⟩, fun r r0 r1 => (hw r r0 r1).trans (TM_row hr2.1 m1 r r0 r1), hk, hy⟩
    · exact absurd c1 m1
  · rcases hM4 with ⟨-, rfl, rfl, rfl, rfl, rfl, m1⟩ | ⟨tcn, trt, tnt, tco, m1, m2, -⟩
    · have hE := TL_row hr1.1 c3
      have hr1' : RRg kgsz kgrt kgnt kgco := ⟨hC0, hC1, hC2, hC3⟩
      have hk' : RK5 kgsz kgrt kgnt kgco := fun r r0 r1 => ROWK.via (hE r r0 r1) (hk r r0 r1)
      refine ⟨rfl, hSg, ⟨d1, d2, d3⟩, hL, ⟨uZ_rng n1 (by omega), n2, n3, n4, fun r r0 r1 => ?_⟩, hr1', ⟨hM0, hM1, hM2, hM3⟩, fun r r0 r1 => (hE r r0 r1).symm.trans ((hw r r0 r1).trans (TM_row hr2.1 m1 r r0 r1)), hk', RWy_im hs64 hr1 hk hr1' hk' (fun r r0 r1 => hE r r0 (by omega)) hy⟩
      rw [uZ_n (by omega), (hE r r0 (by omega)).1]
      exact n5 r r0 r1
    · exact absurd ⟨by omega, (told_same hL c3 m1 hr1 hr2 hw hs64).1 c4, by omega, by omega⟩ m2
  · rcases hM4 with ⟨m1, -, -, -, -, -, m2⟩ | ⟨tcn, trt, tnt, tco, m1, m2, m3, rfl, rfl, rfl, rfl, rfl, rfl, rfl, rfl, rfl⟩
    · exfalso
      rcases m1 with ⟨w1, w2, w3, w4⟩ | w
      · rcases c2 with v | ⟨msz, mrt, mnt, mco, v1, v2⟩
        · omega
        · exact v2 ((told_same hL v1 m2 hr1 hr2 hw hs64).2 w2)
      · exact c1 w
    · have hE := TL_row hr1.1 c3
      have hF := TM_row hr2.1 m1
      have hcp := RLk_cp hL
      have hcf := RLk_cf hL
      have e65 := told_eq hL c3 m1
      have z1 : 0 ≤ hsz 65 ∧ hsz 65 ≤ 24 := by have := hC0 self; rw [uZ_s] at this; exact this
      have z2 : 0 ≤ tcn 65 ∧ tcn 65 ≤ 24 := by have := hM0 self; rw [uZ_s] at this; exact this
      have cE : ∀ r : Int, 0 ≤ r → r < 65 → r ≠ self → ROWE fsz frt fnt fco r (uZ hsz self (hsz 65)) (cZ hrt (65 * 24 + 0) (self * 24 + 0) (hsz 65)) (cZ hnt (65 * 24 + 0) (self * 24 + 0) (hsz 65)) (cZ hco (65 * 24 + 0) (self * 24 + 0) (hsz 65)) r := fun r r0 r1 h => (hE r r0 r1).trans (ROWE.off (by omega) z1.2 (by rw [(hE r r0 r1).1]; exact (hr1.1 r).2) h)
      have mE : ∀ r : Int, 0 ≤ r → r < 65 → r ≠ self → ROWE pcn prt pnt pco r (uZ tcn self (tcn 65)) (cZ trt (24 * 65) (24 * self) (tcn 65)) (cZ tnt (24 * 65) (24 * self) (tcn 65)) (cZ tco (24 * 65) (24 * self) (tcn 65)) r := fun r r0 r1 h => (hF r r0 r1).trans (ROWE.off (by omega) z2.2 (by rw [(hF r r0 r1).1]; exact (hr2.1 r).2) h)
      have cC : ROWE hsz hrt hnt hco 65 (uZ hsz self (hsz 65)) (cZ hrt (65 * 24 + 0) (self * 24 + 0) (hsz 65)) (cZ hnt (65 * 24 + 0) (self * 24 + 0) (hsz 65)) (cZ hco (65 * 24 + 0) (self * 24 + 0) (hsz 65)) self := ROWE.copy (by omega) (by omega) z1.1
      have mC : ROWE tcn trt tnt tco 65 (uZ tcn self (tcn 65)) (cZ trt (24 * 65) (24 * self) (tcn 65)) (cZ tnt (24 * 65) (24 * self) (tcn 65)) (cZ tco (24 * 65) (24 * self) (tcn 65)) self := ROWE.copy (by omega) (by omega) z2.1
      refine ⟨rfl, ⟨hS.1, hS.2.1, by omega, by omega, by omega, rfl⟩, ⟨d1, d2, ?_⟩, hL, ⟨uZ_rng (uZ_rng n1 (by omega)) (by omega), uZ_rng n2 (by omega), uZ_rng n3 (by omega), uZ_rng n4 (by omega), fun r r0 r1 => ?_⟩, ⟨hC0, hC1, hC2, hC3⟩, ⟨hM0, hM1, hM2, hM3⟩, fun r r0 r1 => ?_, fun r r0 r1 => ?_, RWy_0 hy⟩
      · rw [uZ_n (by omega)]; exact d3
      · by_cases er : r = self
        · subst er
          rw [uZ_s, uZ_s, uZ_s, uZ_s, uZ_s]
          omega
        · rw [uZ_n er, uZ_n er, uZ_n er, uZ_n er, uZ_n er, uZ_n (by omega), (hE r r0 (by omega)).1]
          exact n5 r r0 r1
      · by_cases er : r = self
        · subst er
          exact cC.symm.trans (e65.trans mC)
        · exact (cE r r0 r1 er).symm.trans ((hw r r0 r1).trans (mE r r0 r1 er))
      · by_cases er : r = self
        · subst er
          exact ROWK.via cC (told_ok hL c3)
        · exact ROWK.via (cE r r0 r1 er) (hk r r0 r1)
