/-! The relation between the two sides. -/
def RSc (self now lm go it mnow md gr gb : Int) : Prop := (0 ≤ self ∧ self < 64 ∧ it = self) ∧ (0 ≤ now ∧ now ≤ 1000000 ∧ mnow = now) ∧ (-10 ≤ lm ∧ lm ≤ 1000000 ∧ md = lm) ∧ 0 ≤ go ∧ go ≤ gb ∧ gr = go
def RDr (dO dN mO : Int) (pnu : Int → Int) : Prop := (-1 ≤ dO ∧ dO < 64) ∧ (0 ≤ mO ∧ mO < 64) ∧ ((dO = -1 ∧ pnu 64 = 0) ∨ (dO ≠ -1 ∧ pnu 64 = dN ∧ 1 ≤ dN ∧ dN ≤ 1000000000 ∧ mO = dO))
def RLk (fpo ffr : Int → Int) (pn fn : Int) (ppo pfr : Int → Int) : Prop := (∀ i : Int, 0 ≤ fpo i ∧ fpo i ≤ 1000) ∧ (∀ i : Int, 0 ≤ ffr i ∧ ffr i ≤ 4095) ∧ (∀ i : Int, 0 ≤ ppo i ∧ ppo i ≤ 1000) ∧ (∀ i : Int, 0 ≤ pfr i ∧ pfr i ≤ 1) ∧ (∀ n : Int, 0 ≤ n → n < 64 → ppo n = fpo n) ∧ (pn = cI fpo 64 ∧ pn ≤ 8) ∧ srt ffr fn ∧ (0 ≤ fn ∧ fn ≤ 16) ∧
  (∀ s : Int, memF ffr fn s ↔ (0 ≤ s ∧ s < 4096 ∧ ¬ pfr s = 0)) ∧ (∀ s : Int, 0 ≤ s → s < 4096 → ¬ pfr s = 0 → ¬ fpo (s / 64) = 0)
def RAd (fnu ftk fsz pnu psi : Int → Int) : Prop := (∀ i : Int, -1 ≤ fnu i ∧ fnu i ≤ 1100000000) ∧ (∀ i : Int, 0 ≤ ftk i ∧ ftk i ≤ 1000000) ∧ (∀ i : Int, 0 ≤ pnu i ∧ pnu i ≤ 1100000000) ∧ (∀ i : Int, 0 ≤ psi i ∧ psi i ≤ 1000000) ∧
  ∀ r : Int, 0 ≤ r → r < 64 → ((fnu r = -1 ∧ pnu r = 0 ∧ fsz r = 0) ∨ (1 ≤ fnu r ∧ pnu r = fnu r ∧ psi r = ftk r))
def RRg (fsz frt fnt fco : Int → Int) : Prop := (∀ i : Int, 0 ≤ fsz i ∧ fsz i ≤ 24) ∧ (∀ i : Int, -1 ≤ frt i ∧ frt i ≤ 63) ∧ (∀ i : Int, 0 ≤ fnt i ∧ fnt i ≤ 63) ∧ ∀ i : Int, 0 ≤ fco i ∧ fco i ≤ 1000
def RW5 (fsz frt fnt fco pcn prt pnt pco : Int → Int) : Prop := ∀ r : Int, 0 ≤ r → r < 65 → ROWE fsz frt fnt fco r pcn prt pnt pco r
def RK5 (fsz frt fnt fco : Int → Int) : Prop := ∀ r : Int, 0 ≤ r → r < 65 → ROWK fsz frt fnt fco r
def RWy (self fresh : Int) (fsz frt fnt fco fsu fsr fse pus pfa : Int → Int) : Prop := (fresh = 0 ∨ fresh = 1) ∧ (∀ i : Int, -1 ≤ fsu i ∧ fsu i ≤ 64000) ∧ (∀ i : Int, 0 ≤ fsr i ∧ fsr i ≤ 16777215) ∧ (∀ i : Int, 0 ≤ fse i ∧ fse i ≤ 1) ∧ (∀ i : Int, 0 ≤ pus i ∧ pus i ≤ 1) ∧ (∀ i : Int, -1 ≤ pfa i ∧ pfa i ≤ 64000) ∧ (fresh = 1 → WAYS fsz frt fnt fco self fsu fsr)
def REL (self dO dN now lm go : Int) (fpo ffr : Int → Int) (pn fn : Int) (fnu ftk fsz frt fnt fco : Int → Int) (fresh : Int) (fsu fsr fse : Int → Int) (it mnow gr md mO : Int) (ppo pfr pnu psi pcn prt pnt pco pus pfa : Int → Int) (gb : Int) : Prop :=
  RSc self now lm go it mnow md gr gb ∧ RDr dO dN mO pnu ∧ RLk fpo ffr pn fn ppo pfr ∧ RAd fnu ftk fsz pnu psi ∧ RRg fsz frt fnt fco ∧ RRg pcn prt pnt pco ∧ RW5 fsz frt fnt fco pcn prt pnt pco ∧ RK5 fsz frt fnt fco ∧ RWy self fresh fsz frt fnt fco fsu fsr fse pus pfa
theorem AOK_c {fsz frt fnt fco : Int → Int} (h : RRg fsz frt fnt fco) (k : RK5 fsz frt fnt fco) : AOK fsz frt fco := ⟨h.2.1, h.2.2.2, fun r j h0 h1 => (k r h0 (by omega)).1 j⟩
theorem UNQ_c {fsz frt fnt fco : Int → Int} (k : RK5 fsz frt fnt fco) : UNQ fsz frt fnt := fun r a b h0 h1 => (k r h0 (by omega)).2 a b
theorem RK5_m {fsz frt fnt fco pcn prt pnt pco : Int → Int} (w : RW5 fsz frt fnt fco pcn prt pnt pco) (k : RK5 fsz frt fnt fco) : RK5 pcn prt pnt pco := fun r h0 h1 => ROWK.via (w r h0 h1) (k r h0 h1)
theorem RW5.rws {fsz frt fnt fco pcn prt pnt pco : Int → Int} (w : RW5 fsz frt fnt fco pcn prt pnt pco) : RWS fsz frt fnt fco pcn prt pnt pco := fun r h0 h1 => w r h0 (by omega)
theorem RWy_im {self fresh : Int} {fsz frt fnt fco fsu fsr fse pus pfa gsz grt gnt gco : Int → Int} (hs : 0 ≤ self ∧ self < 64) (r1 : RRg fsz frt fnt fco) (k1 : RK5 fsz frt fnt fco) (r2 : RRg gsz grt gnt gco) (k2 : RK5 gsz grt gnt gco) (w : RWS fsz frt fnt fco gsz grt gnt gco) (h : RWy self fresh fsz frt fnt fco fsu fsr fse pus pfa) : RWy self fresh gsz grt gnt gco fsu fsr fse pus pfa :=
  ⟨h.1, h.2.1, h.2.2.1, h.2.2.2.1, h.2.2.2.2.1, h.2.2.2.2.2.1, fun q => WAYS_im (AOK_c r1 k1) (AOK_c r2 k2) w hs (h.2.2.2.2.2.2 q)⟩
theorem RWy_0 {self fresh : Int} {fsz frt fnt fco fsu fsr fse pus pfa gsz grt gnt gco : Int → Int} (h : RWy self fresh fsz frt fnt fco fsu fsr fse pus pfa) : RWy self 0 gsz grt gnt gco fsu fsr fse pus pfa :=
  ⟨Or.inl rfl, h.2.1, h.2.2.1, h.2.2.2.1, h.2.2.2.2.1, h.2.2.2.2.2.1, fun q => absurd q (by decide)⟩
theorem RSc_up {self now lm go it mnow md gr gb gb2 : Int} (hg : gb ≤ gb2) (h : RSc self now lm go it mnow md gr gb) : RSc self now lm go it mnow md gr gb2 := ⟨h.1, h.2.1, h.2.2.1, h.2.2.2.1, by have := h.2.2.2.2.1; omega, h.2.2.2.2.2⟩
theorem RLk_cp {fpo ffr : Int → Int} {pn fn : Int} {ppo pfr : Int → Int} (h : RLk fpo ffr pn fn ppo pfr) : cI ppo 64 = pn := by
  rw [h.2.2.2.2.2.1.1]
  exact cI_congr (fun j j0 j1 => by rw [h.2.2.2.2.1 j j0 j1])
theorem RLk_cf {fpo ffr : Int → Int} {pn fn : Int} {ppo pfr : Int → Int} (h : RLk fpo ffr pn fn ppo pfr) : cI pfr 4096 = fn := cnt_all h.2.2.2.2.2.2.1 h.2.2.2.2.2.2.2.2.1 h.2.2.2.2.2.2.2.1.1 (by decide)
theorem RLk_port {fpo ffr : Int → Int} {pn fn net cost : Int} {ppo pfr g gfr : Int → Int} {fn2 pn2 : Int} (hL : RLk fpo ffr pn fn ppo pfr) (f0 : (0 ≤ net ∧ net < 64 ∧ 0 ≤ cost ∧ cost ≤ 1000) ∧ ¬ (cost ≠ 0 ∧ fpo net = 0 ∧ 8 ≤ pn)) (f1 : ∀ i : Int, 0 ≤ g i ∧ g i ≤ 4095) (f2 : srt g fn2)
    (f3 : ∀ s : Int, memF g fn2 s ↔ (memF ffr fn s ∧ ¬ (fpo net ≠ 0 ∧ cost = 0 ∧ 64 * net ≤ s ∧ s ≤ 64 * net + 63))) (f4 : 0 ≤ fn2 ∧ fn2 ≤ fn) (f5 : (fpo net = 0 ∧ cost ≠ 0 ∧ pn2 = pn + 1) ∨ (fpo net ≠ 0 ∧ cost = 0 ∧ pn2 = pn - 1) ∨ ((fpo net = 0 ∧ cost = 0 ∨ fpo net ≠ 0 ∧ cost ≠ 0) ∧ pn2 = pn))
    (m0 : ∀ i : Int, 0 ≤ gfr i ∧ gfr i ≤ 1) (GF : ∀ k : Int, ((cost = 0 ∧ 64 * net ≤ k ∧ k < 64 * net + 64) → gfr k = 0) ∧ (¬ (cost = 0 ∧ 64 * net ≤ k ∧ k < 64 * net + 64) → gfr k = pfr k)) : RLk (uZ fpo net cost) g pn2 fn2 (uZ ppo net cost) gfr := by
  obtain ⟨rpo, rfr, rqo, rqr, heq, hpn, hs, hfn, hm, hp⟩ := hL
  refine ⟨uZ_rng rpo (by omega), f1, uZ_rng rqo (by omega), m0, fun n n0 n1 => ?_, ?_, f2, by omega, fun s => ?_, fun s s0 s1 s2 => ?_⟩
  · by_cases e : n = net
    · subst e; rw [uZ_s, uZ_s]
    · rw [uZ_n e, uZ_n e]; exact heq n n0 n1
  · rcases f5 with ⟨a, b, c⟩ | ⟨a, b, c⟩ | ⟨a, c⟩
    · rw [cI_upd f0.1.1 f0.1.2.1 a b]; omega
    · rw [b, cI_dn f0.1.1 f0.1.2.1 a]; omega
    · rw [cI_same (by omega)]; omega
  · rw [f3 s, hm s]
    constructor
    · rintro ⟨⟨s0, s1, s2⟩, hno⟩
      refine ⟨s0, s1, ?_⟩
      by_cases c : cost = 0 ∧ 64 * net ≤ s ∧ s < 64 * net + 64
      · have hz : fpo net = 0 := Classical.byContradiction fun q => hno ⟨q, c.1, c.2.1, by omega⟩
        have := hp s s0 s1 s2
        rw [show s / 64 = net by omega] at this
        exact absurd hz this
      · rw [(GF s).2 c]; exact s2
    · rintro ⟨s0, s1, s2⟩
      by_cases c : cost = 0 ∧ 64 * net ≤ s ∧ s < 64 * net + 64
      · exact absurd ((GF s).1 c) s2
      · rw [(GF s).2 c] at s2
        exact ⟨⟨s0, s1, s2⟩, fun w => c ⟨w.2.1, w.2.2.1, by omega⟩⟩
  · by_cases e : s / 64 = net
    · rw [e, uZ_s]
      intro hz
      exact s2 ((GF s).1 ⟨hz, by omega, by omega⟩)
    · rw [uZ_n e]
      have hg := (GF s).2 (fun w => by omega)
      rw [hg] at s2
      exact hp s s0 s1 s2
theorem rel_port {self : Int} {dO : Int} {dN : Int} {now : Int} {lm : Int} {go : Int} {fpo : Int → Int} {ffr : Int → Int} {pn : Int} {fn : Int} {fnu : Int → Int} {ftk : Int → Int} {fsz : Int → Int} {frt : Int → Int} {fnt : Int → Int} {fco : Int → Int} {fresh : Int} {fsu : Int → Int} {fsr : Int → Int} {fse : Int → Int} {it : Int} {mnow : Int} {gr : Int} {md : Int} {mO : Int} {ppo : Int → Int} {pfr : Int → Int} {pnu : Int → Int} {psi : Int → Int} {pcn : Int → Int} {prt : Int → Int} {pnt : Int → Int} {pco : Int → Int} {pus : Int → Int} {pfa : Int → Int} {gb : Int} {net : Int} {cost : Int} {kc : Int} {ov : Int} {npn : Int} {nfn : Int} {npo : Int → Int} {nfr : Int → Int} {rv : Int} {c2 : Int} {gpo : Int → Int} {gfr : Int → Int} (hR : REL self dO dN now lm go fpo ffr pn fn fnu ftk fsz frt fnt fco fresh fsu fsr fse it mnow gr md mO ppo pfr pnu psi pcn prt pnt pco pus pfa gb) (hC0 : (∃ (g : Int → Int) (fn2 : Int) (pn2 : Int), kc = 0 ∧ ov = fpo net ∧ npn = pn2 ∧ nfn = fn2 ∧ npo = uZ fpo net cost ∧ nfr = g ∧ ((0 ≤ net ∧ net < 64 ∧ 0 ≤ cost ∧ cost ≤ 1000) ∧ ¬ (cost ≠ 0 ∧ fpo net = 0 ∧ 8 ≤ pn)) ∧ (∀ i : Int, 0 ≤ g i ∧ g i ≤ 4095) ∧ (srt g fn2) ∧ (∀ s : Int, memF g fn2 s ↔ (memF ffr fn s ∧ ¬ (fpo net ≠ 0 ∧ cost = 0 ∧ 64 * net ≤ s ∧ s ≤ 64 * net + 63))) ∧ (0 ≤ fn2 ∧ fn2 ≤ fn) ∧ ((fpo net = 0 ∧ cost ≠ 0 ∧ pn2 = pn + 1) ∨ (fpo net ≠ 0 ∧ cost = 0 ∧ pn2 = pn - 1) ∨ ((fpo net = 0 ∧ cost = 0 ∨ fpo net ≠ 0 ∧ cost ≠ 0) ∧ pn2 = pn))) ∨ (kc = 1 ∧ npn = pn ∧ nfn = fn ∧ npo = fpo ∧ nfr = ffr ∧ (¬ (0 ≤ net ∧ net < 64 ∧ 0 ≤ cost ∧ cost ≤ 1000))) ∨ (kc = 2 ∧ npn = pn ∧ nfn = fn ∧ npo = fpo ∧ nfr = ffr ∧ ((0 ≤ net ∧ net < 64 ∧ 0 ≤ cost ∧ cost ≤ 1000) ∧ cost ≠ 0 ∧ fpo net = 0 ∧ 8 ≤ pn))) (hM0 : ∀ i : Int, 0 ≤ gfr i ∧ gfr i ≤ 1) (hM1 : (¬ (0 ≤ net ∧ net < 64 ∧ 0 ≤ cost ∧ cost ≤ 1000) ∧ c2 = 1 ∧ gpo = ppo ∧ gfr = pfr) ∨ ((0 ≤ net ∧ net < 64 ∧ 0 ≤ cost ∧ cost ≤ 1000) ∧ cost ≠ 0 ∧ ppo net = 0 ∧ cI ppo 64 = 8 ∧ c2 = 2 ∧ gpo = ppo ∧ gfr = pfr) ∨ ((0 ≤ net ∧ net < 64 ∧ 0 ≤ cost ∧ cost ≤ 1000) ∧ ¬ (cost ≠ 0 ∧ ppo net = 0 ∧ cI ppo 64 = 8) ∧ c2 = 0 ∧ rv = ppo net ∧ gpo = uZ ppo net cost ∧ (∀ k : Int, ((cost = 0 ∧ 64 * net ≤ k ∧ k < 64 * net + 64) → gfr k = 0) ∧ (¬ (cost = 0 ∧ 64 * net ≤ k ∧ k < 64 * net + 64) → gfr k = pfr k)))) : c2 = kc ∧ (kc = 0 → ov = rv) ∧ REL self dO dN now lm go npo nfr npn nfn fnu ftk fsz frt fnt fco fresh fsu fsr fse it mnow gr md mO gpo gfr pnu psi pcn prt pnt pco pus pfa gb := by
  obtain ⟨hS, hD, hL, hN, hr1, hr2, hw, hk, hy⟩ := hR
  have hcp := RLk_cp hL
  have hq : 0 ≤ net → net < 64 → ppo net = fpo net := hL.2.2.2.2.1 net
  have hp8 := hL.2.2.2.2.2.1.2
  rcases hC0 with ⟨g, fn2, pn2, rfl, rfl, rfl, rfl, rfl, rfl, f0, f1, f2, f3, f4, f5⟩ | ⟨rfl, rfl, rfl, rfl, rfl, hx⟩ | ⟨rfl, rfl, rfl, rfl, rfl, hx⟩
  · have e := hq f0.1.1 f0.1.2.1
    rcases hM1 with ⟨m1, -⟩ | ⟨-, m1, m2, m3, -⟩ | ⟨m1, m2, rfl, rfl, rfl, m3⟩
    · exact absurd f0.1 m1
    · exact absurd ⟨m1, by omega, by omega⟩ f0.2
    · exact ⟨rfl, fun _ => e.symm, hS, hD, RLk_port hL f0 f1 f2 f3 f4 f5 hM0 m3, hN, hr1, hr2, hw, hk, hy⟩
  · rcases hM1 with ⟨m1, rfl, rfl, rfl⟩ | ⟨m1, -⟩ | ⟨m1, -⟩
    · exact ⟨rfl, fun h => absurd h (by decide), hS, hD, hL, hN, hr1, hr2, hw, hk, hy⟩
    · exact absurd m1 hx
    · exact absurd m1 hx
  · have e := hq hx.1.1 hx.1.2.1
    rcases hM1 with ⟨m1, -⟩ | ⟨m1, m2, m3, m4, rfl, rfl, rfl⟩ | ⟨m1, m2, -⟩
    · exact absurd hx.1 m1
    · exact ⟨rfl, fun h => absurd h (by decide), hS, hD, hL, hN, hr1, hr2, hw, hk, hy⟩
    · exact absurd ⟨hx.2.1, by omega, by omega⟩ m2
theorem RLk_friend {fpo ffr : Int → Int} {pn fn st iz : Int} {ppo pfr g : Int → Int} {fn2 : Int} (hL : RLk fpo ffr pn fn ppo pfr) (h0 : 0 ≤ st ∧ st < 4096) (hiz : iz = 0 ∨ iz = 1) (hpo : ¬ fpo (st / 64) = 0) (f1 : ∀ i : Int, 0 ≤ g i ∧ g i ≤ 4095) (f2 : srt g fn2) (f3 : 0 ≤ fn2 ∧ fn2 ≤ 16)
    (f4 : ∀ s : Int, memF g fn2 s ↔ ((s ≠ st ∧ memF ffr fn s) ∨ (s = st ∧ iz = 1))) : RLk fpo g pn fn2 ppo (uZ pfr st iz) := by
  obtain ⟨rpo, rfr, rqo, rqr, heq, hpn, hs, hfn, hm, hp⟩ := hL
  refine ⟨rpo, f1, rqo, uZ_rng rqr (by omega), heq, hpn, f2, f3, fun s => ?_, fun s s0 s1 s2 => ?_⟩
  · rw [f4 s, hm s]
    by_cases e : s = st
    · subst e
      rw [uZ_s]
      constructor
      · rintro (⟨w, -⟩ | ⟨-, w⟩)
        · exact absurd rfl w
        · exact ⟨h0.1, h0.2, by omega⟩
      · intro w
        exact Or.inr ⟨rfl, by omega⟩
    · rw [uZ_n e]
      constructor
      · rintro (⟨-, w⟩ | ⟨w, -⟩)
        · exact w
        · exact absurd w e
      · intro w
        exact Or.inl ⟨e, w⟩
  · by_cases e : s = st
    · subst e; exact hpo
    · rw [uZ_n e] at s2; exact hp s s0 s1 s2
theorem rel_friend {self : Int} {dO : Int} {dN : Int} {now : Int} {lm : Int} {go : Int} {fpo : Int → Int} {ffr : Int → Int} {pn : Int} {fn : Int} {fnu : Int → Int} {ftk : Int → Int} {fsz : Int → Int} {frt : Int → Int} {fnt : Int → Int} {fco : Int → Int} {fresh : Int} {fsu : Int → Int} {fsr : Int → Int} {fse : Int → Int} {it : Int} {mnow : Int} {gr : Int} {md : Int} {mO : Int} {ppo : Int → Int} {pfr : Int → Int} {pnu : Int → Int} {psi : Int → Int} {pcn : Int → Int} {prt : Int → Int} {pnt : Int → Int} {pco : Int → Int} {pus : Int → Int} {pfa : Int → Int} {gb : Int} {router : Int} {net : Int} {iz : Int} {kc : Int} {ov : Int} {nfn : Int} {nfr : Int → Int} {rv : Int} {c2 : Int} {gfr : Int → Int} (hR : REL self dO dN now lm go fpo ffr pn fn fnu ftk fsz frt fnt fco fresh fsu fsr fse it mnow gr md mO ppo pfr pnu psi pcn prt pnt pco pus pfa gb) (hiz : iz = 0 ∨ iz = 1) (hC0 : (∃ (rb : Int) (g : Int → Int) (fn2 : Int), kc = 0 ∧ ov = rb ∧ nfn = fn2 ∧ nfr = g ∧ ((0 ≤ router ∧ router < 64 ∧ 0 ≤ net ∧ net < 64 ∧ router ≠ self) ∧ fpo net ≠ 0) ∧ (∀ i : Int, 0 ≤ g i ∧ g i ≤ 4095) ∧ (srt g fn2) ∧ (0 ≤ fn2 ∧ fn2 ≤ 16) ∧ ((rb = 0 ∧ g = ffr ∧ fn2 = fn ∧ ((memF ffr fn (64 * net + router) ∧ iz = 1) ∨ (¬ memF ffr fn (64 * net + router) ∧ iz = 0))) ∨ (rb = 1 ∧ iz = 0 ∧ memF ffr fn (64 * net + router) ∧ ∀ s : Int, memF g fn2 s ↔ (memF ffr fn s ∧ s ≠ (64 * net + router))) ∨ (rb = 1 ∧ iz = 1 ∧ ¬ memF ffr fn (64 * net + router) ∧ fn < 16 ∧ fn2 = fn + 1 ∧ ∀ s : Int, memF g fn2 s ↔ (memF ffr fn s ∨ s = (64 * net + router))))) ∨ (kc = 1 ∧ nfn = fn ∧ nfr = ffr ∧ (¬ (0 ≤ router ∧ router < 64 ∧ 0 ≤ net ∧ net < 64 ∧ router ≠ self))) ∨ (kc = 2 ∧ nfn = fn ∧ nfr = ffr ∧ ((0 ≤ router ∧ router < 64 ∧ 0 ≤ net ∧ net < 64 ∧ router ≠ self) ∧ (fpo net = 0 ∨ (fpo net ≠ 0 ∧ iz = 1 ∧ ¬ memF ffr fn (64 * net + router) ∧ 16 ≤ fn))))) (hM0 : (¬ (0 ≤ router ∧ router < 64 ∧ 0 ≤ net ∧ net < 64 ∧ router ≠ it) ∧ c2 = 1 ∧ gfr = pfr) ∨ ((0 ≤ router ∧ router < 64 ∧ 0 ≤ net ∧ net < 64 ∧ router ≠ it) ∧ (ppo net = 0 ∨ (ppo net ≠ 0 ∧ iz = 1 ∧ pfr (64 * net + router) = 0 ∧ cI pfr 4096 = 16)) ∧ c2 = 2 ∧ gfr = pfr) ∨ ((0 ≤ router ∧ router < 64 ∧ 0 ≤ net ∧ net < 64 ∧ router ≠ it) ∧ ppo net ≠ 0 ∧ ¬ (iz = 1 ∧ pfr (64 * net + router) = 0 ∧ cI pfr 4096 = 16) ∧ c2 = 0 ∧ gfr = uZ pfr (64 * net + router) iz ∧ ((pfr (64 * net + router) = iz ∧ rv = 0) ∨ (pfr (64 * net + router) ≠ iz ∧ rv = 1)))) : c2 = kc ∧ (kc = 0 → ov = rv) ∧ REL self dO dN now lm go fpo nfr pn nfn fnu ftk fsz frt fnt fco fresh fsu fsr fse it mnow gr md mO ppo gfr pnu psi pcn prt pnt pco pus pfa gb := by
  obtain ⟨hS, hD, hL, hN, hr1, hr2, hw, hk, hy⟩ := hR
  have hcf := RLk_cf hL
  have hq : 0 ≤ net → net < 64 → ppo net = fpo net := hL.2.2.2.2.1 net
  have hm := hL.2.2.2.2.2.2.2.2.1 (64 * net + router)
  have hr01 := hL.2.2.2.1 (64 * net + router)
  have hit : it = self := hS.1.2.2
  have hf16 := hL.2.2.2.2.2.2.2.1
  rcases hC0 with ⟨rb, g, fn2, rfl, rfl, rfl, rfl, f0, f1, f2, f3, f4⟩ | ⟨rfl, rfl, rfl, hx⟩ | ⟨rfl, rfl, rfl, hx⟩
  · have e := hq f0.1.2.2.1 f0.1.2.2.2.1
    have hst : 0 ≤ 64 * net + router ∧ 64 * net + router < 4096 := by omega
    have hdv : (64 * net + router) / 64 = net := by omega
    have hpo : ¬ fpo ((64 * net + router) / 64) = 0 := by rw [hdv]; exact f0.2
    have hmm : memF ffr fn (64 * net + router) ↔ pfr (64 * net + router) = 1 := by
      rw [hm]
      exact ⟨fun w => by omega, fun w => ⟨by omega, by omega, by omega⟩⟩
    rcases hM0 with ⟨m1, -⟩ | ⟨-, m1, -⟩ | ⟨m1, m2, m3, rfl, rfl, m4⟩
    · exact absurd ⟨by omega, by omega, by omega, by omega, by omega⟩ m1
    · exfalso
      rcases m1 with w | ⟨-, w1, w2, w3⟩
      · exact f0.2 (by omega)
      · rcases f4 with ⟨-, -, -, ⟨v, -⟩ | ⟨-, v⟩⟩ | ⟨-, v, -⟩ | ⟨-, -, -, v, -⟩
        · have := hmm.1 v; omega
        · omega
        · omega
        · omega
    · rcases f4 with ⟨rfl, rfl, rfl, v⟩ | ⟨rfl, v1, v2, v3⟩ | ⟨rfl, v1, v2, v3, v4, v5⟩
      · have hs : pfr (64 * net + router) = iz := by
          rcases v with ⟨v, v'⟩ | ⟨v, v'⟩
          · rw [v']; exact hmm.1 v
          · have : ¬ pfr (64 * net + router) = 1 := fun w => v (hmm.2 w)
            omega
        have hu : uZ pfr (64 * net + router) iz = pfr := by rw [← hs]; exact uZ_self
        rw [hu]
        exact ⟨rfl, fun _ => by omega, hS, hD, hL, hN, hr1, hr2, hw, hk, hy⟩
      · have := hmm.1 v2
        refine ⟨rfl, fun _ => by omega, hS, hD, RLk_friend hL hst hiz hpo f1 f2 f3 (fun s => ?_), hN, hr1, hr2, hw, hk, hy⟩
        rw [v3 s]
        constructor
        · rintro ⟨a, b⟩; exact Or.inl ⟨b, a⟩
        · rintro (⟨a, b⟩ | ⟨a, b⟩)
          · exact ⟨b, a⟩
          · omega
      · have : ¬ pfr (64 * net + router) = 1 := fun w => v2 (hmm.2 w)
        refine ⟨rfl, fun _ => by omega, hS, hD, RLk_friend hL hst hiz hpo f1 f2 f3 (fun s => ?_), hN, hr1, hr2, hw, hk, hy⟩
        rw [v5 s]
        constructor
        · rintro (a | a)
          · exact Or.inl ⟨fun q => v2 (q ▸ a), a⟩
          · exact Or.inr ⟨a, v1⟩
        · rintro (⟨-, b⟩ | ⟨a, -⟩)
          · exact Or.inl b
          · exact Or.inr a
  · rcases hM0 with ⟨m1, rfl, rfl⟩ | ⟨m1, -⟩ | ⟨m1, -⟩
    · exact ⟨rfl, fun h => absurd h (by decide), hS, hD, hL, hN, hr1, hr2, hw, hk, hy⟩
    · exact absurd ⟨by omega, by omega, by omega, by omega, by omega⟩ hx
    · exact absurd ⟨by omega, by omega, by omega, by omega, by omega⟩ hx
  · have e := hq hx.1.2.2.1 hx.1.2.2.2.1
    rcases hM0 with ⟨m1, -⟩ | ⟨m1, m2, rfl, rfl⟩ | ⟨m1, m2, m3, -⟩
    · exact absurd ⟨by omega, by omega, by omega, by omega, by omega⟩ m1
    · exact ⟨rfl, fun h => absurd h (by decide), hS, hD, hL, hN, hr1, hr2, hw, hk, hy⟩
    · exfalso
      rcases hx.2 with w | ⟨w1, w2, w3, w4⟩
      · omega
      · refine m3 ⟨w2, Classical.byContradiction fun q => w3 (hm.2 ⟨by omega, by omega, q⟩), by omega⟩
theorem rel_begin {self : Int} {dO : Int} {dN : Int} {now : Int} {lm : Int} {go : Int} {fpo : Int → Int} {ffr : Int → Int} {pn : Int} {fn : Int} {fnu : Int → Int} {ftk : Int → Int} {fsz : Int → Int} {frt : Int → Int} {fnt : Int → Int} {fco : Int → Int} {fresh : Int} {fsu : Int → Int} {fsr : Int → Int} {fse : Int → Int} {it : Int} {mnow : Int} {gr : Int} {md : Int} {mO : Int} {ppo : Int → Int} {pfr : Int → Int} {pnu : Int → Int} {psi : Int → Int} {pcn : Int → Int} {prt : Int → Int} {pnt : Int → Int} {pco : Int → Int} {pus : Int → Int} {pfa : Int → Int} {gb : Int} {o : Int} {num : Int} {kc : Int} {ndO : Int} {ndN : Int} {nnu : Int → Int} {nsz : Int → Int} {c2 : Int} {dO2 : Int} {gnu : Int → Int} {gcn : Int → Int} (hR : REL self dO dN now lm go fpo ffr pn fn fnu ftk fsz frt fnt fco fresh fsu fsr fse it mnow gr md mO ppo pfr pnu psi pcn prt pnt pco pus pfa gb) (hC0 : (kc = 0 ∧ ndO = o ∧ ndN = num ∧ nnu = uZ fnu 64 (-1) ∧ nsz = uZ fsz 64 0 ∧ ((0 ≤ o ∧ o < 64 ∧ 1 ≤ num ∧ num ≤ 1000000000))) ∨ (kc = 1 ∧ ndO = dO ∧ ndN = dN ∧ nnu = fnu ∧ nsz = fsz ∧ (¬ (0 ≤ o ∧ o < 64 ∧ 1 ≤ num ∧ num ≤ 1000000000)))) (hM0 : (¬ (0 ≤ o ∧ o < 64 ∧ 1 ≤ num ∧ num ≤ 1000000000) ∧ c2 = 1 ∧ dO2 = mO ∧ gnu = pnu ∧ gcn = pcn) ∨ ((0 ≤ o ∧ o < 64 ∧ 1 ≤ num ∧ num ≤ 1000000000) ∧ c2 = 0 ∧ dO2 = o ∧ gnu = uZ pnu 64 num ∧ gcn = uZ pcn 64 0)) : c2 = kc ∧ REL self ndO ndN now lm go fpo ffr pn fn nnu ftk nsz frt fnt fco fresh fsu fsr fse it mnow gr md dO2 ppo pfr gnu psi gcn prt pnt pco pus pfa gb := by
  obtain ⟨hS, hD, hL, hN, hr1, hr2, hw, hk, hy⟩ := hR
  obtain ⟨n1, n2, n3, n4, n5⟩ := hN
  have hs64 : 0 ≤ self ∧ self < 64 := ⟨hS.1.1, hS.1.2.1⟩
  rcases hC0 with ⟨rfl, rfl, rfl, rfl, rfl, f0⟩ | ⟨rfl, rfl, rfl, rfl, rfl, hx⟩
  · rcases hM0 with ⟨m1, -⟩ | ⟨-, rfl, rfl, rfl, rfl⟩
    · exact absurd f0 m1
    · have hr1' : RRg (uZ fsz 64 0) frt fnt fco := ⟨uZ_rng hr1.1 (by omega), hr1.2⟩
      have hE : ∀ r : Int, r ≠ 64 → ROWE fsz frt fnt fco r (uZ fsz 64 0) frt fnt fco r := fun r q => ⟨uZ_n q, fun _ _ _ => ⟨rfl, rfl, rfl⟩⟩
      have hk' : RK5 (uZ fsz 64 0) frt fnt fco := fun r r0 r1 => if e : r = 64 then (by subst e; exact ROWK.zero uZ_s) else ROWK.via (hE r e) (hk r r0 r1)
      refine ⟨rfl, hS, ⟨by omega, by omega, Or.inr ⟨by omega, uZ_s, by omega, by omega, rfl⟩⟩, hL, ⟨uZ_rng n1 (by omega), n2, uZ_rng n3 (by omega), n4, fun r r0 r1 => ?_⟩, hr1', ⟨uZ_rng hr2.1 (by omega), hr2.2⟩, fun r r0 r1 => ?_, hk', RWy_im hs64 hr1 hk hr1' hk' (fun r r0 r1 => hE r (by omega)) hy⟩
      · rw [uZ_n (by omega), uZ_n (by omega), uZ_n (by omega)]
        exact n5 r r0 r1
      · by_cases e : r = 64
        · subst e
          exact ROWE.zero uZ_s uZ_s
        · exact (hE r e).symm.trans ((hw r r0 r1).trans ⟨uZ_n e, fun _ _ _ => ⟨rfl, rfl, rfl⟩⟩)
  · rcases hM0 with ⟨m1, rfl, rfl, rfl, rfl⟩ | ⟨m1, -⟩
    · exact ⟨rfl, hS, hD, hL, ⟨n1, n2, n3, n4, n5⟩, hr1, hr2, hw, hk, hy⟩
    · exact absurd m1 hx
theorem rel_entry {self : Int} {dO : Int} {dN : Int} {now : Int} {lm : Int} {go : Int} {fpo : Int → Int} {ffr : Int → Int} {pn : Int} {fn : Int} {fnu : Int → Int} {ftk : Int → Int} {fsz : Int → Int} {frt : Int → Int} {fnt : Int → Int} {fco : Int → Int} {fresh : Int} {fsu : Int → Int} {fsr : Int → Int} {fse : Int → Int} {it : Int} {mnow : Int} {gr : Int} {md : Int} {mO : Int} {ppo : Int → Int} {pfr : Int → Int} {pnu : Int → Int} {psi : Int → Int} {pcn : Int → Int} {prt : Int → Int} {pnt : Int → Int} {pco : Int → Int} {pus : Int → Int} {pfa : Int → Int} {gb : Int} {router : Int} {net : Int} {cost : Int} {kc : Int} {ov : Int} {nsz : Int → Int} {nrt : Int → Int} {nnt : Int → Int} {nco : Int → Int} {rv : Int} {c2 : Int} {gcn : Int → Int} {grt : Int → Int} {gnt : Int → Int} {gco : Int → Int} (hR : REL self dO dN now lm go fpo ffr pn fn fnu ftk fsz frt fnt fco fresh fsu fsr fse it mnow gr md mO ppo pfr pnu psi pcn prt pnt pco pus pfa gb) (hC0 : (kc = 0 ∧ ov = fsz 64 + 1 ∧ nsz = uZ fsz 64 (fsz 64 + 1) ∧ nrt = uZ frt (64 * 24 + fsz 64) router ∧ nnt = uZ fnt (64 * 24 + fsz 64) net ∧ nco = uZ fco (64 * 24 + fsz 64) cost ∧ ((-1 ≤ router ∧ router < 64 ∧ 0 ≤ net ∧ net < 64 ∧ 1 ≤ cost ∧ cost ≤ 1000 ∧ (dO = -1 ∨ router ≠ dO)) ∧ dO ≠ -1 ∧ fsz 64 < 24 ∧ ¬ hasE fsz frt fnt 64 router net)) ∨ (kc = 1 ∧ nsz = fsz ∧ nrt = frt ∧ nnt = fnt ∧ nco = fco ∧ (¬ (-1 ≤ router ∧ router < 64 ∧ 0 ≤ net ∧ net < 64 ∧ 1 ≤ cost ∧ cost ≤ 1000 ∧ (dO = -1 ∨ router ≠ dO)))) ∨ (kc = 2 ∧ nsz = fsz ∧ nrt = frt ∧ nnt = fnt ∧ nco = fco ∧ ((-1 ≤ router ∧ router < 64 ∧ 0 ≤ net ∧ net < 64 ∧ 1 ≤ cost ∧ cost ≤ 1000 ∧ (dO = -1 ∨ router ≠ dO)) ∧ (dO = -1 ∨ ¬ fsz 64 < 24 ∨ hasE fsz frt fnt 64 router net)))) (hM0 : (¬ (-1 ≤ router ∧ router < 64 ∧ 0 ≤ net ∧ net < 64 ∧ 1 ≤ cost ∧ cost ≤ 1000 ∧ (pnu 64 = 0 ∨ router ≠ mO)) ∧ c2 = 1 ∧ gcn = pcn ∧ grt = prt ∧ gnt = pnt ∧ gco = pco) ∨ ((-1 ≤ router ∧ router < 64 ∧ 0 ≤ net ∧ net < 64 ∧ 1 ≤ cost ∧ cost ≤ 1000 ∧ (pnu 64 = 0 ∨ router ≠ mO)) ∧ (pnu 64 = 0 ∨ pcn 64 = 24 ∨ hasE pcn prt pnt 64 router net) ∧ c2 = 2 ∧ gcn = pcn ∧ grt = prt ∧ gnt = pnt ∧ gco = pco) ∨ ((-1 ≤ router ∧ router < 64 ∧ 0 ≤ net ∧ net < 64 ∧ 1 ≤ cost ∧ cost ≤ 1000 ∧ (pnu 64 = 0 ∨ router ≠ mO)) ∧ ¬ pnu 64 = 0 ∧ ¬ pcn 64 = 24 ∧ ¬ hasE pcn prt pnt 64 router net ∧ c2 = 0 ∧ rv = pcn 64 + 1 ∧ gcn = uZ pcn 64 (pcn 64 + 1) ∧ grt = uZ prt (24 * 64 + pcn 64) router ∧ gnt = uZ pnt (24 * 64 + pcn 64) net ∧ gco = uZ pco (24 * 64 + pcn 64) cost)) : c2 = kc ∧ (kc = 0 → ov = rv) ∧ REL self dO dN now lm go fpo ffr pn fn fnu ftk nsz nrt nnt nco fresh fsu fsr fse it mnow gr md mO ppo pfr pnu psi gcn grt gnt gco pus pfa gb := by
  obtain ⟨hS, hD, hL, hN, hr1, hr2, hw, hk, hy⟩ := hR
  have hs64 : 0 ≤ self ∧ self < 64 := ⟨hS.1.1, hS.1.2.1⟩
  have hw64 := hw 64 (by decide) (by decide)
  have hsz := hw64.1
  have hrs := hr1.1 64
  have hh1 : hasE fsz frt fnt 64 router net → hasE pcn prt pnt 64 router net := hasE_im hw64
  have hh2 : hasE pcn prt pnt 64 router net → hasE fsz frt fnt 64 router net := hasE_im hw64.symm
  obtain ⟨d1, d2, d3⟩ := hD
  have hdo : dO = -1 ↔ pnu 64 = 0 := by omega
  have hdm : ¬ dO = -1 → mO = dO := fun q => by omega
  have d3' := d3
  rcases hC0 with ⟨rfl, rfl, rfl, rfl, rfl, rfl, f0⟩ | ⟨rfl, rfl, rfl, rfl, rfl, hx⟩ | ⟨rfl, rfl, rfl, rfl, rfl, hx⟩
  · obtain ⟨f0, f1, f2, f3⟩ := f0
    have := hdm f1
    rcases hM0 with ⟨m1, -⟩ | ⟨m1, m2, -⟩ | ⟨m1, m2, m3, m4, rfl, rfl, rfl, rfl, rfl, rfl⟩
    · exact absurd ⟨by omega, by omega, by omega, by omega, by omega, by omega, by omega⟩ m1
    · exfalso
      rcases m2 with w | w | w
      · omega
      · omega
      · exact f3 (hh2 w)
    · have hr1' : RRg (uZ fsz 64 (fsz 64 + 1)) (uZ frt (64 * 24 + fsz 64) router) (uZ fnt (64 * 24 + fsz 64) net) (uZ fco (64 * 24 + fsz 64) cost) := ⟨uZ_rng hr1.1 (by omega), uZ_rng hr1.2.1 (by omega), uZ_rng hr1.2.2.1 (by omega), uZ_rng hr1.2.2.2 (by omega)⟩
      have hr2' : RRg (uZ pcn 64 (pcn 64 + 1)) (uZ prt (24 * 64 + pcn 64) router) (uZ pnt (24 * 64 + pcn 64) net) (uZ pco (24 * 64 + pcn 64) cost) := ⟨uZ_rng hr2.1 (by omega), uZ_rng hr2.2.1 (by omega), uZ_rng hr2.2.2.1 (by omega), uZ_rng hr2.2.2.2 (by omega)⟩
      have hE : ∀ r : Int, r < 64 → ROWE fsz frt fnt fco r (uZ fsz 64 (fsz 64 + 1)) (uZ frt (64 * 24 + fsz 64) router) (uZ fnt (64 * 24 + fsz 64) net) (uZ fco (64 * 24 + fsz 64) cost) r := fun r q => ⟨uZ_n (by omega), fun k k0 k1 => by
        have := hr1.1 r
        rw [uZ_n (by omega), uZ_n (by omega), uZ_n (by omega)]
        exact ⟨rfl, rfl, rfl⟩⟩
      have hF : ∀ r : Int, r < 64 → ROWE pcn prt pnt pco r (uZ pcn 64 (pcn 64 + 1)) (uZ prt (24 * 64 + pcn 64) router) (uZ pnt (24 * 64 + pcn 64) net) (uZ pco (24 * 64 + pcn 64) cost) r := fun r q => ⟨uZ_n (by omega), fun k k0 k1 => by
        have := hr2.1 r
        rw [uZ_n (by omega), uZ_n (by omega), uZ_n (by omega)]
        exact ⟨rfl, rfl, rfl⟩⟩
      have hk64 : ROWK (uZ fsz 64 (fsz 64 + 1)) (uZ frt (64 * 24 + fsz 64) router) (uZ fnt (64 * 24 + fsz 64) net) (uZ fco (64 * 24 + fsz 64) cost) 64 := by
        have hk0 := hk 64 (by decide) (by decide)
        constructor
        · intro k k0 k1
          rw [uZ_s] at k1
          by_cases e : k = fsz 64
          · subst e; rw [uZ_s]; omega
          · rw [uZ_n (by omega)]; exact hk0.1 k k0 (by omega)
        · intro a b a0 a1 b0 b1 e1 e2
          rw [uZ_s] at a1 b1
          by_cases ea : a = fsz 64
          · by_cases eb : b = fsz 64
            · omega
            · exfalso
              rw [ea, uZ_s, uZ_n (by omega)] at e1 e2
              exact f3 ⟨b, b0, by omega, e1.symm, e2.symm⟩
          · by_cases eb : b = fsz 64
            · exfalso
              rw [eb, uZ_s, uZ_n (by omega)] at e1 e2
              exact f3 ⟨a, a0, by omega, e1, e2⟩
            · rw [uZ_n (by omega), uZ_n (by omega)] at e1 e2
              exact hk0.2 a b a0 (by omega) b0 (by omega) e1 e2
      have hk' : RK5 (uZ fsz 64 (fsz 64 + 1)) (uZ frt (64 * 24 + fsz 64) router) (uZ fnt (64 * 24 + fsz 64) net) (uZ fco (64 * 24 + fsz 64) cost) := fun r r0 r1 => if e : r = 64 then (by subst e; exact hk64) else ROWK.via (hE r (by omega)) (hk r r0 r1)
      obtain ⟨n1, n2, n3, n4, n5⟩ := hN
      refine ⟨rfl, fun _ => by omega, hS, ⟨d1, d2, d3⟩, hL, ⟨n1, n2, n3, n4, fun r r0 r1 => ?_⟩, hr1', hr2', fun r r0 r1 => ?_, hk', RWy_im hs64 hr1 hk hr1' hk' (fun r r0 r1 => hE r r1) hy⟩
      · rw [uZ_n (by omega)]
        exact n5 r r0 r1
      · by_cases e : r = 64
        · subst e
          refine ⟨by rw [uZ_s, uZ_s, hsz], fun k k0 k1 => ?_⟩
          rw [uZ_s] at k1
          by_cases ek : k = fsz 64
          · rw [show 24 * 64 + pcn 64 = 64 * 24 + fsz 64 by omega, ek, uZ_s, uZ_s, uZ_s, uZ_s, uZ_s, uZ_s]
            exact ⟨rfl, rfl, rfl⟩
          · rw [uZ_n (by omega), uZ_n (by omega), uZ_n (by omega), uZ_n (by omega), uZ_n (by omega), uZ_n (by omega)]
            exact hw64.2 k k0 (by omega)
        · exact (hE r (by omega)).symm.trans ((hw r r0 r1).trans (hF r (by omega)))
  · rcases hM0 with ⟨m1, rfl, rfl, rfl, rfl, rfl⟩ | ⟨m1, -⟩ | ⟨m1, -⟩
    · exact ⟨rfl, fun h => absurd h (by decide), hS, ⟨d1, d2, d3⟩, hL, hN, hr1, hr2, hw, hk, hy⟩
    · exact absurd ⟨by omega, by omega, by omega, by omega, by omega, by omega, by omega⟩ hx
    · exact absurd ⟨by omega, by omega, by omega, by omega, by omega, by omega, by omega⟩ hx
  · obtain ⟨hx, hx2⟩ := hx
    rcases hM0 with ⟨m1, -⟩ | ⟨m1, m2, rfl, rfl, rfl, rfl, rfl⟩ | ⟨m1, m2, m3, m4, -⟩
    · exact absurd ⟨by omega, by omega, by omega, by omega, by omega, by omega, by omega⟩ m1
    · exact ⟨rfl, fun h => absurd h (by decide), hS, ⟨d1, d2, d3⟩, hL, hN, hr1, hr2, hw, hk, hy⟩
    · exfalso
      rcases hx2 with w | w | w
      · omega
      · omega
      · exact m4 (hh1 w)
