/-! ===== each method, both sides alike ===== -/
def Both (k : Nat) (fH fM : AH → Option (Int32 × AH)) (h : AH) : Prop := ∃ r h1 h2 S', fH h = some (r, h1) ∧ fM h1 = some (r, h2) ∧ IC S' h2 ∧ IM S' h2 ∧ GG (k + 1) S'
abbrev INV (k : Nat) (S : SS) (h : AH) : Prop := IC S h ∧ IM S h ∧ GG k S
theorem bothG {k : Nat} {S S' : SS} {h : AH} {fH fM : AH → Option (Int32 × AH)} (im : IM S h) (g : GG (k + 1) S') (H : ∃ r h1, fH h = some (r, h1) ∧ (∀ c k, 383 ≤ c → hI h1 c k = hI h c k) ∧ IC S' h1 ∧ (∀ z, IM S z → ∃ h2, fM z = some (r, h2) ∧ (∀ c k, c < 383 → hI h2 c k = hI z c k) ∧ (∀ c k, c < 383 → hR h2 c k = hR z c k) ∧ IM S' h2)) : Both k fH fM h := by
  obtain ⟨r, h1, e1, up, ic, n⟩ := H
  obtain ⟨h2, e2, dn, dr, im2⟩ := n h1 (im.up up)
  exact ⟨r, h1, h2, S', e1, e2, ic.dn dn dr, im2, g⟩
theorem icX {S : SS} {h h1 : AH} {C : Nat → Nat → Prop} {R : Nat → Prop} (i : IC S h) (f : FrP C R h h1) (a : ∀ c k, C c k → (44 ≤ c ∧ c ≤ 52) ∨ c = S.u + 12 ∨ c = S.u + 16 ∨ (372 ≤ c ∧ c ≤ 382) ∨ (c = 366 ∧ 7 ≤ k ∧ k ≤ 9)) (b : ∀ c, R c → c = 376) {n : Nat} {v : Nat → Int32} (l : LH h1 n v) (s : hI h1 366 7 = -1 ∨ ∃ Z, SV S.M Z h1) : (∀ c k, 383 ≤ c → hI h1 c k = hI h c k) ∧ IC (S.M, S.Y, S.u, S.W, S.A, S.U, S.E, S.B, S.T, S.L, n, v, S.ft, S.pl, S.kd, S.un) h1 := by
  obtain ⟨⟨s0, a0⟩, r0, l0, v0⟩ := i
  have hu := s0.1
  have e : ∀ c k, ¬ ((44 ≤ c ∧ c ≤ 52) ∨ c = S.u + 12 ∨ c = S.u + 16 ∨ (372 ≤ c ∧ c ≤ 382) ∨ (c = 366 ∧ 7 ≤ k ∧ k ≤ 9)) → hI h1 c k = hI h c k := fun c k hc => f.2.1 c k (fun z => hc (a c k z))
  have d : ∀ c k, ¬ c = 376 → hR h1 c k = hR h c k := fun c k hc => congrFun (f.2.2.2 c (fun z => hc (b c z))) k
  exact ⟨fun c k hc => e _ _ (by omega), ⟨s0.cg (fun c k hc => e _ _ (by omega)) (fun k => d _ _ (by omega)), a0.cg (fun c k hc => e _ _ (by omega)) (fun k => d _ _ (by omega))⟩, RsC.cg (S := S) hu r0 (fun c k hc => e _ _ (by omega)) (fun c k hc => d _ _ (by omega)), l, s⟩
theorem icQ {S : SS} {h h1 : AH} {C : Nat → Nat → Prop} {R : Nat → Prop} (i : IC S h) (f : FrP C R h h1) (a : ∀ c k, C c k → (44 ≤ c ∧ c ≤ 52) ∨ c = S.u + 12 ∨ c = S.u + 16 ∨ (374 ≤ c ∧ c ≤ 379) ∨ c = 382) (b : ∀ c, R c → c = 376) : (∀ c k, 383 ≤ c → hI h1 c k = hI h c k) ∧ IC S h1 := by
  have hu := i.1.1.1
  have e : ∀ c k, ¬ ((44 ≤ c ∧ c ≤ 52) ∨ c = S.u + 12 ∨ c = S.u + 16 ∨ (374 ≤ c ∧ c ≤ 379) ∨ c = 382) → hI h1 c k = hI h c k := fun c k hc => f.2.1 c k (fun z => hc (a c k z))
  exact icX i f (fun c k z => by have := a c k z; omega) b (i.2.2.1.cg (fun c k hc => e _ _ (by omega))) (SVx.cg i.2.2.2 (fun c k hc => e _ _ (by omega)))
theorem icL {S : SS} {h h1 : AH} {C : Nat → Nat → Prop} {R : Nat → Prop} (i : IC S h) (f : FrP C R h h1) (a : ∀ c k, C c k → (44 ≤ c ∧ c ≤ 52) ∨ c = S.u + 12 ∨ c = S.u + 16 ∨ (374 ≤ c ∧ c ≤ 382)) (b : ∀ c, R c → c = 376) {n : Nat} {v : Nat → Int32} (l : LH h1 n v) : (∀ c k, 383 ≤ c → hI h1 c k = hI h c k) ∧ IC (S.M, S.Y, S.u, S.W, S.A, S.U, S.E, S.B, S.T, S.L, n, v, S.ft, S.pl, S.kd, S.un) h1 := by
  have hu := i.1.1.1
  have e : ∀ c k, ¬ ((44 ≤ c ∧ c ≤ 52) ∨ c = S.u + 12 ∨ c = S.u + 16 ∨ (374 ≤ c ∧ c ≤ 382)) → hI h1 c k = hI h c k := fun c k hc => f.2.1 c k (fun z => hc (a c k z))
  exact icX i f (fun c k z => by have := a c k z; omega) b l (SVx.cg i.2.2.2 (fun c k hc => e _ _ (by omega)))
theorem icS {S : SS} {h h1 : AH} {C : Nat → Nat → Prop} {R : Nat → Prop} (i : IC S h) (f : FrP C R h h1) (a : ∀ c k, C c k → c = S.u + 12 ∨ c = 372 ∨ c = 373 ∨ (c = 366 ∧ 7 ≤ k ∧ k ≤ 9)) (b : ∀ c, R c → c = 376) (s : hI h1 366 7 = -1 ∨ ∃ Z, SV S.M Z h1) : (∀ c k, 383 ≤ c → hI h1 c k = hI h c k) ∧ IC S h1 := by
  have hu := i.1.1.1
  have e : ∀ c k, ¬ (c = S.u + 12 ∨ c = 372 ∨ c = 373 ∨ (c = 366 ∧ 7 ≤ k ∧ k ≤ 9)) → hI h1 c k = hI h c k := fun c k hc => f.2.1 c k (fun z => hc (a c k z))
  exact icX i f (fun c k z => by have := a c k z; omega) b (i.2.2.1.cg (fun c k hc => e _ _ (by omega))) s
theorem icA {S : SS} {h h1 : AH} {C : Nat → Nat → Prop} {R : Nat → Prop} (i : IC S h) (f : FrP C R h h1) (a : ∀ c k, C c k → (37 ≤ c ∧ c ≤ 43) ∨ (51 ≤ c ∧ c ≤ 341) ∨ c = S.u + 12 ∨ c = S.u + 16) (b : ∀ c, R c → c = 54) {Y : YT} {W : Nat → YT} {A U : Nat} (x : HX h1 S.M Y S.u W A U) : (∀ c k, 383 ≤ c → hI h1 c k = hI h c k) ∧ IC (S.M, Y, S.u, W, A, U, S.E, S.B, S.T, S.L, S.n, S.v, S.ft, S.pl, S.kd, S.un) h1 := by
  have hu := i.1.1.1
  have e : ∀ c k, ¬ ((37 ≤ c ∧ c ≤ 43) ∨ (51 ≤ c ∧ c ≤ 341) ∨ c = S.u + 12 ∨ c = S.u + 16) → hI h1 c k = hI h c k := fun c k hc => f.2.1 c k (fun z => hc (a c k z))
  have d : ∀ c k, ¬ c = 54 → hR h1 c k = hR h c k := fun c k hc => congrFun (f.2.2.2 c (fun z => hc (b c z))) k
  exact ⟨fun c k hc => e _ _ (by omega), x, RsC.cg (S := S) hu i.2.1 (fun c k hc => e _ _ (by omega)) (fun c k hc => d _ _ (by omega)), i.2.2.1.cg (fun c k hc => e _ _ (by omega)), SVx.cg i.2.2.2 (fun c k hc => e _ _ (by omega))⟩
theorem imX {S : SS} {h h1 : AH} {C : Nat → Nat → Prop} (i : IM S h) (f : FrP C (fun _ => False) h h1) (a : ∀ c k, C c k → c = 393 ∨ c = 395 ∨ c = 406 ∨ (408 ≤ c ∧ c ≤ 412) ∨ c = 418 ∨ (c = 383 ∧ (k = 57 ∨ k = 60 ∨ k = 61))) {n : Nat} {v : Nat → Int32} (l : LM h1 n v) : (∀ c k, c < 383 → hI h1 c k = hI h c k) ∧ (∀ c k, c < 383 → hR h1 c k = hR h c k) ∧ IM (S.M, S.Y, S.u, S.W, S.A, S.U, S.E, S.B, S.T, S.L, n, v, S.ft, S.pl, S.kd, S.un) h1 := by
  have e : ∀ c k, ¬ (c = 393 ∨ c = 395 ∨ c = 406 ∨ (408 ≤ c ∧ c ≤ 412) ∨ c = 418 ∨ (c = 383 ∧ (k = 57 ∨ k = 60 ∨ k = 61))) → hI h1 c k = hI h c k := fun c k hc => f.2.1 c k (fun z => hc (a c k z))
  exact ⟨fun c k hc => e _ _ (by omega), fun c k _ => congrFun (f.2.2.2 c (fun z => z)) k, i.1.cg (fun c k hc => e _ _ (by omega)), RsM.cg (S := S) i.2.1 (fun c k hc => e _ _ (by omega)), l⟩
theorem imQ {S : SS} {h h1 : AH} {C : Nat → Nat → Prop} (i : IM S h) (f : FrP C (fun _ => False) h h1) (a : ∀ c k, C c k → c = 393 ∨ c = 395 ∨ c = 406 ∨ c = 408 ∨ (410 ≤ c ∧ c ≤ 412) ∨ c = 418 ∨ (c = 383 ∧ (k = 60 ∨ k = 61))) : (∀ c k, c < 383 → hI h1 c k = hI h c k) ∧ (∀ c k, c < 383 → hR h1 c k = hR h c k) ∧ IM S h1 := by
  have e : ∀ c k, ¬ (c = 393 ∨ c = 395 ∨ c = 406 ∨ c = 408 ∨ (410 ≤ c ∧ c ≤ 412) ∨ c = 418 ∨ (c = 383 ∧ (k = 60 ∨ k = 61))) → hI h1 c k = hI h c k := fun c k hc => f.2.1 c k (fun z => hc (a c k z))
  exact imX i f (fun c k z => by have := a c k z; omega) (i.2.2.cg (fun c k hc => e _ _ (by omega)))
theorem imA {S : SS} {h h1 : AH} {C : Nat → Nat → Prop} (i : IM S h) (f : FrP C (fun _ => False) h h1) (a : ∀ c k, C c k → c = 393 ∨ c = 395 ∨ (405 ≤ c ∧ c ≤ 407) ∨ (c = 383 ∧ (k = 53 ∨ k = 54))) {Y : YT} {W : Nat → YT} {A U : Nat} (x : MX h1 S.M Y W A U) : (∀ c k, c < 383 → hI h1 c k = hI h c k) ∧ (∀ c k, c < 383 → hR h1 c k = hR h c k) ∧ IM (S.M, Y, S.u, W, A, U, S.E, S.B, S.T, S.L, S.n, S.v, S.ft, S.pl, S.kd, S.un) h1 := by
  have e : ∀ c k, ¬ (c = 393 ∨ c = 395 ∨ (405 ≤ c ∧ c ≤ 407) ∨ (c = 383 ∧ (k = 53 ∨ k = 54))) → hI h1 c k = hI h c k := fun c k hc => f.2.1 c k (fun z => hc (a c k z))
  exact ⟨fun c k hc => e _ _ (by omega), fun c k _ => congrFun (f.2.2.2 c (fun z => z)) k, x, RsM.cg (S := S) i.2.1 (fun c k hc => e _ _ (by omega)), i.2.2.cg (fun c k hc => e _ _ (by omega))⟩
theorem GG.kp {k : Nat} {S : SS} {Y : YT} (g : GG k S) (hA : S.A + S.U ≤ 40) (y : GY (k + 1) S.M Y) : GG (k + 1) (S.M, Y, S.u, (kpW S.W S.A S.Y), (kpA S.A), 0, S.E, S.B, S.T, S.L, S.n, S.v, S.ft, S.pl, S.kd, S.un) := by
  refine ⟨y, fun i hi => ?_, g.s.2.2⟩
  have hi' : i < kpA S.A + 0 := hi
  show GY (k + 1) S.M (kpW S.W S.A S.Y i)
  unfold kpA at hi'
  unfold kpW
  by_cases e : S.A = 40
  · rw [if_pos e] at hi' ⊢
    by_cases e2 : i = 39
    · rw [if_pos e2]; exact g.1.s
    · rw [if_neg e2]; exact (g.2.1 (i + 1) (by omega)).s
  · rw [if_neg e] at hi' ⊢
    by_cases e2 : i = S.A
    · rw [if_pos e2]; exact g.1.s
    · rw [if_neg e2]; exact (g.2.1 i (by omega)).s
theorem GG.l {k : Nat} {S : SS} {n : Nat} {v : Nat → Int32} (g : GG k S) : GG (k + 1) (S.M, S.Y, S.u, S.W, S.A, S.U, S.E, S.B, S.T, S.L, n, v, S.ft, S.pl, S.kd, S.un) := g.s
theorem both_heat {k : Nat} {S : SS} {h : AH} (i : INV k S h) : Both k (f_H_heat) (f_M_heat) h := by
  obtain ⟨ic, im, g⟩ := i
  have hu := ic.1.1.1
  obtain ⟨h1, e1, f1⟩ := H_heat_ok ic.1.1  
  obtain ⟨q1, q2⟩ := icQ ic f1.p' (fun c k q => by simp only [scW, plW, scU, scG, plG, scT, plT, scE, plE, scQ, plQ, false_or, or_false, List.mem_cons, List.not_mem_nil, or_false, Prod.mk.injEq] at q; omega) (fun c q => q.elim)
  refine bothG im g.s ⟨_, h1, e1, q1, q2, fun z iz => ?_⟩
  obtain ⟨h2, e2, f2⟩ := M_heat_ok iz.1.1  
  obtain ⟨w1, w2, w3⟩ := imQ iz f2.p' (fun c k q => by simp only [sca, sc, scL, plL, scV, scF, plF', scM, scB, plB, false_or, or_false, List.mem_cons, List.not_mem_nil, or_false, Prod.mk.injEq] at q; omega)
  exact ⟨h2, e2, w1, w2, w3⟩
theorem both_price {k : Nat} {S : SS} {h : AH} (i : INV k S h) (a b : Int32) : Both k (f_H_price a b) (f_M_price a b) h := by
  obtain ⟨ic, im, g⟩ := i
  have hu := ic.1.1.1
  obtain ⟨h1, e1, f1⟩ := H_price_ok ic.1.1  a b
  obtain ⟨q1, q2⟩ := icQ ic f1.p' (fun c k q => by simp only [scW, plW, scU, scG, plG, scT, plT, scE, plE, scQ, plQ, false_or, or_false, List.mem_cons, List.not_mem_nil, or_false, Prod.mk.injEq] at q; omega) (fun c q => q.elim)
  refine bothG im g.s ⟨_, h1, e1, q1, q2, fun z iz => ?_⟩
  obtain ⟨h2, e2, f2⟩ := M_price_ok iz.1.1  a b
  obtain ⟨w1, w2, w3⟩ := imQ iz f2.p' (fun c k q => by simp only [sca, sc, scL, plL, scV, scF, plF', scM, scB, plB, false_or, or_false, List.mem_cons, List.not_mem_nil, or_false, Prod.mk.injEq] at q; omega)
  exact ⟨h2, e2, w1, w2, w3⟩
theorem both_chorus {k : Nat} {S : SS} {h : AH} (i : INV k S h) : Both k (f_H_chorus) (f_M_chorus) h := by
  obtain ⟨ic, im, g⟩ := i
  have hu := ic.1.1.1
  obtain ⟨h1, e1, f1⟩ := H_chorus_ok ic.1.1  
  obtain ⟨q1, q2⟩ := icQ ic f1.p' (fun c k q => by simp only [scW, plW, scU, scG, plG, scT, plT, scE, plE, scQ, plQ, false_or, or_false, List.mem_cons, List.not_mem_nil, or_false, Prod.mk.injEq] at q; omega) (fun c q => q.elim)
  refine bothG im g.s ⟨_, h1, e1, q1, q2, fun z iz => ?_⟩
  obtain ⟨h2, e2, f2⟩ := M_chorus_ok iz.1.1  
  obtain ⟨w1, w2, w3⟩ := imQ iz f2.p' (fun c k q => by simp only [sca, sc, scL, plL, scV, scF, plF', scM, scB, plB, false_or, or_false, List.mem_cons, List.not_mem_nil, or_false, Prod.mk.injEq] at q; omega)
  exact ⟨h2, e2, w1, w2, w3⟩
theorem both_dealer {k : Nat} {S : SS} {h : AH} (i : INV k S h) (a b : Int32) : Both k (f_H_dealer a b) (f_M_dealer a b) h := by
  obtain ⟨ic, im, g⟩ := i
  have hu := ic.1.1.1
  obtain ⟨h1, e1, f1⟩ := H_dealer_ok ic.1.1  a b
  obtain ⟨q1, q2⟩ := icQ ic f1.p' (fun c k q => by simp only [scW, plW, scU, scG, plG, scT, plT, scE, plE, scQ, plQ, false_or, or_false, List.mem_cons, List.not_mem_nil, or_false, Prod.mk.injEq] at q; omega) (fun c q => q.elim)
  refine bothG im g.s ⟨_, h1, e1, q1, q2, fun z iz => ?_⟩
  obtain ⟨h2, e2, f2⟩ := M_dealer_ok iz.1.1  a b
  obtain ⟨w1, w2, w3⟩ := imQ iz f2.p' (fun c k q => by simp only [sca, sc, scL, plL, scV, scF, plF', scM, scB, plB, false_or, or_false, List.mem_cons, List.not_mem_nil, or_false, Prod.mk.injEq] at q; omega)
  exact ⟨h2, e2, w1, w2, w3⟩
theorem both_will {k : Nat} {S : SS} {h : AH} (i : INV k S h) (a b n : Int32) : Both k (f_H_will a b n) (f_M_will a b n) h := by
  obtain ⟨ic, im, g⟩ := i
  have hu := ic.1.1.1
  obtain ⟨h1, e1, f1⟩ := H_will_ok ic.1.1 g.1.1 g.1.2.1 a b n
  obtain ⟨q1, q2⟩ := icQ ic f1.p' (fun c k q => by simp only [scW, plW, scU, scG, plG, scT, plT, scE, plE, scQ, plQ, false_or, or_false, List.mem_cons, List.not_mem_nil, or_false, Prod.mk.injEq] at q; omega) (fun c q => q.elim)
  refine bothG im g.s ⟨_, h1, e1, q1, q2, fun z iz => ?_⟩
  obtain ⟨h2, e2, f2⟩ := M_will_ok iz.1.1  a b n
  obtain ⟨w1, w2, w3⟩ := imQ iz f2.p' (fun c k q => by simp only [sca, sc, scL, plL, scV, scF, plF', scM, scB, plB, false_or, or_false, List.mem_cons, List.not_mem_nil, or_false, Prod.mk.injEq] at q; omega)
  exact ⟨h2, e2, w1, w2, w3⟩
theorem both_low {k : Nat} {S : SS} {h : AH} (i : INV k S h) (a b n : Int32) : Both k (f_H_low a b n) (f_M_low a b n) h := by
  obtain ⟨ic, im, g⟩ := i
  have hu := ic.1.1.1
  obtain ⟨h1, e1, f1⟩ := H_low_ok ic.1.1 g.1.1 g.1.2.1 a b n
  obtain ⟨q1, q2⟩ := icQ ic f1.p' (fun c k q => by simp only [scW, plW, scU, scG, plG, scT, plT, scE, plE, scQ, plQ, false_or, or_false, List.mem_cons, List.not_mem_nil, or_false, Prod.mk.injEq] at q; omega) (fun c q => q.elim)
  refine bothG im g.s ⟨_, h1, e1, q1, q2, fun z iz => ?_⟩
  obtain ⟨h2, e2, f2⟩ := M_low_ok iz.1.1  a b n
  obtain ⟨w1, w2, w3⟩ := imQ iz f2.p' (fun c k q => by simp only [sca, sc, scL, plL, scV, scF, plF', scM, scB, plB, false_or, or_false, List.mem_cons, List.not_mem_nil, or_false, Prod.mk.injEq] at q; omega)
  exact ⟨h2, e2, w1, w2, w3⟩
theorem both_high {k : Nat} {S : SS} {h : AH} (i : INV k S h) (a b n : Int32) : Both k (f_H_high a b n) (f_M_high a b n) h := by
  obtain ⟨ic, im, g⟩ := i
  have hu := ic.1.1.1
  obtain ⟨h1, e1, f1⟩ := H_high_ok ic.1.1 g.1.1 g.1.2.1 a b n
  obtain ⟨q1, q2⟩ := icQ ic f1.p' (fun c k q => by simp only [scW, plW, scU, scG, plG, scT, plT, scE, plE, scQ, plQ, false_or, or_false, List.mem_cons, List.not_mem_nil, or_false, Prod.mk.injEq] at q; omega) (fun c q => q.elim)
  refine bothG im g.s ⟨_, h1, e1, q1, q2, fun z iz => ?_⟩
  obtain ⟨h2, e2, f2⟩ := M_high_ok iz.1.1  a b n
  obtain ⟨w1, w2, w3⟩ := imQ iz f2.p' (fun c k q => by simp only [sca, sc, scL, plL, scV, scF, plF', scM, scB, plB, false_or, or_false, List.mem_cons, List.not_mem_nil, or_false, Prod.mk.injEq] at q; omega)
  exact ⟨h2, e2, w1, w2, w3⟩
theorem both_starve {k : Nat} {S : SS} {h : AH} (i : INV k S h) (a : Int32) : Both k (f_H_starve a) (f_M_starve a) h := by
  obtain ⟨ic, im, g⟩ := i
  have hu := ic.1.1.1
  obtain ⟨h1, e1, f1⟩ := H_starve_ok ic.1.1 g.1.1 g.1.2.1 a
  obtain ⟨q1, q2⟩ := icQ ic f1.p' (fun c k q => by simp only [scW, plW, scU, scG, plG, scT, plT, scE, plE, scQ, plQ, false_or, or_false, List.mem_cons, List.not_mem_nil, or_false, Prod.mk.injEq] at q; omega) (fun c q => q.elim)
  refine bothG im g.s ⟨_, h1, e1, q1, q2, fun z iz => ?_⟩
  obtain ⟨h2, e2, f2⟩ := M_starve_ok iz.1.1  a
  obtain ⟨w1, w2, w3⟩ := imQ iz f2.p' (fun c k q => by simp only [sca, sc, scL, plL, scV, scF, plF', scM, scB, plB, false_or, or_false, List.mem_cons, List.not_mem_nil, or_false, Prod.mk.injEq] at q; omega)
  exact ⟨h2, e2, w1, w2, w3⟩
theorem both_hush {k : Nat} {S : SS} {h : AH} (i : INV k S h) (a : Int32) : Both k (f_H_hush a) (f_M_hush a) h := by
  obtain ⟨ic, im, g⟩ := i
  have hu := ic.1.1.1
  obtain ⟨h1, e1, f1⟩ := H_hush_ok ic.1.1 g.1.1 g.1.2.1 a
  obtain ⟨q1, q2⟩ := icQ ic f1.p' (fun c k q => by simp only [scW, plW, scU, scG, plG, scT, plT, scE, plE, scQ, plQ, false_or, or_false, List.mem_cons, List.not_mem_nil, or_false, Prod.mk.injEq] at q; omega) (fun c q => q.elim)
  refine bothG im g.s ⟨_, h1, e1, q1, q2, fun z iz => ?_⟩
  obtain ⟨h2, e2, f2⟩ := M_hush_ok iz.1.1  a
  obtain ⟨w1, w2, w3⟩ := imQ iz f2.p' (fun c k q => by simp only [sca, sc, scL, plL, scV, scF, plF', scM, scB, plB, false_or, or_false, List.mem_cons, List.not_mem_nil, or_false, Prod.mk.injEq] at q; omega)
  exact ⟨h2, e2, w1, w2, w3⟩
theorem both_spoils {k : Nat} {S : SS} {h : AH} (i : INV k S h) (a : Int32) : Both k (f_H_spoils a) (f_M_spoils a) h := by
  obtain ⟨ic, im, g⟩ := i
  have hu := ic.1.1.1
  obtain ⟨h1, e1, f1⟩ := H_spoils_ok ic.1.1 g.1.1 g.1.2.1 a
  obtain ⟨q1, q2⟩ := icQ ic f1.p' (fun c k q => by simp only [scW, plW, scU, scG, plG, scT, plT, scE, plE, scQ, plQ, false_or, or_false, List.mem_cons, List.not_mem_nil, or_false, Prod.mk.injEq] at q; omega) (fun c q => q.elim)
  refine bothG im g.s ⟨_, h1, e1, q1, q2, fun z iz => ?_⟩
  obtain ⟨h2, e2, f2⟩ := M_spoils_ok iz.1.1  a
  obtain ⟨w1, w2, w3⟩ := imQ iz f2.p' (fun c k q => by simp only [sca, sc, scL, plL, scV, scF, plF', scM, scB, plB, false_or, or_false, List.mem_cons, List.not_mem_nil, or_false, Prod.mk.injEq] at q; omega)
  exact ⟨h2, e2, w1, w2, w3⟩
theorem both_cheapest {k : Nat} {S : SS} {h : AH} (i : INV k S h) (a : Int32) : Both k (f_H_cheapest a) (f_M_cheapest a) h := by
  obtain ⟨ic, im, g⟩ := i
  have hu := ic.1.1.1
  obtain ⟨h1, e1, f1⟩ := H_cheapest_ok ic.1.1 g.1.1 a
  obtain ⟨q1, q2⟩ := icQ ic f1.p' (fun c k q => by simp only [scW, plW, scU, scG, plG, scT, plT, scE, plE, scQ, plQ, false_or, or_false, List.mem_cons, List.not_mem_nil, or_false, Prod.mk.injEq] at q; omega) (fun c q => q.elim)
  refine bothG im g.s ⟨_, h1, e1, q1, q2, fun z iz => ?_⟩
  obtain ⟨h2, e2, f2⟩ := M_cheapest_ok iz.1.1  a
  obtain ⟨w1, w2, w3⟩ := imQ iz f2.p' (fun c k q => by simp only [sca, sc, scL, plL, scV, scF, plF', scM, scB, plB, false_or, or_false, List.mem_cons, List.not_mem_nil, or_false, Prod.mk.injEq] at q; omega)
  exact ⟨h2, e2, w1, w2, w3⟩
theorem both_law {k : Nat} {S : SS} {h : AH} (i : INV k S h) (a : Int32) : Both k (f_H_law a) (f_M_law a) h := by
  obtain ⟨ic, im, g⟩ := i
  have hu := ic.1.1.1
  obtain ⟨h1, e1, f1⟩ := H_law_ok ic.1.1  a
  obtain ⟨q1, q2⟩ := icQ ic f1.p' (fun c k q => by simp only [scW, plW, scU, scG, plG, scT, plT, scE, plE, scQ, plQ, false_or, or_false, List.mem_cons, List.not_mem_nil, or_false, Prod.mk.injEq] at q; omega) (fun c q => q.elim)
  refine bothG im g.s ⟨_, h1, e1, q1, q2, fun z iz => ?_⟩
  obtain ⟨h2, e2, f2⟩ := M_law_ok iz.1.1  a
  obtain ⟨w1, w2, w3⟩ := imQ iz f2.p' (fun c k q => by simp only [sca, sc, scL, plL, scV, scF, plF', scM, scB, plB, false_or, or_false, List.mem_cons, List.not_mem_nil, or_false, Prod.mk.injEq] at q; omega)
  exact ⟨h2, e2, w1, w2, w3⟩
theorem both_odds {k : Nat} {S : SS} {h : AH} (i : INV k S h) (a b p n d : Int32) : Both k (f_H_odds a b p n d) (f_M_odds a b p n d) h := by
  obtain ⟨ic, im, g⟩ := i
  have hu := ic.1.1.1
  obtain ⟨h1, e1, f1⟩ := H_odds_ok ic.1.1 g.1.1 g.1.2.1 g.2.2.2.1 a b p n d
  obtain ⟨q1, q2⟩ := icQ ic f1.p' (fun c k q => by simp only [scW, plW, scU, scG, plG, scT, plT, scE, plE, scQ, plQ, false_or, or_false, List.mem_cons, List.not_mem_nil, or_false, Prod.mk.injEq] at q; omega) (fun c q => q.elim)
  refine bothG im g.s ⟨_, h1, e1, q1, q2, fun z iz => ?_⟩
  obtain ⟨h2, e2, f2⟩ := M_odds_ok iz.1.1 g.2.2.2.1 a b p n d
  obtain ⟨w1, w2, w3⟩ := imQ iz f2.p' (fun c k q => by simp only [sca, sc, scL, plL, scV, scF, plF', scM, scB, plB, false_or, or_false, List.mem_cons, List.not_mem_nil, or_false, Prod.mk.injEq] at q; omega)
  exact ⟨h2, e2, w1, w2, w3⟩
theorem both_mean {k : Nat} {S : SS} {h : AH} (i : INV k S h) (a b n d : Int32) : Both k (f_H_mean a b n d) (f_M_mean a b n d) h := by
  obtain ⟨ic, im, g⟩ := i
  have hu := ic.1.1.1
  obtain ⟨h1, e1, f1⟩ := H_mean_ok ic.1.1 g.1.1 g.1.2.1 g.2.2.2.1 a b n d
  obtain ⟨q1, q2⟩ := icQ ic f1.p' (fun c k q => by simp only [scW, plW, scU, scG, plG, scT, plT, scE, plE, scQ, plQ, false_or, or_false, List.mem_cons, List.not_mem_nil, or_false, Prod.mk.injEq] at q; omega) (fun c q => q.elim)
  refine bothG im g.s ⟨_, h1, e1, q1, q2, fun z iz => ?_⟩
  obtain ⟨h2, e2, f2⟩ := M_mean_ok iz.1.1 g.2.2.2.1 a b n d
  obtain ⟨w1, w2, w3⟩ := imQ iz f2.p' (fun c k q => by simp only [sca, sc, scL, plL, scV, scF, plF', scM, scB, plB, false_or, or_false, List.mem_cons, List.not_mem_nil, or_false, Prod.mk.injEq] at q; omega)
  exact ⟨h2, e2, w1, w2, w3⟩
theorem both_gain {k : Nat} {S : SS} {h : AH} (i : INV k S h) (a : Int32) : Both k (f_H_gain a) (f_M_gain a) h := by
  obtain ⟨ic, im, g⟩ := i
  have hu := ic.1.1.1
  obtain ⟨h1, e1, f1, l1⟩ := H_gain_ok ic.1.1 g.1.1 a
  obtain ⟨q1, q2⟩ := icL ic f1.p' (fun c k q => by simp only [scW, plW, scU, scG, plG, scT, plT, scE, plE, scQ, plQ, false_or, or_false, List.mem_cons, List.not_mem_nil, or_false, Prod.mk.injEq] at q; omega) (fun c q => q.elim) l1
  refine bothG im g.l ⟨_, h1, e1, q1, q2, fun z iz => ?_⟩
  obtain ⟨h2, e2, f2, l2⟩ := M_gain_ok iz.1.1  a
  obtain ⟨w1, w2, w3⟩ := imX iz f2.p' (fun c k q => by simp only [sca, sc, scL, plL, scV, scF, plF', scM, scB, plB, false_or, or_false, List.mem_cons, List.not_mem_nil, or_false, Prod.mk.injEq] at q; omega) l2
  exact ⟨h2, e2, w1, w2, w3⟩
theorem both_rest {k : Nat} {S : SS} {h : AH} (i : INV k S h) (a b l : Int32) : Both k (f_H_rest a b l) (f_M_rest a b l) h := by
  obtain ⟨ic, im, g⟩ := i
  have hu := ic.1.1.1
  obtain ⟨h1, e1, f1, l1⟩ := H_rest_ok ic.1.1 g.1.1 g.1.2.1 a b l
  obtain ⟨q1, q2⟩ := icL ic f1.p' (fun c k q => by simp only [scW, plW, scU, scG, plG, scT, plT, scE, plE, scQ, plQ, false_or, or_false, List.mem_cons, List.not_mem_nil, or_false, Prod.mk.injEq] at q; omega) (fun c q => q.elim) l1
  refine bothG im g.l ⟨_, h1, e1, q1, q2, fun z iz => ?_⟩
  obtain ⟨h2, e2, f2, l2⟩ := M_rest_ok iz.1.1  a b l
  obtain ⟨w1, w2, w3⟩ := imX iz f2.p' (fun c k q => by simp only [sca, sc, scL, plL, scV, scF, plF', scM, scB, plB, false_or, or_false, List.mem_cons, List.not_mem_nil, or_false, Prod.mk.injEq] at q; omega) l2
  exact ⟨h2, e2, w1, w2, w3⟩
theorem both_plan {k : Nat} {S : SS} {h : AH} (i : INV k S h) (a b l n : Int32) : Both k (f_H_plan a b l n) (f_M_plan a b l n) h := by
  obtain ⟨ic, im, g⟩ := i
  have hu := ic.1.1.1
  obtain ⟨h1, e1, f1, l1⟩ := H_plan_ok ic.1.1 g.1.1 g.1.2.1 g.2.2.2.2.1 a b l n
  obtain ⟨q1, q2⟩ := icL ic f1.p' (fun c k q => by simp only [scW, plW, scU, scG, plG, scT, plT, scE, plE, scQ, plQ, false_or, or_false, List.mem_cons, List.not_mem_nil, or_false, Prod.mk.injEq] at q; omega) (fun c q => q.elim) l1
  refine bothG im g.l ⟨_, h1, e1, q1, q2, fun z iz => ?_⟩
  obtain ⟨h2, e2, f2, l2⟩ := M_plan_ok iz.1.1 g.2.2.2.2.1 a b l n
  obtain ⟨w1, w2, w3⟩ := imX iz f2.p' (fun c k q => by simp only [sca, sc, scL, plL, scV, scF, plF', scM, scB, plB, false_or, or_false, List.mem_cons, List.not_mem_nil, or_false, Prod.mk.injEq] at q; omega) l2
  exact ⟨h2, e2, w1, w2, w3⟩
theorem both_clear {k : Nat} {S : SS} {h : AH} (i : INV k S h) (a : Int32) : Both k (f_H_clear a) (f_M_clear a) h := by
  obtain ⟨ic, im, g⟩ := i
  have hu := ic.1.1.1
  obtain ⟨h1, e1, f1, l1⟩ := H_clear_ok ic.1.1 g.1.1 a
  obtain ⟨q1, q2⟩ := icL ic f1.p (fun c k q => by simp only [scW, plW, scU, scG, plG, scT, plT, scE, plE, scQ, plQ, false_or, or_false, List.mem_cons, List.not_mem_nil, or_false, Prod.mk.injEq] at q; omega) (fun c q => by simpa using q) l1
  refine bothG im g.l ⟨_, h1, e1, q1, q2, fun z iz => ?_⟩
  obtain ⟨h2, e2, f2, l2⟩ := M_clear_ok iz.1.1 g.1.1 a
  obtain ⟨w1, w2, w3⟩ := imX iz f2.p' (fun c k q => by simp only [sca, sc, scL, plL, scV, scF, plF', scM, scB, plB, false_or, or_false, List.mem_cons, List.not_mem_nil, or_false, Prod.mk.injEq] at q; omega) l2
  exact ⟨h2, e2, w1, w2, w3⟩
theorem both_fits {k : Nat} {S : SS} {h : AH} (i : INV k S h) (a : Int32) : Both k (f_H_fits a) (f_M_fits a) h := by
  obtain ⟨ic, im, g⟩ := i
  have hu := ic.1.1.1
  obtain ⟨h1, e1, f1, l1⟩ := H_fits_ok g.2.2.2.2.2.2.1 ic.1.1 ic.2.1.1 ic.2.2.2 g.1.yv a
  obtain ⟨q1, q2⟩ := icS ic f1.p' (fun c k q => by simp only [scW, plW, scU, scG, plG, scT, plT, scE, plE, scQ, plQ, false_or, or_false, List.mem_cons, List.not_mem_nil, or_false, Prod.mk.injEq] at q; omega) (fun c q => q.elim) (Or.inr ⟨_, l1⟩)
  refine bothG im g.s ⟨_, h1, e1, q1, q2, fun z iz => ?_⟩
  obtain ⟨h2, e2, f2⟩ := M_fits_ok g.2.2.2.2.2.2.1 iz.1.1 iz.2.1.1 a
  obtain ⟨w1, w2, w3⟩ := imQ iz f2.p' (fun c k q => by simp only [sca, sc, scL, plL, scV, scF, plF', scM, scB, plB, false_or, or_false, List.mem_cons, List.not_mem_nil, or_false, Prod.mk.injEq] at q; omega)
  exact ⟨h2, e2, w1, w2, w3⟩
theorem both_sure {k : Nat} {S : SS} {h : AH} (i : INV k S h) (a : Int32) : Both k (f_H_sure a) (f_M_sure a) h := by
  obtain ⟨ic, im, g⟩ := i
  have hu := ic.1.1.1
  obtain ⟨h1, e1, f1, l1⟩ := H_sure_ok g.2.2.2.2.2.2.1 ic.1.1 ic.2.1.1 ic.2.2.2 g.1.yv a
  obtain ⟨q1, q2⟩ := icS ic f1.p' (fun c k q => by simp only [scW, plW, scU, scG, plG, scT, plT, scE, plE, scQ, plQ, false_or, or_false, List.mem_cons, List.not_mem_nil, or_false, Prod.mk.injEq] at q; omega) (fun c q => q.elim) (Or.inr ⟨_, l1⟩)
  refine bothG im g.s ⟨_, h1, e1, q1, q2, fun z iz => ?_⟩
  obtain ⟨h2, e2, f2⟩ := M_sure_ok g.2.2.2.2.2.2.1 iz.1.1 iz.2.1.1 a
  obtain ⟨w1, w2, w3⟩ := imQ iz f2.p' (fun c k q => by simp only [sca, sc, scL, plL, scV, scF, plF', scM, scB, plB, false_or, or_false, List.mem_cons, List.not_mem_nil, or_false, Prod.mk.injEq] at q; omega)
  exact ⟨h2, e2, w1, w2, w3⟩
theorem both_ask {k : Nat} {S : SS} {h : AH} (i : INV k S h) (a b d : Int32) : Both k (f_H_ask a b d) (f_M_ask a b d) h := by
  obtain ⟨ic, im, g⟩ := i
  have hu := ic.1.1.1
  obtain ⟨h1, e1, f1, l1⟩ := H_ask_ok g.2.2.2.2.2.2.1 ic.1.1 ic.2.1.1 ic.2.2.2 g.1.yv a b d
  obtain ⟨q1, q2⟩ := icS ic f1.p' (fun c k q => by simp only [scW, plW, scU, scG, plG, scT, plT, scE, plE, scQ, plQ, false_or, or_false, List.mem_cons, List.not_mem_nil, or_false, Prod.mk.injEq] at q; omega) (fun c q => q.elim) l1
  refine bothG im g.s ⟨_, h1, e1, q1, q2, fun z iz => ?_⟩
  obtain ⟨h2, e2, f2⟩ := M_ask_ok g.2.2.2.2.2.2.1 iz.1.1 iz.2.1.1 a b d
  obtain ⟨w1, w2, w3⟩ := imQ iz f2.p' (fun c k q => by simp only [sca, sc, scL, plL, scV, scF, plF', scM, scB, plB, false_or, or_false, List.mem_cons, List.not_mem_nil, or_false, Prod.mk.injEq] at q; omega)
  exact ⟨h2, e2, w1, w2, w3⟩
theorem both_lasts {k : Nat} {S : SS} {h : AH} (i : INV k S h) (a : Int32) : Both k (f_H_lasts a) (f_M_lasts a) h := by
  obtain ⟨ic, im, g⟩ := i
  exact bothG im g.s ⟨_, h, H_lasts_ok ic.1.1 g.1.1 a, fun _ _ _ => rfl, ic, fun z iz => ⟨z, M_lasts_ok iz.1.1 a, fun _ _ _ => rfl, fun _ _ _ => rfl, iz⟩⟩
theorem both_lies {k : Nat} {S : SS} {h : AH} (i : INV k S h) (a : Int32) : Both k (f_H_lies a) (f_M_lies a) h := by
  obtain ⟨ic, im, g⟩ := i
  exact bothG im g.s ⟨_, h, H_lies_ok ic.2.2.1 a, fun _ _ _ => rfl, ic, fun z iz => ⟨z, M_lies_ok iz.2.2 a, fun _ _ _ => rfl, fun _ _ _ => rfl, iz⟩⟩
theorem both_fault {k : Nat} {S : SS} {h : AH} (i : INV k S h) (a : Int32) : Both k (f_H_fault a) (f_M_fault a) h := by
  obtain ⟨ic, im, g⟩ := i
  have c1 := ic.2.1.2.2.2.1
  refine bothG im g.s ⟨if ¬ a = 0 then (if ¬ a = 1 then -1 else S.pl) else S.ft, h, ?_, fun _ _ _ => rfl, ic, fun z iz => ⟨z, ?_, fun _ _ _ => rfl, fun _ _ _ => rfl, iz⟩⟩
  · rw [f_H_fault, c1.1, c1.2]
    split
    · split <;> rfl
    · rfl
  · have c2 := iz.2.1.2.2.2.1
    rw [f_M_fault, c2.1, c2.2]
    split
    · split <;> rfl
    · rfl
def abS (S : SS) (a : Int32) : Int32 :=
  if a = 0 then nI (mN S.M) else if a = 1 then S.kd else if a = 2 then mCt S.M else if a = 3 then S.Y 32 else if a = 4 then S.Y 33 else if a = 5 then S.Y 34 else if a = 6 then S.Y 31 else if a = 7 then nI S.A else if a = 8 then nI S.U else if a = 9 then nI (eN S.E) else if a = 10 then eTm S.E else if a = 11 then nI S.L else if a = 12 then S.un else if a = 13 then nI S.n else -1
theorem both_about {k : Nat} {S : SS} {h : AH} (i : INV k S h) (a : Int32) : Both k (f_H_about a) (f_M_about a) h := by
  obtain ⟨ic, im, g⟩ := i
  refine bothG im g.s ⟨abS S a, h, ?_, fun _ _ _ => rfl, ic, fun z iz => ⟨z, ?_, fun _ _ _ => rfl, fun _ _ _ => rfl, iz⟩⟩
  · obtain ⟨⟨⟨hu, hr, hM, hY⟩, hA⟩, ⟨m1, m2, m3, m4, m6, m7, m8⟩, l1, -⟩ := ic
    have ku := kd_u hu
    simp only [f_H_about, gd_ok _ hr ku]
    rw [hM.1.1, m7, hM.2.2.2.2.2, hY.2.2.1, hY.2.2.2.1, hY.2.2.2.2, hY.2.1, hA.1, hA.2.1, m1.1, m1.2.1, m3.1, m8, l1.1]
    unfold abS
    by_cases c0 : a = 0
    · rw [if_pos c0, if_pos c0]
    rw [if_neg c0, if_neg c0]
    by_cases c1 : a = 1
    · rw [if_pos c1, if_pos c1]
    rw [if_neg c1, if_neg c1]
    by_cases c2 : a = 2
    · rw [if_pos c2, if_pos c2]
    rw [if_neg c2, if_neg c2]
    by_cases c3 : a = 3
    · rw [if_pos c3, if_pos c3]
    rw [if_neg c3, if_neg c3]
    by_cases c4 : a = 4
    · rw [if_pos c4, if_pos c4]
    rw [if_neg c4, if_neg c4]
    by_cases c5 : a = 5
    · rw [if_pos c5, if_pos c5]
    rw [if_neg c5, if_neg c5]
    by_cases c6 : a = 6
    · rw [if_pos c6, if_pos c6]
    rw [if_neg c6, if_neg c6]
    by_cases c7 : a = 7
    · rw [if_pos c7, if_pos c7]
    rw [if_neg c7, if_neg c7]
    by_cases c8 : a = 8
    · rw [if_pos c8, if_pos c8]
    rw [if_neg c8, if_neg c8]
    by_cases c9 : a = 9
    · rw [if_pos c9, if_pos c9]
    rw [if_neg c9, if_neg c9]
    by_cases c10 : a = 10
    · rw [if_pos c10, if_pos c10]
    rw [if_neg c10, if_neg c10]
    by_cases c11 : a = 11
    · rw [if_pos c11, if_pos c11]
    rw [if_neg c11, if_neg c11]
    by_cases c12 : a = 12
    · rw [if_pos c12, if_pos c12]
    rw [if_neg c12, if_neg c12]
    by_cases c13 : a = 13
    · rw [if_pos c13, if_pos c13]
    rw [if_neg c13, if_neg c13]
  · obtain ⟨⟨⟨hM, hY⟩, hA, -⟩, ⟨m1, m2, m3, m4, m6, m7⟩, l1⟩ := iz
    rw [f_M_about, hM.1.1, m6, hM.2.2.2.2.2, hY 32 (by omega), hY 33 (by omega), hY 34 (by omega), hY 31 (by omega), hA.1, hA.2.1, m1.1, m1.2.1, m3.1, m7, l1.1]
    unfold abS
    by_cases c0 : a = 0
    · rw [if_pos c0, if_pos c0]
    rw [if_neg c0, if_neg c0]
    by_cases c1 : a = 1
    · rw [if_pos c1, if_pos c1]
    rw [if_neg c1, if_neg c1]
    by_cases c2 : a = 2
    · rw [if_pos c2, if_pos c2]
    rw [if_neg c2, if_neg c2]
    by_cases c3 : a = 3
    · rw [if_pos c3, if_pos c3]
    rw [if_neg c3, if_neg c3]
    by_cases c4 : a = 4
    · rw [if_pos c4, if_pos c4]
    rw [if_neg c4, if_neg c4]
    by_cases c5 : a = 5
    · rw [if_pos c5, if_pos c5]
    rw [if_neg c5, if_neg c5]
    by_cases c6 : a = 6
    · rw [if_pos c6, if_pos c6]
    rw [if_neg c6, if_neg c6]
    by_cases c7 : a = 7
    · rw [if_pos c7, if_pos c7]
    rw [if_neg c7, if_neg c7]
    by_cases c8 : a = 8
    · rw [if_pos c8, if_pos c8]
    rw [if_neg c8, if_neg c8]
    by_cases c9 : a = 9
    · rw [if_pos c9, if_pos c9]
    rw [if_neg c9, if_neg c9]
    by_cases c10 : a = 10
    · rw [if_pos c10, if_pos c10]
    rw [if_neg c10, if_neg c10]
    by_cases c11 : a = 11
    · rw [if_pos c11, if_pos c11]
    rw [if_neg c11, if_neg c11]
    by_cases c12 : a = 12
    · rw [if_pos c12, if_pos c12]
    rw [if_neg c12, if_neg c12]
    by_cases c13 : a = 13
    · rw [if_pos c13, if_pos c13]
    rw [if_neg c13, if_neg c13]
theorem both_song {k : Nat} {S : SS} {h : AH} (i : INV k S h) (a : Int32) : Both k (f_H_song a) (f_M_song a) h := by
  obtain ⟨ic, im, g⟩ := i
  have hu := ic.1.1.1
  obtain ⟨r, hr, p1, p2⟩ := H_song_ok g.2.2.2.2.2.1 ic.1.1 a
  obtain ⟨h1, e1, f1⟩ := p1
  obtain ⟨q1, q2⟩ := icQ ic f1.p' (fun c k q => by simp only [scW, plW, scU, scG, plG, scT, plT, scE, plE, scQ, plQ, false_or, or_false, List.mem_cons, List.not_mem_nil, or_false, Prod.mk.injEq] at q; omega) (fun c q => q.elim)
  refine bothG im g.s ⟨_, h1, e1, q1, q2, fun z iz => ?_⟩
  obtain ⟨r', hr', p1', p2'⟩ := M_song_ok g.2.2.2.2.2.1 iz.1.1 a
  obtain ⟨h2, e2, f2⟩ := p1'
  obtain ⟨w1, w2, w3⟩ := imQ iz f2.p' (fun c k q => by simp only [sca, sc, scL, plL, scV, scF, plF', scM, scB, plB, false_or, or_false, List.mem_cons, List.not_mem_nil, or_false, Prod.mk.injEq] at q; omega)
  exact ⟨h2, by rw [e2, (songS_c hr hr' a).1], w1, w2, w3⟩
theorem both_songs {k : Nat} {S : SS} {h : AH} (i : INV k S h) (a : Int32) : Both k (f_H_songs a) (f_M_songs a) h := by
  obtain ⟨ic, im, g⟩ := i
  have hu := ic.1.1.1
  obtain ⟨r, hr, p1, p2⟩ := H_song_ok g.2.2.2.2.2.1 ic.1.1 a
  obtain ⟨h1, e1, f1⟩ := p2
  obtain ⟨q1, q2⟩ := icQ ic f1.p' (fun c k q => by simp only [scW, plW, scU, scG, plG, scT, plT, scE, plE, scQ, plQ, false_or, or_false, List.mem_cons, List.not_mem_nil, or_false, Prod.mk.injEq] at q; omega) (fun c q => q.elim)
  refine bothG im g.s ⟨_, h1, e1, q1, q2, fun z iz => ?_⟩
  obtain ⟨r', hr', p1', p2'⟩ := M_song_ok g.2.2.2.2.2.1 iz.1.1 a
  obtain ⟨h2, e2, f2⟩ := p2'
  obtain ⟨w1, w2, w3⟩ := imQ iz f2.p' (fun c k q => by simp only [sca, sc, scL, plL, scV, scF, plF', scM, scB, plB, false_or, or_false, List.mem_cons, List.not_mem_nil, or_false, Prod.mk.injEq] at q; omega)
  exact ⟨h2, by rw [e2, (songS_c hr hr' a).2], w1, w2, w3⟩
theorem both_hour {k : Nat} {S : SS} {h : AH} (hk : k ≤ 1000) (i : INV k S h) : Both k (f_H_hour) (f_M_hour) h := by
  obtain ⟨ic, im, g⟩ := i
  have hu := ic.1.1.1
  have h6 := g.2.2.2.2.2.2.2.2
  obtain ⟨h1, r, e1, f1, x1⟩ := H_hour_ok ic.1 g.1.1 g.1.2.1 g.1.2.2.1
  rcases x1 with ⟨p, hr, hx⟩ | ⟨p, hr, hx⟩
  · obtain ⟨q1, q2⟩ := icA ic f1 (fun c k q => by (try dsimp only [haC] at q); omega) (fun c q => q) hx
    refine bothG im (g.kp im.1.2.2 (GY.s (g.1.hour h6 p))) ⟨r, h1, e1, q1, q2, fun z iz => ?_⟩
    obtain ⟨h2, r2, e2, f2, x2⟩ := M_hour_ok iz.1
    rcases x2 with ⟨p2, hr2, mx⟩ | ⟨p2, hr2, mx⟩
    · obtain ⟨w1, w2, w3⟩ := imA iz f2.p' (fun c k q => by simp only [sca, sc, scL, plL, scV, scF, plF', scM, scB, plB, false_or, or_false, List.mem_cons, List.not_mem_nil, or_false, Prod.mk.injEq] at q; omega) mx
      exact ⟨h2, by rw [e2, hr2, hr], w1, w2, w3⟩
    · exact absurd p p2
  · obtain ⟨q1, q2⟩ := icA ic f1 (fun c k q => by (try dsimp only [haC] at q); omega) (fun c q => q) hx
    refine bothG im g.s ⟨r, h1, e1, q1, q2, fun z iz => ?_⟩
    obtain ⟨h2, r2, e2, f2, x2⟩ := M_hour_ok iz.1
    rcases x2 with ⟨p2, hr2, mx⟩ | ⟨p2, hr2, mx⟩
    · exact absurd p2 p
    · obtain ⟨w1, w2, w3⟩ := imA iz f2.p' (fun c k q => by simp only [sca, sc, scL, plL, scV, scF, plF', scM, scB, plB, false_or, or_false, List.mem_cons, List.not_mem_nil, or_false, Prod.mk.injEq] at q; omega) mx
      exact ⟨h2, by rw [e2, hr2, hr], w1, w2, w3⟩
theorem both_breathe {k : Nat} {S : SS} {h : AH} (hk : k ≤ 1000) (i : INV k S h) (a b : Int32) : Both k (f_H_breathe a b) (f_M_breathe a b) h := by
  obtain ⟨ic, im, g⟩ := i
  have hu := ic.1.1.1
  have h6 := g.2.2.2.2.2.2.2.2
  obtain ⟨h1, r, e1, f1, x1⟩ := H_breathe_ok ic.1  a b
  rcases x1 with ⟨p, hr, hx⟩ | ⟨p, hr, hx⟩
  · obtain ⟨q1, q2⟩ := icA ic f1 (fun c k q => by (try dsimp only [haC] at q); omega) (fun c q => q) hx
    refine bothG im (g.kp im.1.2.2 (GY.s (g.1.br h6 p))) ⟨r, h1, e1, q1, q2, fun z iz => ?_⟩
    obtain ⟨h2, r2, e2, f2, x2⟩ := M_breathe_ok iz.1 a b
    rcases x2 with ⟨p2, hr2, mx⟩ | ⟨p2, hr2, mx⟩
    · obtain ⟨w1, w2, w3⟩ := imA iz f2.p' (fun c k q => by simp only [sca, sc, scL, plL, scV, scF, plF', scM, scB, plB, false_or, or_false, List.mem_cons, List.not_mem_nil, or_false, Prod.mk.injEq] at q; omega) mx
      exact ⟨h2, by rw [e2, hr2, hr], w1, w2, w3⟩
    · exact absurd p p2
  · obtain ⟨q1, q2⟩ := icA ic f1 (fun c k q => by (try dsimp only [haC] at q); omega) (fun c q => q) hx
    refine bothG im g.s ⟨r, h1, e1, q1, q2, fun z iz => ?_⟩
    obtain ⟨h2, r2, e2, f2, x2⟩ := M_breathe_ok iz.1 a b
    rcases x2 with ⟨p2, hr2, mx⟩ | ⟨p2, hr2, mx⟩
    · exact absurd p2 p
    · obtain ⟨w1, w2, w3⟩ := imA iz f2.p' (fun c k q => by simp only [sca, sc, scL, plL, scV, scF, plF', scM, scB, plB, false_or, or_false, List.mem_cons, List.not_mem_nil, or_false, Prod.mk.injEq] at q; omega) mx
      exact ⟨h2, by rw [e2, hr2, hr], w1, w2, w3⟩
theorem both_free {k : Nat} {S : SS} {h : AH} (hk : k ≤ 1000) (i : INV k S h) (a : Int32) : Both k (f_H_free a) (f_M_free a) h := by
  obtain ⟨ic, im, g⟩ := i
  have hu := ic.1.1.1
  have h6 := g.2.2.2.2.2.2.2.2
  obtain ⟨h1, r, e1, f1, x1⟩ := H_free_ok ic.1  a
  rcases x1 with ⟨p, hr, hx⟩ | ⟨p, hr, hx⟩
  · obtain ⟨q1, q2⟩ := icA ic f1 (fun c k q => by (try dsimp only [haC] at q); omega) (fun c q => q) hx
    refine bothG im (g.kp im.1.2.2 (GY.s (g.1.fre h6 _))) ⟨r, h1, e1, q1, q2, fun z iz => ?_⟩
    obtain ⟨h2, r2, e2, f2, x2⟩ := M_free_ok iz.1 a
    rcases x2 with ⟨p2, hr2, mx⟩ | ⟨p2, hr2, mx⟩
    · obtain ⟨w1, w2, w3⟩ := imA iz f2.p' (fun c k q => by simp only [sca, sc, scL, plL, scV, scF, plF', scM, scB, plB, false_or, or_false, List.mem_cons, List.not_mem_nil, or_false, Prod.mk.injEq] at q; omega) mx
      exact ⟨h2, by rw [e2, hr2, hr], w1, w2, w3⟩
    · exact absurd p p2
  · obtain ⟨q1, q2⟩ := icA ic f1 (fun c k q => by (try dsimp only [haC] at q); omega) (fun c q => q) hx
    refine bothG im g.s ⟨r, h1, e1, q1, q2, fun z iz => ?_⟩
    obtain ⟨h2, r2, e2, f2, x2⟩ := M_free_ok iz.1 a
    rcases x2 with ⟨p2, hr2, mx⟩ | ⟨p2, hr2, mx⟩
    · exact absurd p2 p
    · obtain ⟨w1, w2, w3⟩ := imA iz f2.p' (fun c k q => by simp only [sca, sc, scL, plL, scV, scF, plF', scM, scB, plB, false_or, or_false, List.mem_cons, List.not_mem_nil, or_false, Prod.mk.injEq] at q; omega) mx
      exact ⟨h2, by rw [e2, hr2, hr], w1, w2, w3⟩
theorem both_buy {k : Nat} {S : SS} {h : AH} (hk : k ≤ 1000) (i : INV k S h) (a b l : Int32) : Both k (f_H_buy a b l) (f_M_buy a b l) h := by
  obtain ⟨ic, im, g⟩ := i
  have hu := ic.1.1.1
  have h6 := g.2.2.2.2.2.2.2.2
  obtain ⟨h1, r, e1, f1, x1⟩ := H_buy_ok ic.1  a b l
  rcases x1 with ⟨p, hr, hx⟩ | ⟨p, hr, hx⟩
  · obtain ⟨q1, q2⟩ := icA ic f1 (fun c k q => by (try dsimp only [haC] at q); omega) (fun c q => q) hx
    refine bothG im (g.kp im.1.2.2 (g.1.buy _ hk g.2.2.2.2.1 h6 p)) ⟨r, h1, e1, q1, q2, fun z iz => ?_⟩
    obtain ⟨h2, r2, e2, f2, x2⟩ := M_buy_ok iz.1 a b l
    rcases x2 with ⟨p2, hr2, mx⟩ | ⟨p2, hr2, mx⟩
    · obtain ⟨w1, w2, w3⟩ := imA iz f2.p' (fun c k q => by simp only [sca, sc, scL, plL, scV, scF, plF', scM, scB, plB, false_or, or_false, List.mem_cons, List.not_mem_nil, or_false, Prod.mk.injEq] at q; omega) mx
      exact ⟨h2, by rw [e2, hr2, hr], w1, w2, w3⟩
    · exact absurd p p2
  · obtain ⟨q1, q2⟩ := icA ic f1 (fun c k q => by (try dsimp only [haC] at q); omega) (fun c q => q) hx
    refine bothG im g.s ⟨r, h1, e1, q1, q2, fun z iz => ?_⟩
    obtain ⟨h2, r2, e2, f2, x2⟩ := M_buy_ok iz.1 a b l
    rcases x2 with ⟨p2, hr2, mx⟩ | ⟨p2, hr2, mx⟩
    · exact absurd p2 p
    · obtain ⟨w1, w2, w3⟩ := imA iz f2.p' (fun c k q => by simp only [sca, sc, scL, plL, scV, scF, plF', scM, scB, plB, false_or, or_false, List.mem_cons, List.not_mem_nil, or_false, Prod.mk.injEq] at q; omega) mx
      exact ⟨h2, by rw [e2, hr2, hr], w1, w2, w3⟩
theorem both_undo {k : Nat} {S : SS} {h : AH} (i : INV k S h) : Both k f_H_undo f_M_undo h := by
  obtain ⟨ic, im, g⟩ := i
  have hu := ic.1.1.1
  have h6 := g.2.2.2.2.2.2.2.2
  obtain ⟨h1, r, e1, x1⟩ := H_undo_ok h6 ic.1.2 ic.1.1.2.2.2
  rcases x1 with ⟨p, hr, rfl⟩ | ⟨p, hr, f1, yr, ak⟩
  · refine bothG im g.s ⟨r, h1, e1, fun _ _ _ => rfl, ic, fun z iz => ?_⟩
    obtain ⟨h2, r2, e2, f2, x2⟩ := M_undo_ok iz.1
    rcases x2 with ⟨p2, hr2, mx⟩ | ⟨p2, hr2, mx⟩
    · obtain ⟨w1, w2, w3⟩ := imA iz f2.p' (fun c k q => by simp only [sca, sc, scL, plL, scV, scF, plF', scM, scB, plB, false_or, or_false, List.mem_cons, List.not_mem_nil, or_false, Prod.mk.injEq] at q; omega) mx
      exact ⟨h2, by rw [e2, hr2, hr], w1, w2, w3⟩
    · omega
  · have hs : HS h1 S.M (S.W (S.A - 1)) S.u := ic.1.1.mk f1 (fun c k q => by omega) (by decide) yr
    obtain ⟨q1, q2⟩ := icA ic f1 (fun c k q => by omega) (fun c q => q) ⟨hs, ak⟩
    refine bothG im (S' := (S.M, (S.W (S.A - 1)), S.u, (fun i => if i = S.A - 1 then S.Y else S.W i), (S.A - 1), (S.U + 1), S.E, S.B, S.T, S.L, S.n, S.v, S.ft, S.pl, S.kd, S.un)) ⟨(g.2.1 (S.A - 1) (by omega)).s, fun j hj => ?_, g.s.2.2⟩ ⟨r, h1, e1, q1, q2, fun z iz => ?_⟩
    · have hj' : j < (S.A - 1) + (S.U + 1) := hj
      show GY (k + 1) S.M (if j = S.A - 1 then S.Y else S.W j)
      by_cases e : j = S.A - 1
      · rw [if_pos e]; exact g.1.s
      · rw [if_neg e]; exact (g.2.1 j (by omega)).s
    · obtain ⟨h2, r2, e2, f2, x2⟩ := M_undo_ok iz.1
      rcases x2 with ⟨p2, hr2, mx⟩ | ⟨p2, hr2, mx⟩
      · omega
      · obtain ⟨w1, w2, w3⟩ := imA iz f2.p' (fun c k q => by simp only [sca, sc, scL, plL, scV, scF, plF', scM, scB, plB, false_or, or_false, List.mem_cons, List.not_mem_nil, or_false, Prod.mk.injEq] at q; omega) mx
        exact ⟨h2, by rw [e2, hr2, hr], w1, w2, w3⟩
theorem both_redo {k : Nat} {S : SS} {h : AH} (i : INV k S h) : Both k f_H_redo f_M_redo h := by
  obtain ⟨ic, im, g⟩ := i
  have hu := ic.1.1.1
  have h6 := g.2.2.2.2.2.2.2.2
  obtain ⟨h1, r, e1, x1⟩ := H_redo_ok h6 ic.1.2
  rcases x1 with ⟨p, hr, rfl⟩ | ⟨p, hr, f1, yr, ak⟩
  · refine bothG im g.s ⟨r, h1, e1, fun _ _ _ => rfl, ic, fun z iz => ?_⟩
    obtain ⟨h2, r2, e2, f2, x2⟩ := M_redo_ok iz.1
    rcases x2 with ⟨p2, hr2, mx⟩ | ⟨p2, hr2, mx⟩
    · obtain ⟨w1, w2, w3⟩ := imA iz f2.p' (fun c k q => by simp only [sca, sc, scL, plL, scV, scF, plF', scM, scB, plB, false_or, or_false, List.mem_cons, List.not_mem_nil, or_false, Prod.mk.injEq] at q; omega) mx
      exact ⟨h2, by rw [e2, hr2, hr], w1, w2, w3⟩
    · omega
  · have hs : HS h1 S.M (S.W S.A) S.u := ic.1.1.mk f1 (fun c k q => by omega) (by decide) yr
    obtain ⟨q1, q2⟩ := icA ic f1 (fun c k q => by omega) (fun c q => q) ⟨hs, ak⟩
    refine bothG im (S' := (S.M, (S.W S.A), S.u, (fun i => if i = S.A then S.Y else S.W i), (S.A + 1), (S.U - 1), S.E, S.B, S.T, S.L, S.n, S.v, S.ft, S.pl, S.kd, S.un)) ⟨(g.2.1 (S.A) (by omega)).s, fun j hj => ?_, g.s.2.2⟩ ⟨r, h1, e1, q1, q2, fun z iz => ?_⟩
    · have hj' : j < (S.A + 1) + (S.U - 1) := hj
      show GY (k + 1) S.M (if j = S.A then S.Y else S.W j)
      by_cases e : j = S.A
      · rw [if_pos e]; exact g.1.s
      · rw [if_neg e]; exact (g.2.1 j (by omega)).s
    · obtain ⟨h2, r2, e2, f2, x2⟩ := M_redo_ok iz.1
      rcases x2 with ⟨p2, hr2, mx⟩ | ⟨p2, hr2, mx⟩
      · omega
      · obtain ⟨w1, w2, w3⟩ := imA iz f2.p' (fun c k q => by simp only [sca, sc, scL, plL, scV, scF, plF', scM, scB, plB, false_or, or_false, List.mem_cons, List.not_mem_nil, or_false, Prod.mk.injEq] at q; omega) mx
        exact ⟨h2, by rw [e2, hr2, hr], w1, w2, w3⟩
theorem icE {S : SS} {h h1 : AH} {C : Nat → Nat → Prop} (i : IC S h) (f : FrP C (fun _ => False) h h1) (a : ∀ c k, C c k → (c = 366 ∧ (k = 10 ∨ k = 11)) ∨ (367 ≤ c ∧ c ≤ 371)) {E : ET} (x : EH h1 E) : (∀ c k, 383 ≤ c → hI h1 c k = hI h c k) ∧ IC (S.M, S.Y, S.u, S.W, S.A, S.U, E, S.B, S.T, S.L, S.n, S.v, S.ft, S.pl, S.kd, S.un) h1 := by
  have hu := i.1.1.1
  have e : ∀ c k, ¬ ((c = 366 ∧ (k = 10 ∨ k = 11)) ∨ (367 ≤ c ∧ c ≤ 371)) → hI h1 c k = hI h c k := fun c k hc => f.2.1 c k (fun z => hc (a c k z))
  have d : ∀ c k, hR h1 c k = hR h c k := fun c k => congrFun (f.2.2.2 c (fun z => z)) k
  obtain ⟨⟨s0, a0⟩, ⟨m1, m2, m3, ⟨m4, m5⟩, m6, m7, m8⟩, l0, v0⟩ := i
  exact ⟨fun c k hc => e _ _ (by omega), ⟨s0.cg (fun c k hc => e _ _ (by omega)) (fun k => d _ _), a0.cg (fun c k hc => e _ _ (by omega)) (fun k => d _ _)⟩, ⟨x, m2.cg (fun c k hc => e _ _ (by omega)) (fun k => d _ _), m3.cg (fun c k hc => e _ _ (by omega)), ⟨by rw [e _ _ (by omega)]; exact m4, by rw [e _ _ (by omega)]; exact m5⟩, by rw [d]; exact m6, (e S.u 10 (by omega)).trans m7, by show hI h1 (S.u + 9) 4 + hI h1 (S.u + 13) 4 = S.un; rw [e _ _ (by omega), e _ _ (by omega)]; exact m8⟩, l0.cg (fun c k hc => e _ _ (by omega)), SVx.cg v0 (fun c k hc => e _ _ (by omega))⟩
theorem imE {S : SS} {h h1 : AH} {C : Nat → Nat → Prop} (i : IM S h) (f : FrP C (fun _ => False) h h1) (a : ∀ c k, C c k → (c = 383 ∧ (k = 68 ∨ k = 69)) ∨ (413 ≤ c ∧ c ≤ 417)) {E : ET} (x : EM h1 E) : (∀ c k, c < 383 → hI h1 c k = hI h c k) ∧ (∀ c k, c < 383 → hR h1 c k = hR h c k) ∧ IM (S.M, S.Y, S.u, S.W, S.A, S.U, E, S.B, S.T, S.L, S.n, S.v, S.ft, S.pl, S.kd, S.un) h1 := by
  have e : ∀ c k, ¬ ((c = 383 ∧ (k = 68 ∨ k = 69)) ∨ (413 ≤ c ∧ c ≤ 417)) → hI h1 c k = hI h c k := fun c k hc => f.2.1 c k (fun z => hc (a c k z))
  obtain ⟨x0, ⟨m1, m2, m3, ⟨m4, m5⟩, m6, m7⟩, l0⟩ := i
  exact ⟨fun c k hc => e _ _ (by omega), fun c k _ => congrFun (f.2.2.2 c (fun z => z)) k, x0.cg (fun c k hc => e _ _ (by omega)), ⟨x, m2.cg (fun c k hc => e _ _ (by omega)), m3.cg (fun c k hc => e _ _ (by omega)), ⟨by rw [e _ _ (by omega)]; exact m4, by rw [e _ _ (by omega)]; exact m5⟩, by rw [e _ _ (by omega)]; exact m6, by rw [e _ _ (by omega)]; exact m7⟩, l0.cg (fun c k hc => e _ _ (by omega))⟩
theorem GG.e {k : Nat} {S : SS} {E : ET} (g : GG k S) (w : EW E) : GG (k + 1) (S.M, S.Y, S.u, S.W, S.A, S.U, E, S.B, S.T, S.L, S.n, S.v, S.ft, S.pl, S.kd, S.un) := by
  obtain ⟨g1, g2, g3, g4, g5, g6, g7, g8, g9⟩ := g.s
  exact ⟨g1, g2, g3, g4, g5, g6, w, g8, g9⟩
theorem both_heard {k : Nat} {S : SS} {h : AH} (i : INV k S h) (a b d : Int32) (hd : d = 0 ∨ d = 1) : Both k (f_H_heard a b d) (f_M_heard a b d) h := by
  obtain ⟨ic, im, g⟩ := i
  have vd : vp_nar .boolean d = d := by rcases hd with rfl | rfl <;> decide
  have w := g.2.2.2.2.2.2.1
  obtain ⟨h1, e1, f1, y1, n1⟩ := H_heard_ok w ic.2.1.1 a b d vd
  by_cases p : heardP S.E a b
  · obtain ⟨q1, q2⟩ := icE ic f1.p' (fun c k q => by simp only [false_or, or_false, List.mem_cons, List.not_mem_nil, or_false, Prod.mk.injEq] at q; omega) (y1 p)
    refine bothG im (g.e (heardE_w w p hd)) ⟨_, h1, e1, q1, q2, fun z iz => ?_⟩
    obtain ⟨h2, e2, f2, y2, n2⟩ := M_heard_ok w iz.2.1.1 a b d vd
    obtain ⟨w1, w2, w3⟩ := imE iz f2.p' (fun c k q => by simp only [false_or, or_false, List.mem_cons, List.not_mem_nil, or_false, Prod.mk.injEq] at q; omega) (y2 p)
    exact ⟨h2, e2, w1, w2, w3⟩
  · obtain ⟨q1, q2⟩ := icE ic f1.p' (fun c k q => by simp only [false_or, or_false, List.mem_cons, List.not_mem_nil, or_false, Prod.mk.injEq] at q; omega) (n1 p)
    refine bothG im g.s ⟨_, h1, e1, q1, q2, fun z iz => ?_⟩
    obtain ⟨h2, e2, f2, y2, n2⟩ := M_heard_ok w iz.2.1.1 a b d vd
    obtain ⟨w1, w2, w3⟩ := imE iz f2.p' (fun c k q => by simp only [false_or, or_false, List.mem_cons, List.not_mem_nil, or_false, Prod.mk.injEq] at q; omega) (n2 p)
    exact ⟨h2, e2, w1, w2, w3⟩
theorem both_untell {k : Nat} {S : SS} {h : AH} (i : INV k S h) (a : Int32) : Both k (f_H_untell a) (f_M_untell a) h := by
  obtain ⟨ic, im, g⟩ := i
  have w := g.2.2.2.2.2.2.1
  obtain ⟨h1, r, e1, f1, x1⟩ := H_untell_ok w ic.2.1.1 a
  rcases x1 with ⟨p, hr, y1⟩ | ⟨p, hr, y1⟩
  · obtain ⟨q1, q2⟩ := icE ic f1.p' (fun c k q => by simp only [false_or, or_false, List.mem_cons, List.not_mem_nil, or_false, Prod.mk.injEq] at q; omega) y1
    refine bothG im (g.e (untE_w w _)) ⟨r, h1, e1, q1, q2, fun z iz => ?_⟩
    obtain ⟨h2, r2, e2, f2, x2⟩ := M_untell_ok w iz.2.1.1 a
    rcases x2 with ⟨p2, hr2, y2⟩ | ⟨p2, hr2, y2⟩
    · obtain ⟨w1, w2, w3⟩ := imE iz f2.p' (fun c k q => by simp only [false_or, or_false, List.mem_cons, List.not_mem_nil, or_false, Prod.mk.injEq] at q; omega) y2
      exact ⟨h2, by rw [e2, hr2, hr], w1, w2, w3⟩
    · exact absurd p p2
  · obtain ⟨q1, q2⟩ := icE ic f1.p' (fun c k q => by simp only [false_or, or_false, List.mem_cons, List.not_mem_nil, or_false, Prod.mk.injEq] at q; omega) y1
    refine bothG im g.s ⟨r, h1, e1, q1, q2, fun z iz => ?_⟩
    obtain ⟨h2, r2, e2, f2, x2⟩ := M_untell_ok w iz.2.1.1 a
    rcases x2 with ⟨p2, hr2, y2⟩ | ⟨p2, hr2, y2⟩
    · exact absurd p2 p
    · obtain ⟨w1, w2, w3⟩ := imE iz f2.p' (fun c k q => by simp only [false_or, or_false, List.mem_cons, List.not_mem_nil, or_false, Prod.mk.injEq] at q; omega) y2
      exact ⟨h2, by rw [e2, hr2, hr], w1, w2, w3⟩
theorem both_later {k : Nat} {S : SS} {h : AH} (i : INV k S h) (a : Int32) : Both k (f_H_later a) (f_M_later a) h := by
  obtain ⟨ic, im, g⟩ := i
  have w := g.2.2.2.2.2.2.1
  obtain ⟨h1, r, e1, f1, x1⟩ := H_later_ok ic.2.1.1 a
  rcases x1 with ⟨p, hr, y1⟩ | ⟨p, hr, y1⟩
  · obtain ⟨q1, q2⟩ := icE ic f1.p' (fun c k q => by simp only [false_or, or_false, List.mem_cons, List.not_mem_nil, or_false, Prod.mk.injEq] at q; omega) y1
    refine bothG im (g.e (latE_w w p)) ⟨r, h1, e1, q1, q2, fun z iz => ?_⟩
    obtain ⟨h2, r2, e2, f2, x2⟩ := M_later_ok iz.2.1.1 a
    rcases x2 with ⟨p2, hr2, y2⟩ | ⟨p2, hr2, y2⟩
    · obtain ⟨w1, w2, w3⟩ := imE iz f2.p' (fun c k q => by simp only [false_or, or_false, List.mem_cons, List.not_mem_nil, or_false, Prod.mk.injEq] at q; omega) y2
      exact ⟨h2, by rw [e2, hr2, hr], w1, w2, w3⟩
    · exact absurd p p2
  · obtain ⟨q1, q2⟩ := icE ic f1.p' (fun c k q => by simp only [false_or, or_false, List.mem_cons, List.not_mem_nil, or_false, Prod.mk.injEq] at q; omega) y1
    refine bothG im g.s ⟨r, h1, e1, q1, q2, fun z iz => ?_⟩
    obtain ⟨h2, r2, e2, f2, x2⟩ := M_later_ok iz.2.1.1 a
    rcases x2 with ⟨p2, hr2, y2⟩ | ⟨p2, hr2, y2⟩
    · exact absurd p2 p
    · obtain ⟨w1, w2, w3⟩ := imE iz f2.p' (fun c k q => by simp only [false_or, or_false, List.mem_cons, List.not_mem_nil, or_false, Prod.mk.injEq] at q; omega) y2
      exact ⟨h2, by rw [e2, hr2, hr], w1, w2, w3⟩
theorem both_image {k : Nat} {S : SS} {h : AH} (i : INV k S h) (a : Int32) : Both k (f_H_image a) (f_M_image a) h := by
  obtain ⟨ic, im, g⟩ := i
  have hu := ic.1.1.1
  have h6 := g.2.2.2.2.2.2.2.2
  obtain ⟨h1, e1, f, x⟩ := H_image_ok h6 ic.2.1.2.1 ic.1.1.2.2.2 a
  have e : ∀ c k, ¬ (344 ≤ c ∧ c ≤ 365) → hI h1 c k = hI h c k := fun c k hc => f.2.1 c k hc
  have d : ∀ c k, hR h1 c k = hR h c k := fun c k => congrFun (f.2.2.2 c (fun z => z)) k
  have ic' : IC (S.M, S.Y, S.u, S.W, S.A, S.U, S.E, (imgB S.B S.Y a), S.T, S.L, S.n, S.v, S.ft, S.pl, S.kd, S.un) h1 := by
    obtain ⟨⟨s0, a0⟩, ⟨m1, m2, m3, ⟨m4, m5⟩, m6, m7, m8⟩, l0, v0⟩ := ic
    exact ⟨⟨s0.cg (fun c k hc => e _ _ (by omega)) (fun k => d _ _), a0.cg (fun c k hc => e _ _ (by omega)) (fun k => d _ _)⟩, ⟨m1.cg (fun c k hc => e _ _ (by omega)), x, m3.cg (fun c k hc => e _ _ (by omega)), ⟨by rw [e _ _ (by omega)]; exact m4, by rw [e _ _ (by omega)]; exact m5⟩, by rw [d]; exact m6, (e S.u 10 (by omega)).trans m7, by show hI h1 (S.u + 9) 4 + hI h1 (S.u + 13) 4 = S.un; rw [e _ _ (by omega), e _ _ (by omega)]; exact m8⟩, l0.cg (fun c k hc => e _ _ (by omega)), SVx.cg v0 (fun c k hc => e _ _ (by omega))⟩
  have g' : GG (k + 1) (S.M, S.Y, S.u, S.W, S.A, S.U, S.E, (imgB S.B S.Y a), S.T, S.L, S.n, S.v, S.ft, S.pl, S.kd, S.un) := by
    obtain ⟨g1, g2, g3, g4⟩ := g.s
    refine ⟨g1, g2, fun b hb Z z => ?_, g4⟩
    have z' : imgB S.B S.Y a b = some Z := z
    unfold imgB at z'
    by_cases c : 0 ≤ a ∧ a ≤ 2
    · rw [if_pos c] at z'
      unfold updB at z'
      by_cases e2 : b = ix a
      · rw [if_pos e2] at z'; injection z' with z'; rw [← z']; exact g1
      · rw [if_neg e2] at z'; exact g3 b hb Z z'
    · rw [if_neg c] at z'; exact g3 b hb Z z'
  refine bothG im g' ⟨_, h1, e1, fun c k hc => e _ _ (by omega), ic', fun z iz => ?_⟩
  obtain ⟨h2, e2, f2, x2⟩ := M_image_ok iz.2.1.2.1 iz.1.1 a
  have e' : ∀ c k, ¬ (c = 419 ∨ c = 420) → hI h2 c k = hI z c k := fun c k hc => f2.i c k (by simp only [List.mem_cons, List.not_mem_nil, or_false]; exact hc) (by simp)
  refine ⟨h2, e2, fun c k hc => e' _ _ (by omega), fun c k _ => congrFun (congrFun f2.2.2.2 c) k, ?_⟩
  obtain ⟨x0, ⟨m1, m2, m3, ⟨m4, m5⟩, m6, m7⟩, l0⟩ := iz
  exact ⟨x0.cg (fun c k hc => e' _ _ (by omega)), ⟨m1.cg (fun c k hc => e' _ _ (by omega)), x2, m3.cg (fun c k hc => e' _ _ (by omega)), ⟨by rw [e' _ _ (by omega)]; exact m4, by rw [e' _ _ (by omega)]; exact m5⟩, by rw [e' _ _ (by omega)]; exact m6, by rw [e' _ _ (by omega)]; exact m7⟩, l0.cg (fun c k hc => e' _ _ (by omega))⟩
theorem both_back {k : Nat} {S : SS} {h : AH} (i : INV k S h) (a : Int32) : Both k (f_H_back a) (f_M_back a) h := by
  obtain ⟨ic, im, g⟩ := i
  have hu := ic.1.1.1
  obtain ⟨h1, e1, f1, x1⟩ := H_back_ok ic.1 ic.2.1.2.1 a
  rcases x1 with ⟨Z, p, hx⟩ | ⟨p, hx⟩
  · obtain ⟨q1, q2⟩ := icA ic f1 (fun c k q => by omega) (fun c q => q.elim) hx
    have g' : GG (k + 1) (S.M, Z, S.u, S.W, 0, 0, S.E, S.B, S.T, S.L, S.n, S.v, S.ft, S.pl, S.kd, S.un) := by
      obtain ⟨g1, g2, g3, g4⟩ := g.s
      refine ⟨?_, fun i hi => absurd hi (Nat.not_lt_zero _), g3, g4⟩
      have p' := p
      unfold bkO at p'
      by_cases c : 0 ≤ a ∧ a ≤ 2
      · rw [if_pos c] at p'
        refine g3 (ix a) ?_ Z p'
        have c0 : (0 : Int) ≤ a.toInt := i_le.mp c.1
        have c1 : a.toInt ≤ (2 : Int) := i_le.mp c.2
        show a.toNatClampNeg < 3
        rw [Int32.toNatClampNeg]
        omega
      · rw [if_neg c] at p'; cases p'
    refine bothG im g' ⟨_, h1, e1, q1, q2, fun z iz => ?_⟩
    obtain ⟨h2, e2, f2, x2⟩ := M_back_ok iz.1 iz.2.1.2.1 a
    rcases x2 with ⟨Z2, p2, mx⟩ | ⟨p2, mx⟩
    · have : Z2 = Z := by rw [p] at p2; injection p2 with p2; exact p2.symm
      subst this
      obtain ⟨w1, w2, w3⟩ := imA iz f2.p' (fun c k q => by simp only [sca, sc, scL, plL, scV, scF, plF', scM, scB, plB, false_or, or_false, List.mem_cons, List.not_mem_nil, or_false, Prod.mk.injEq] at q; omega) mx
      exact ⟨h2, e2, w1, w2, w3⟩
    · rw [p] at p2; cases p2
  · obtain ⟨q1, q2⟩ := icA ic f1 (fun c k q => by omega) (fun c q => q.elim) hx
    refine bothG im g.s ⟨_, h1, e1, q1, q2, fun z iz => ?_⟩
    obtain ⟨h2, e2, f2, x2⟩ := M_back_ok iz.1 iz.2.1.2.1 a
    rcases x2 with ⟨Z2, p2, mx⟩ | ⟨p2, mx⟩
    · rw [p] at p2; cases p2
    · obtain ⟨w1, w2, w3⟩ := imA iz f2.p' (fun c k q => by simp only [sca, sc, scL, plL, scV, scF, plF', scM, scB, plB, false_or, or_false, List.mem_cons, List.not_mem_nil, or_false, Prod.mk.injEq] at q; omega) mx
      exact ⟨h2, e2, w1, w2, w3⟩
theorem icT {S : SS} {h h1 : AH} {C : Nat → Nat → Prop} (i : IC S h) (f : FrP C (fun _ => False) h h1) (a : ∀ c k, C c k → c = 2 ∨ (c = 1 ∧ k = 9)) {T : Nat → Int32} {L : Nat} (x : TH h1 T L) : (∀ c k, 383 ≤ c → hI h1 c k = hI h c k) ∧ IC (S.M, S.Y, S.u, S.W, S.A, S.U, S.E, S.B, T, L, S.n, S.v, S.ft, S.pl, S.kd, S.un) h1 := by
  have hu := i.1.1.1
  have e : ∀ c k, ¬ (c = 2 ∨ (c = 1 ∧ k = 9)) → hI h1 c k = hI h c k := fun c k hc => f.2.1 c k (fun z => hc (a c k z))
  have d : ∀ c k, hR h1 c k = hR h c k := fun c k => congrFun (f.2.2.2 c (fun z => z)) k
  obtain ⟨⟨s0, a0⟩, ⟨m1, m2, m3, ⟨m4, m5⟩, m6, m7, m8⟩, l0, v0⟩ := i
  exact ⟨fun c k hc => e _ _ (by omega), ⟨s0.cg (fun c k hc => e _ _ (by omega)) (fun k => d _ _), a0.cg (fun c k hc => e _ _ (by omega)) (fun k => d _ _)⟩, ⟨m1.cg (fun c k hc => e _ _ (by omega)), m2.cg (fun c k hc => e _ _ (by omega)) (fun k => d _ _), x, ⟨by rw [e _ _ (by omega)]; exact m4, by rw [e _ _ (by omega)]; exact m5⟩, by rw [d]; exact m6, (e S.u 10 (by omega)).trans m7, by show hI h1 (S.u + 9) 4 + hI h1 (S.u + 13) 4 = S.un; rw [e _ _ (by omega), e _ _ (by omega)]; exact m8⟩, l0.cg (fun c k hc => e _ _ (by omega)), SVx.cg v0 (fun c k hc => e _ _ (by omega))⟩
theorem imT {S : SS} {h h1 : AH} {C : Nat → Nat → Prop} (i : IM S h) (f : FrP C (fun _ => False) h h1) (a : ∀ c k, C c k → (c = 383 ∧ k = 1) ∨ c = 384) {T : Nat → Int32} {L : Nat} (x : TM h1 T L) : (∀ c k, c < 383 → hI h1 c k = hI h c k) ∧ (∀ c k, c < 383 → hR h1 c k = hR h c k) ∧ IM (S.M, S.Y, S.u, S.W, S.A, S.U, S.E, S.B, T, L, S.n, S.v, S.ft, S.pl, S.kd, S.un) h1 := by
  have e : ∀ c k, ¬ ((c = 383 ∧ k = 1) ∨ c = 384) → hI h1 c k = hI h c k := fun c k hc => f.2.1 c k (fun z => hc (a c k z))
  obtain ⟨x0, ⟨m1, m2, m3, ⟨m4, m5⟩, m6, m7⟩, l0⟩ := i
  exact ⟨fun c k hc => e _ _ (by omega), fun c k _ => congrFun (f.2.2.2 c (fun z => z)) k, x0.cg (fun c k hc => e _ _ (by omega)), ⟨m1.cg (fun c k hc => e _ _ (by omega)), m2.cg (fun c k hc => e _ _ (by omega)), x, ⟨by rw [e _ _ (by omega)]; exact m4, by rw [e _ _ (by omega)]; exact m5⟩, by rw [e _ _ (by omega)]; exact m6, by rw [e _ _ (by omega)]; exact m7⟩, l0.cg (fun c k hc => e _ _ (by omega))⟩
theorem GG.t {k : Nat} {S : SS} {T : Nat → Int32} {L : Nat} (g : GG k S) (w : TW T L) : GG (k + 1) (S.M, S.Y, S.u, S.W, S.A, S.U, S.E, S.B, T, L, S.n, S.v, S.ft, S.pl, S.kd, S.un) := by
  obtain ⟨g1, g2, g3, g4, g5, g6, g7, g8, g9⟩ := g.s
  exact ⟨g1, g2, g3, g4, g5, g6, g7, w, g9⟩
theorem both_feed {k : Nat} {S : SS} {h : AH} (i : INV k S h) (a b c d e : Int32) : Both k (f_H_feed a b c d e) (f_M_feed a b c d e) h := by
  obtain ⟨ic, im, g⟩ := i
  have w := g.2.2.2.2.2.2.2.1
  obtain ⟨h1, e1, f1, y1, n1⟩ := H_feed_ok w ic.2.1.2.2.1 a b c d e
  by_cases p : S.L ≤ 1580
  · obtain ⟨q1, q2⟩ := icT ic f1.p' (fun c k q => by simp only [false_or, or_false, List.mem_cons, List.not_mem_nil, or_false, Prod.mk.injEq] at q; omega) (y1 p)
    refine bothG im (g.t (feedT_w w p a b c d e)) ⟨_, h1, e1, q1, q2, fun z iz => ?_⟩
    obtain ⟨h2, e2, f2, y2, n2⟩ := M_feed_ok w iz.2.1.2.2.1 a b c d e
    obtain ⟨w1, w2, w3⟩ := imT iz f2.p' (fun c k q => by simp only [false_or, or_false, List.mem_cons, List.not_mem_nil, or_false, Prod.mk.injEq] at q; omega) (y2 p)
    exact ⟨h2, e2, w1, w2, w3⟩
  · obtain ⟨q1, q2⟩ := icT ic f1.p' (fun c k q => by simp only [false_or, or_false, List.mem_cons, List.not_mem_nil, or_false, Prod.mk.injEq] at q; omega) (n1 p)
    refine bothG im g.s ⟨_, h1, e1, q1, q2, fun z iz => ?_⟩
    obtain ⟨h2, e2, f2, y2, n2⟩ := M_feed_ok w iz.2.1.2.2.1 a b c d e
    obtain ⟨w1, w2, w3⟩ := imT iz f2.p' (fun c k q => by simp only [false_or, or_false, List.mem_cons, List.not_mem_nil, or_false, Prod.mk.injEq] at q; omega) (n2 p)
    exact ⟨h2, e2, w1, w2, w3⟩
theorem both_end {k : Nat} {S : SS} {h : AH} (i : INV k S h) (a : Int32) : Both k (f_H_end a) (f_M_end a) h := by
  obtain ⟨ic, im, g⟩ := i
  have w := g.2.2.2.2.2.2.2.1
  obtain ⟨h1, e1, f1, y1⟩ := H_end_ok w ic.2.1.2.2.1 a
  obtain ⟨q1, q2⟩ := icT ic f1.p' (fun c k q => by simp only [false_or, or_false, List.mem_cons, List.not_mem_nil, or_false, Prod.mk.injEq] at q; omega) y1
  refine bothG im (g.t (endL_w w a)) ⟨_, h1, e1, q1, q2, fun z iz => ?_⟩
  obtain ⟨h2, e2, f2, y2⟩ := M_end_ok w iz.2.1.2.2.1 a
  obtain ⟨w1, w2, w3⟩ := imT iz f2.p' (fun c k q => by simp only [false_or, or_false, List.mem_cons, List.not_mem_nil, or_false, Prod.mk.injEq] at q; omega) y2
  exact ⟨h2, e2, w1, w2, w3⟩
