/-! ===== markets, both sides alike ===== -/
theorem GY.m {k k' : Nat} {M : MT} {Y : YT} (g : GY k M Y) (h : k ≤ k') : GY k' M Y := ⟨g.1, g.2.1, g.2.2.1, fun i hi => by have := g.2.2.2 i hi; omega⟩
theorem both_market {k : Nat} {S : SS} {h : AH} (i : INV k S h) : Both k f_H_market f_M_market h := by
  obtain ⟨ic, im, g⟩ := i
  have hu := ic.1.1.1
  have tw := g.2.2.2.2.2.2.2.1
  have th := ic.2.1.2.2.1
  have r1 := ic.1.1.2.1
  have r2 := ic.2.1.2.2.2.2.1
  obtain ⟨b, hb⟩ : ∃ b : Nat → Nat, ∀ j, j < S.L → b j < 256 ∧ S.T j = nI (b j) := by
    refine Classical.axiomOfChoice (r := fun j n => j < S.L → n < 256 ∧ S.T j = nI n) (fun j => ?_)
    by_cases hj : j < S.L
    · obtain ⟨n, h1, h2⟩ := tw.2 j hj
      exact ⟨n, fun _ => ⟨h1, h2⟩⟩
    · exact ⟨0, fun z => absurd z hj⟩
  have cb : CBs b S.L h := ⟨tw.1, th.1, fun j hj => (th.2 j hj).trans (hb j hj).2, fun j hj => (hb j hj).1⟩
  have ku : KU S.u := hu.elim (fun e => by rw [e]; exact KU3) (fun e => by rw [e]; exact KU20)
  have kd : KU (23 - S.u) := hu.elim (fun e => by rw [e]; exact KU20) (fun e => by rw [e]; exact KU3)
  obtain ⟨r, h1, e1, x1⟩ := marketC kd ku (by omega) cb r1 r2
  have mm : ∀ z, IM S z → ∃ r h1, f_M_market z = some (r, h1) ∧ MkM z h1 r (readR b S.L (S.L + 1) D0 (lx b S.L 0)) := fun z iz => by
    have tm := iz.2.1.2.2.1
    exact marketM tw.1 tm.1 (fun j hj => (tm.2 j hj).trans (hb j hj).2) (fun j hj => (hb j hj).1)
  have GD := readR_G (b := b) (L := S.L) (S.L + 1) D0 (lx b S.L 0) DG0 (lx_TG (Nat.zero_le _)).1
  have t0 : TW S.T 0 := ⟨by omega, fun j hj => absurd hj (Nat.not_lt_zero _)⟩
  cases q : readR b S.L (S.L + 1) D0 (lx b S.L 0) with
  | error e =>
    rw [q] at x1
    obtain ⟨hr, z9, ⟨f1, f2⟩, F⟩ := x1
    have ee : ∀ c k, ¬ (c = 1 ∨ (23 - S.u ≤ c ∧ c ≤ 23 - S.u + 16)) → hI h1 c k = hI h c k := fun c k hc => F.2.1 c k hc
    have dd : ∀ c k, ¬ c = 1 → hR h1 c k = hR h c k := fun c k hc => congrFun (F.2.2.2 c hc) k
    obtain ⟨⟨s0, a0⟩, ⟨m1, m2, m3, ⟨m4, m5⟩, m6, m7, m8⟩, l0, v0⟩ := ic
    have ic' : IC (S.M, S.Y, S.u, S.W, S.A, S.U, S.E, S.B, S.T, 0, S.n, S.v, (nI e.1), (nI e.2), S.kd, S.un) h1 := ⟨⟨s0.cg (fun c k hc => ee _ _ (by omega)) (fun k => dd _ _ (by omega)), a0.cg (fun c k hc => ee _ _ (by omega)) (fun k => dd _ _ (by omega))⟩, ⟨m1.cg (fun c k hc => ee _ _ (by omega)), m2.cg (fun c k hc => ee _ _ (by omega)) (fun k => dd _ _ (by omega)), ⟨z9, fun j hj => absurd hj (Nat.not_lt_zero _)⟩, ⟨f1, f2⟩, (dd _ _ (by omega)).trans m6, (ee S.u 10 (by omega)).trans m7, by show hI h1 (S.u + 9) 4 + hI h1 (S.u + 13) 4 = S.un; rw [ee _ _ (by omega), ee _ _ (by omega)]; exact m8⟩, l0.cg (fun c k hc => ee _ _ (by omega)), SVx.cg v0 (fun c k hc => ee _ _ (by omega))⟩
    have g' : GG (k + 1) (S.M, S.Y, S.u, S.W, S.A, S.U, S.E, S.B, S.T, 0, S.n, S.v, (nI e.1), (nI e.2), S.kd, S.un) := by
      obtain ⟨g1, g2, g3, g4, g5, g6, g7, g8, g9⟩ := g.s
      exact ⟨g1, g2, g3, g4, g5, g6, g7, t0, g9⟩
    refine bothG im g' ⟨r, h1, e1, fun c k hc => ee _ _ (by omega), ic', fun z iz => ?_⟩
    obtain ⟨r', h2, e2, x2⟩ := mm z iz
    rw [q] at x2
    obtain ⟨hr', w1, ⟨y1, y2⟩, F2⟩ := x2
    have e' : ∀ c k, ¬ lwC c k → hI h2 c k = hI z c k := fun c k hc => F2.2.1 c k hc
    obtain ⟨x0, ⟨m1, m2, m3, ⟨m4, m5⟩, m6, m7⟩, l0⟩ := iz
    refine ⟨h2, by rw [e2, hr, hr'], fun c k hc => e' _ _ (fun z => by dsimp only [lwC, lvC] at z; omega), fun c k _ => congrFun (F2.2.2.2 c (fun z => z)) k, x0.cg (fun c k hc => e' _ _ (fun z => by dsimp only [lwC, lvC] at z; omega)), ⟨m1.cg (fun c k hc => e' _ _ (fun z => by dsimp only [lwC, lvC] at z; omega)), m2.cg (fun c k hc => e' _ _ (fun z => by dsimp only [lwC, lvC] at z; omega)), ⟨w1, fun j hj => absurd hj (Nat.not_lt_zero _)⟩, ⟨y1, y2⟩, (e' _ _ (fun z => by dsimp only [lwC, lvC] at z; omega)).trans m6, (e' _ _ (fun z => by dsimp only [lwC, lvC] at z; omega)).trans m7⟩, l0.cg (fun c k hc => e' _ _ (fun z => by dsimp only [lwC, lvC] at z; omega))⟩
  | ok D =>
    rw [q] at x1
    have dg := GD D q
    obtain ⟨hr, ⟨T1, T2⟩, mk, yr, ⟨k1, k2, k3⟩, ⟨a1, a2⟩, b4, ⟨v1, v2⟩, w3, z9, ⟨f1, f2⟩, F⟩ := x1
    have ee : ∀ c k, ¬ mkC (23 - S.u) c k → hI h1 c k = hI h c k := fun c k hc => F.2.1 c k hc
    have dd : ∀ c k, ¬ (c = 0 ∨ c = 1) → hR h1 c k = hR h c k := fun c k hc => congrFun (F.2.2.2 c hc) k
    have u23 : 23 - (23 - S.u) = S.u := by omega
    obtain ⟨⟨s0, A1, A2, A3, ρ, ρ1, ρ2, -⟩, ⟨m1, m2, m3, -⟩, l0, v0⟩ := ic
    have ic' : IC ((mkS D), (nowS D), (23 - S.u), S.W, 0, 0, (0, eHt S.E, eCh S.E, eHd S.E, eTl S.E, eUn S.E, eTm S.E), (fun _ => none), S.T, 0, 0, S.v, 0, (-1), (nI D.kn.length), (nI (D.ch.1 + D.he.1))) h1 := by
      refine ⟨⟨⟨by show 23 - S.u = 3 ∨ 23 - S.u = 20; omega, T1, mk, yr⟩, a1, a2, by show 0 + 0 ≤ 40; omega, ρ, fun i hi => ⟨(ρ1 i hi).1, (dd _ _ (by omega)).trans (ρ1 i hi).2⟩, ρ2, fun i hi => absurd hi (Nat.not_lt_zero _), fun i h1 h2 => absurd h2 (Nat.not_lt_zero _), fun z => absurd z (Nat.lt_irrefl _)⟩, ⟨⟨v1, ?_, fun j hj => absurd hj (Nat.not_lt_zero _)⟩, fun b hb => ⟨b4 b hb, ?_, fun Z z => (by cases z)⟩, ⟨z9, fun j hj => absurd hj (Nat.not_lt_zero _)⟩, ⟨f1, f2⟩, ?_, k1, ?_⟩, ⟨w3, by show 0 ≤ 12; omega, fun j hj => absurd hj (Nat.not_lt_zero _)⟩, Or.inl v2⟩
      · exact (ee _ _ (fun z => by dsimp only [mkC] at z; omega)).trans m1.2.1
      · exact (dd _ _ (by omega)).trans (m2 b hb).2.1
      · show hR h1 0 2 = some (23 - (23 - S.u))
        rw [u23]; exact T2
      · show hI h1 (23 - S.u + 9) 4 + hI h1 (23 - S.u + 13) 4 = nI (D.ch.1 + D.he.1)
        rw [k2, k3, nI_add]
    have g' : GG (k + 1) ((mkS D), (nowS D), (23 - S.u), S.W, 0, 0, (0, eHt S.E, eCh S.E, eHd S.E, eTl S.E, eUn S.E, eTm S.E), (fun _ => none), S.T, 0, 0, S.v, 0, (-1), (nI D.kn.length), (nI (D.ch.1 + D.he.1))) := by
      have ew := g.2.2.2.2.2.2.1
      obtain ⟨g1, g6, -, -, -, -, -, gv, ga, gb, gc, gd⟩ := id dg
      refine ⟨(GY.new dg).m (Nat.zero_le _), fun i hi => absurd hi (Nat.not_lt_zero _), fun b hb Z z => (by cases z), ?_, ⟨D.n3, rfl, gc.1, gc.2⟩, fun i hi => ⟨D.dv i 1, ?_, rfl⟩, ⟨by show 0 ≤ 30; omega, fun j hj => absurd hj (Nat.not_lt_zero _), ew.2.2⟩, t0, g6⟩
      · show 0 ≤ (nI D.n1).toInt ∧ (nI D.n1).toInt ≤ 100
        rw [i_nI (by omega)]; omega
      · have := (gv i hi).2.1
        show D.dv i 1 < 10
        omega
    refine bothG im g' ⟨r, h1, e1, fun c k hc => ee _ _ (fun z => by dsimp only [mkC] at z; omega), ic', fun z iz => ?_⟩
    obtain ⟨r', h2, e2, x2⟩ := mm z iz
    rw [q] at x2
    obtain ⟨hr', ms, ⟨n1, n2⟩, ⟨p1, p2⟩, p3, p4, p5, w1, ⟨y1, y2⟩, F2⟩ := x2
    have e' : ∀ c k, ¬ mmC c k → hI h2 c k = hI z c k := fun c k hc => F2.2.1 c k hc
    obtain ⟨x0, ⟨m1, m2, m3, ⟨m4, m5⟩, m6, m7⟩, l0⟩ := iz
    exact ⟨h2, by rw [e2, hr, hr'], fun c k hc => e' _ _ (fun z => by dsimp only [mmC, lwC, lvC, kmC, cpC] at z; omega), fun c k _ => congrFun (F2.2.2.2 c (fun z => z)) k, ⟨ms, ⟨p1, p2, fun i k hi _ => absurd hi (Nat.not_lt_zero _)⟩, by show 0 + 0 ≤ 40; omega⟩, ⟨⟨p4, (e' _ _ (fun z => by dsimp only [mmC, lwC, lvC, kmC, cpC] at z; omega)).trans m1.2.1, fun j hj => absurd hj (Nat.not_lt_zero _)⟩, fun b hb => ⟨p5 b hb, fun Z z => (by cases z)⟩, ⟨w1, fun j hj => absurd hj (Nat.not_lt_zero _)⟩, ⟨y1, y2⟩, n1, n2⟩, ⟨p3, by show 0 ≤ 12; omega, fun j hj => absurd hj (Nat.not_lt_zero _)⟩⟩
