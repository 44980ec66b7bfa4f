/-! ===== what stays good ===== -/
def GY (k : Nat) (M : MT) (Y : YT) : Prop := BN M Y ∧ BC M Y ∧ BD Y ∧ ∀ i, i < mN M → (Y (6 + i)).toInt ≤ (100 + 9 * k : Nat)
theorem GY.s {k : Nat} {M : MT} {Y : YT} (g : GY k M Y) : GY (k + 1) M Y := ⟨g.1, g.2.1, g.2.2.1, fun i hi => by have := g.2.2.2 i hi; omega⟩
theorem GY.o {k : Nat} {M : MT} {Y Z : YT} (g : GY k M Y) (hn : mN M ≤ 6) (e : ∀ j, j < 24 ∨ (31 ≤ j ∧ j ≤ 33) → Z j = Y j) : GY k M Z := ⟨g.1.o hn (fun j hj => e j (Or.inl hj)), by unfold BC; rw [e 31 (by omega)]; exact g.2.1, by unfold BD; rw [e 32 (by omega), e 33 (by omega)]; exact g.2.2.1, fun i hi => by rw [e _ (by omega)]; exact g.2.2.2 i hi⟩
theorem GY.yv {k : Nat} {M : MT} {Y : YT} (g : GY k M Y) : YV Y := fun z => by
  have := g.2.2.1.1.1
  rw [z] at this
  exact absurd this (by decide)
theorem GY.hour {k : Nat} {M : MT} {Y : YT} (g : GY k M Y) (hn : mN M ≤ 6) (hp : hrP Y) : GY k M (hourS M Y) := by
  obtain ⟨b, c, ⟨⟨d1, d2⟩, d3, d4⟩, l⟩ := g
  refine ⟨b.hour hn, c.hour hn, ?_, ?_⟩
  · obtain ⟨c1, sn, e, -⟩ := hourS_lo M Y
    have z : ∀ j, ¬ (24 ≤ j ∧ j < 30) → ¬ j = 31 → ¬ j = 34 → brN (mN M) (upd (upd Y 34 (seedS (Y 34))) 31 c1) j = Y j := fun j h1 h2 h3 => by
      unfold brN
      rw [if_neg (by omega), upd_a, if_neg h2, upd_a, if_neg h3]
    have z32 := z 32 (by omega) (by omega) (by omega)
    have z33 := z 33 (by omega) (by omega) (by omega)
    rw [e]
    generalize brN (mN M) (upd (upd Y 34 (seedS (Y 34))) 31 c1) = Z at z32 z33 ⊢
    have a1 : (Y 32 + 1).toInt = (Y 32).toInt + 1 := i_add (by show _ ≤ _ + (1 : Int); omega) (by show _ + (1 : Int) ≤ _; omega)
    have a2 : (Y 33 + 1).toInt = (Y 33).toInt + 1 := i_add (by show _ ≤ _ + (1 : Int); omega) (by show _ + (1 : Int) ≤ _; omega)
    unfold hrS
    by_cases q : 24 ≤ Z 32 + 1
    · rw [if_pos q]
      have q' : (24 : Int) ≤ (Z 32 + 1).toInt := i_le.mp q
      rw [z32, a1] at q'
      have y32 : Y 32 = 23 := i_eq.mpr (by show _ = (23 : Int); omega)
      have y33 : ¬ (Y 33).toInt = 999 := fun w => hp ⟨y32, i_eq.mpr w⟩
      unfold BD
      rw [eatN_o _ _ _ _ (by omega) hn, eatN_o _ _ _ _ (by omega) hn, upd_a, if_neg (by omega), upd_a, if_pos rfl, upd_a, if_pos rfl, z33, a2]
      exact ⟨by decide, by omega, by omega⟩
    · rw [if_neg q]
      have q' : ¬ (24 : Int) ≤ (Z 32 + 1).toInt := fun w => q (i_le.mpr w)
      rw [z32, a1] at q'
      unfold BD
      rw [upd_a, if_pos rfl, upd_a, if_neg (by omega), z32, z33, a1]
      exact ⟨⟨by omega, by omega⟩, d3, d4⟩
  · intro i hi
    obtain ⟨c1, sn, e, -⟩ := hourS_lo M Y
    have z6 : brN (mN M) (upd (upd Y 34 (seedS (Y 34))) 31 c1) (6 + i) = Y (6 + i) := by
      unfold brN
      rw [if_neg (by omega), upd_a, if_neg (by omega), upd_a, if_neg (by omega)]
    rw [e]
    generalize brN (mN M) (upd (upd Y 34 (seedS (Y 34))) 31 c1) = Z at z6 ⊢
    obtain ⟨⟨n0, n1⟩, ⟨l0, l1⟩, -⟩ := b i hi
    have li := l i hi
    unfold hrS
    by_cases q : 24 ≤ Z 32 + 1
    · rw [if_pos q]
      unfold eatN
      rw [if_pos (by omega), show 6 + i - 6 = i by omega]
      have w6 : upd (upd Z 32 0) 33 (Z 33 + 1) (6 + i) = Y (6 + i) := by rw [upd_a, if_neg (by omega), upd_a, if_neg (by omega), z6]
      rw [w6]
      split
      · rw [i_sub (by omega) (by omega)]; omega
      · rw [i_sub (by omega) (by omega)]; omega
    · rw [if_neg q, upd_a, if_neg (by omega), z6]; exact li
theorem GY.fre {k : Nat} {M : MT} {Y : YT} (g : GY k M Y) (hn : mN M ≤ 6) (d : Nat) : GY k M (freN d Y) := g.o hn (fun j hj => freN_o _ _ _ (by omega))
theorem there_lt {M : MT} {Y : YT} {a : Int32} (hn : mN M ≤ 6) (h : thereS M Y a = true) : ix a < mN M := by
  unfold thereS at h
  simp only [Bool.and_eq_true] at h
  obtain ⟨i, hi, rfl⟩ := has_ix hn h.1
  rw [ix_n (by omega)]; exact hi
theorem GY.br {k : Nat} {M : MT} {Y : YT} {a b : Int32} (g : GY k M Y) (hn : mN M ≤ 6) (h : brP M Y a b) : GY k M (upd Y (24 + ix a) b) := by
  have := there_lt hn h.1
  exact g.o hn (fun j hj => by rw [upd_a, if_neg (by omega)])
theorem GY.buy {k : Nat} {M : MT} {Y : YT} {a b l : Int32} (p : Int32) (g : GY k M Y) (hk : k ≤ 1000) (cb : CB M) (hn : mN M ≤ 6) (h : buP M Y a b l) : GY (k + 1) M (buyY Y (ix a) (ix b) p l) := by
  obtain ⟨hq, ⟨l1, l2⟩, l3, -⟩ := h
  obtain ⟨i, j, hi, hj, rfl, rfl⟩ := two_ix hn hq
  have hij := two_ne (by omega) (by omega) hq
  obtain ⟨c, ec, c1, c9⟩ := cb
  rw [ix_n (show i < 2 ^ 31 by omega), ix_n (show j < 2 ^ 31 by omega)]
  rw [ix_n (show j < 2 ^ 31 by omega)] at l3
  have L1 : (1 : Int) ≤ l.toInt := i_le.mp l1
  have L2 : l.toInt ≤ (mCt M).toInt := i_le.mp l2
  rw [ec, nI_toInt (by omega)] at L2
  have L3 : l.toInt ≤ (Y (6 + j)).toInt := i_le.mp l3
  obtain ⟨b0, c0, d0, ld⟩ := g
  have v : ∀ x, ¬ x = 6 + i → ¬ x = 6 + j → ¬ x = i → ¬ x = j → buyY Y i j p l x = Y x := fun x h1 h2 h3 h4 => by
    unfold buyY
    rw [upd_a, if_neg h2, upd_a, if_neg h1, upd_a, if_neg h4, upd_a, if_neg h3]
  have vi : buyY Y i j p l (6 + i) = Y (6 + i) + l := by
    unfold buyY
    rw [upd_a, if_neg (by omega), upd_a, if_pos rfl]
  have vj : buyY Y i j p l (6 + j) = Y (6 + j) - l := by
    unfold buyY
    rw [upd_a, if_pos rfl]
  obtain ⟨-, ⟨i1, i2⟩, -⟩ := b0 i hi
  obtain ⟨-, ⟨j1, j2⟩, -⟩ := b0 j hj
  have li := ld i hi
  have lj := ld j hj
  have ai : (Y (6 + i) + l).toInt = (Y (6 + i)).toInt + l.toInt := i_add (by omega) (by omega)
  have aj : (Y (6 + j) - l).toInt = (Y (6 + j)).toInt - l.toInt := i_sub (by omega) (by omega)
  refine ⟨fun x hx => ?_, ?_, ?_, fun x hx => ?_⟩
  · obtain ⟨n0, l0, a0⟩ := b0 x hx
    rw [v (18 + x) (by omega) (by omega) (by omega) (by omega)]
    refine ⟨n0, ?_, a0⟩
    by_cases e1 : x = i
    · subst e1; rw [vi, ai]; omega
    · by_cases e2 : x = j
      · subst e2; rw [vj, aj]; omega
      · rw [v _ (by omega) (by omega) (by omega) (by omega)]; exact l0
  · unfold BC; rw [v _ (by omega) (by omega) (by omega) (by omega)]; exact c0
  · unfold BD; rw [v _ (by omega) (by omega) (by omega) (by omega), v _ (by omega) (by omega) (by omega) (by omega)]; exact d0
  · by_cases e1 : x = i
    · subst e1; rw [vi, ai]; omega
    · by_cases e2 : x = j
      · subst e2; rw [vj, aj]; omega
      · rw [v _ (by omega) (by omega) (by omega) (by omega)]; have := ld x hx; omega
theorem i_nI {n : Nat} (h : n < 2 ^ 31) : (nI n).toInt = (n : Int) := nI_toInt h
/-- a market just told is good -/
theorem GY.new {D : DR} (g : DG D) : GY 0 (mkS D) (nowS D) := by
  obtain ⟨g1, g6, g3, g4, g5, -, -, gv, ga, gb, gc, gd⟩ := g
  refine ⟨fun i hi => ?_, ⟨?_, ?_⟩, ?_, fun i hi => ?_⟩
  · have hi' : i < D.dn.length := hi
    obtain ⟨v0, v1, v2, v3, v4, v5⟩ := gv i hi'
    have e5 : mNd (mkS D) i = nI (D.dv i 5) := rfl
    rw [e5, now_l g6 hi', now_a g6 hi', i_nI (by omega), i_nI (by omega), i_nI (by omega)]
    omega
  · rw [now_0 g6 (by omega)]; decide
  · have e : mSn (mkS D) = nI D.n2 := rfl
    rw [e, i_nI (by omega)]; omega
  · unfold BD
    rw [now_0 g6 (by omega), now_0 g6 (by omega)]; decide
  · have hi' : i < D.dn.length := hi
    obtain ⟨v0, v1, v2, v3, v4, v5⟩ := gv i hi'
    rw [now_l g6 hi', i_nI (by omega)]; omega
abbrev SS : Type := MT × YT × Nat × (Nat → YT) × Nat × Nat × ET × (Nat → Option YT) × (Nat → Int32) × Nat × Nat × (Nat → Int32) × Int32 × Int32 × Int32 × Int32
abbrev SS.M (S : SS) : MT := S.1
abbrev SS.Y (S : SS) : YT := S.2.1
abbrev SS.u (S : SS) : Nat := S.2.2.1
abbrev SS.W (S : SS) : Nat → YT := S.2.2.2.1
abbrev SS.A (S : SS) : Nat := S.2.2.2.2.1
abbrev SS.U (S : SS) : Nat := S.2.2.2.2.2.1
abbrev SS.E (S : SS) : ET := S.2.2.2.2.2.2.1
abbrev SS.B (S : SS) : Nat → Option YT := S.2.2.2.2.2.2.2.1
abbrev SS.T (S : SS) : Nat → Int32 := S.2.2.2.2.2.2.2.2.1
abbrev SS.L (S : SS) : Nat := S.2.2.2.2.2.2.2.2.2.1
abbrev SS.n (S : SS) : Nat := S.2.2.2.2.2.2.2.2.2.2.1
abbrev SS.v (S : SS) : Nat → Int32 := S.2.2.2.2.2.2.2.2.2.2.2.1
abbrev SS.ft (S : SS) : Int32 := S.2.2.2.2.2.2.2.2.2.2.2.2.1
abbrev SS.pl (S : SS) : Int32 := S.2.2.2.2.2.2.2.2.2.2.2.2.2.1
abbrev SS.kd (S : SS) : Int32 := S.2.2.2.2.2.2.2.2.2.2.2.2.2.2.1
abbrev SS.un (S : SS) : Int32 := S.2.2.2.2.2.2.2.2.2.2.2.2.2.2.2
def GG (k : Nat) (S : SS) : Prop := GY k S.M S.Y ∧ (∀ i, i < S.A + S.U → GY k S.M (S.W i)) ∧ (∀ b, b < 3 → ∀ Z, S.B b = some Z → GY k S.M Z) ∧ CH S.M ∧ CB S.M ∧ SB S.M ∧ EW S.E ∧ TW S.T S.L ∧ mN S.M ≤ 6
theorem GG.s {k : Nat} {S : SS} (g : GG k S) : GG (k + 1) S := ⟨g.1.s, fun i hi => (g.2.1 i hi).s, fun b hb Z e => (g.2.2.1 b hb Z e).s, g.2.2.2⟩
/-- the class's rest: ears, boxes, tape, fault, market's others -/
def RsC (S : SS) (h : AH) : Prop := EH h S.E ∧ BH (mN S.M) h S.B ∧ TH h S.T S.L ∧ (hI h 1 10 = S.ft ∧ hI h 1 11 = S.pl) ∧ hR h 0 2 = some (23 - S.u) ∧ hI h S.u 10 = S.kd ∧ hI h (S.u + 9) 4 + hI h (S.u + 13) 4 = S.un
def LSC (S : SS) (h : AH) : Prop := LH h S.n S.v ∧ (hI h 366 7 = -1 ∨ ∃ Z, SV S.M Z h)
def IC (S : SS) (h : AH) : Prop := HX h S.M S.Y S.u S.W S.A S.U ∧ RsC S h ∧ LSC S h
def RsM (S : SS) (h : AH) : Prop := EM h S.E ∧ BM h S.B ∧ TM h S.T S.L ∧ (hI h 383 2 = S.ft ∧ hI h 383 3 = S.pl) ∧ hI h 383 42 = S.kd ∧ hI h 383 23 = S.un
def IM (S : SS) (h : AH) : Prop := MX h S.M S.Y S.W S.A S.U ∧ RsM S h ∧ LM h S.n S.v
/-! by cells alone -/
theorem EH.cg {E : ET} {h h1 : AH} (m : EH h E) (e : ∀ c k, (c = 366 ∧ (k = 10 ∨ k = 11)) ∨ (367 ≤ c ∧ c ≤ 371) → hI h1 c k = hI h c k) : EH h1 E := by
  obtain ⟨m1, m2, m3⟩ := m
  refine ⟨by rw [e _ _ (by omega)]; exact m1, by rw [e _ _ (by omega)]; exact m2, fun j hj => ?_⟩
  rw [e 367 _ (by omega), e 368 _ (by omega), e 369 _ (by omega), e 370 _ (by omega), e 371 _ (by omega)]
  exact m3 j hj
theorem BH.cg {n : Nat} {B : Nat → Option YT} {h h1 : AH} (m : BH n h B) (e : ∀ c k, 344 ≤ c ∧ c ≤ 365 → hI h1 c k = hI h c k) (r : ∀ k, hR h1 343 k = hR h 343 k) : BH n h1 B := fun b hb => by
  obtain ⟨m1, m2, m3⟩ := m b hb
  exact ⟨by rw [e _ _ (by omega)]; exact m1, by rw [r]; exact m2, fun Z z => (m3 Z z).cg (fun j k hj => e _ _ (by omega))⟩
theorem TH.cg {T : Nat → Int32} {L : Nat} {h h1 : AH} (m : TH h T L) (e : ∀ c k, (c = 1 ∧ k = 9) ∨ c = 2 → hI h1 c k = hI h c k) : TH h1 T L := ⟨by rw [e _ _ (by omega)]; exact m.1, fun k hk => by rw [e _ _ (by omega)]; exact m.2 k hk⟩
theorem LH.cg {n : Nat} {v : Nat → Int32} {h h1 : AH} (m : LH h n v) (e : ∀ c k, c = 380 ∨ c = 381 → hI h1 c k = hI h c k) : LH h1 n v := ⟨by rw [e _ _ (by omega)]; exact m.1, m.2.1, fun i hi => by rw [e _ _ (by omega)]; exact m.2.2 i hi⟩
theorem SVx.cg {M : MT} {h h1 : AH} (m : hI h 366 7 = -1 ∨ ∃ Z, SV M Z h) (e : ∀ c k, (c = 366 ∧ (k = 7 ∨ k = 8)) ∨ c = 373 → hI h1 c k = hI h c k) : hI h1 366 7 = -1 ∨ ∃ Z, SV M Z h1 := by
  rcases m with m | ⟨Z, m1, m2, m3⟩
  · exact Or.inl (by rw [e _ _ (by omega)]; exact m)
  · exact Or.inr ⟨Z, by rw [e _ _ (by omega)]; exact m1, by rw [e _ _ (by omega)]; exact m2, fun g i h1 h2 => by rw [e _ _ (by omega)]; exact m3 g i h1 h2⟩
theorem AKs.cg {n : Nat} {h h1 : AH} {Y : YT} {W : Nat → YT} {A U : Nat} (a : AKs n h Y W A U) (e : ∀ c k, 53 ≤ c ∧ c ≤ 341 → hI h1 c k = hI h c k) (d : ∀ k, hR h1 54 k = hR h 54 k) : AKs n h1 Y W A U := by
  obtain ⟨a1, a2, a3, r, r1, r2, r3, r4, r5⟩ := a
  have cg : ∀ i V, i < 41 → YR n h (55 + 7 * r i) V → YR n h1 (55 + 7 * r i) V := fun i V hi m => m.cg (fun j k hj => e _ _ (by have := (r1 i hi).1; omega))
  exact ⟨by rw [e _ _ (by omega)]; exact a1, by rw [e _ _ (by omega)]; exact a2, a3, r, fun i hi => ⟨(r1 i hi).1, by rw [d]; exact (r1 i hi).2⟩, r2, fun i hi => cg i _ (by omega) (r3 i hi), fun i h1 h2 => cg (i + 1) _ (by omega) (r4 i h1 h2), fun q => cg A _ (by omega) (r5 q)⟩
theorem HS.cg {M : MT} {Y : YT} {u : Nat} {h h1 : AH} (s : HS h M Y u) (e : ∀ c k, (u ≤ c ∧ c ≤ u + 15 ∧ ¬ c = u + 12) ∨ (37 ≤ c ∧ c ≤ 43) → hI h1 c k = hI h c k) (d : ∀ k, hR h1 0 k = hR h 0 k) : HS h1 M Y u := ⟨s.1, by rw [d]; exact s.2.1, s.2.2.1.cg (fun j k hj hn => e _ _ (by omega)), s.2.2.2.cg (fun j k hj => e _ _ (by omega))⟩
theorem RsC.cg {S : SS} {h h1 : AH} (hu : S.u = 3 ∨ S.u = 20) (m : RsC S h) (e : ∀ c k, (c = 1 ∧ 9 ≤ k ∧ k ≤ 11) ∨ c = 2 ∨ (c = S.u ∧ k = 10) ∨ ((c = S.u + 9 ∨ c = S.u + 13) ∧ k = 4) ∨ (344 ≤ c ∧ c ≤ 365) ∨ (c = 366 ∧ (k = 10 ∨ k = 11)) ∨ (367 ≤ c ∧ c ≤ 371) → hI h1 c k = hI h c k) (d : ∀ c k, c = 0 ∨ c = 343 → hR h1 c k = hR h c k) : RsC S h1 := by
  obtain ⟨m1, m2, m3, ⟨m4, m5⟩, m6, m7, m8⟩ := m
  exact ⟨m1.cg (fun c k hc => e _ _ (by omega)), m2.cg (fun c k hc => e _ _ (by omega)) (fun k => d _ _ (by omega)), m3.cg (fun c k hc => e _ _ (by omega)), ⟨by rw [e _ _ (by omega)]; exact m4, by rw [e _ _ (by omega)]; exact m5⟩, by rw [d _ _ (by omega)]; exact m6, by rw [e _ _ (by omega)]; exact m7, by rw [e _ _ (by omega), e _ _ (by omega)]; exact m8⟩
theorem IC.dn {S : SS} {h h1 : AH} (i : IC S h) (e : ∀ c k, c < 383 → hI h1 c k = hI h c k) (d : ∀ c k, c < 383 → hR h1 c k = hR h c k) : IC S h1 := by
  obtain ⟨⟨s, a⟩, r, l, v⟩ := i
  have hu := s.1
  exact ⟨⟨s.cg (fun c k hc => e _ _ (by omega)) (fun k => d _ _ (by omega)), a.cg (fun c k hc => e _ _ (by omega)) (fun k => d _ _ (by omega))⟩, r.cg hu (fun c k hc => e _ _ (by omega)) (fun c k hc => d _ _ (by omega)), l.cg (fun c k hc => e _ _ (by omega)), SVx.cg v (fun c k hc => e _ _ (by omega))⟩
theorem MM.cg {h h1 : AH} {M : MT} (m : MM h M) (e : ∀ c k, (c = 383 ∧ 43 ≤ k ∧ k ≤ 46) ∨ (389 ≤ c ∧ c ≤ 391) ∨ (402 ≤ c ∧ c ≤ 404) → hI h1 c k = hI h c k) : MM h1 M := by
  obtain ⟨⟨m1, m2, m3⟩, ⟨⟨m4, m4'⟩, m5⟩, ⟨⟨m6, m6'⟩, m7⟩, m8, m9, m10⟩ := m
  exact ⟨⟨by rw [e _ _ (by omega)]; exact m1, m2, fun i hi => by rw [e _ _ (by omega), e _ _ (by omega), e _ _ (by omega)]; exact m3 i hi⟩, ⟨⟨by rw [e _ _ (by omega)]; exact m4, fun k hk => by rw [e _ _ (by omega), e _ _ (by omega)]; exact m4' k hk⟩, m5⟩, ⟨⟨by rw [e _ _ (by omega)]; exact m6, fun k hk => by rw [e _ _ (by omega), e _ _ (by omega)]; exact m6' k hk⟩, m7⟩, by rw [e _ _ (by omega)]; exact m8, by rw [e _ _ (by omega)]; exact m9, by rw [e _ _ (by omega)]; exact m10⟩
theorem MX.cg {h h1 : AH} {M : MT} {Y : YT} {W : Nat → YT} {A U : Nat} (x : MX h M Y W A U) (e : ∀ c k, (c = 383 ∧ ((43 ≤ k ∧ k ≤ 46) ∨ k = 53 ∨ k = 54)) ∨ (389 ≤ c ∧ c ≤ 391) ∨ (402 ≤ c ∧ c ≤ 405) ∨ c = 407 → hI h1 c k = hI h c k) : MX h1 M Y W A U := by
  obtain ⟨⟨m, y⟩, ⟨a1, a2, a3⟩, a4⟩ := x
  exact ⟨⟨m.cg (fun c k hc => e _ _ (by omega)), fun k hk => by rw [e _ _ (by omega)]; exact y k hk⟩, ⟨by rw [e _ _ (by omega)]; exact a1, by rw [e _ _ (by omega)]; exact a2, fun i k hi hk => by rw [e _ _ (by omega)]; exact a3 i k hi hk⟩, a4⟩
theorem EM.cg {E : ET} {h h1 : AH} (m : EM h E) (e : ∀ c k, (c = 383 ∧ (k = 68 ∨ k = 69)) ∨ (413 ≤ c ∧ c ≤ 417) → hI h1 c k = hI h c k) : EM h1 E := by
  obtain ⟨m1, m2, m3⟩ := m
  refine ⟨by rw [e _ _ (by omega)]; exact m1, by rw [e _ _ (by omega)]; exact m2, fun j hj => ?_⟩
  rw [e 413 _ (by omega), e 414 _ (by omega), e 415 _ (by omega), e 416 _ (by omega), e 417 _ (by omega)]
  exact m3 j hj
theorem BM.cg {B : Nat → Option YT} {h h1 : AH} (m : BM h B) (e : ∀ c k, 419 ≤ c ∧ c ≤ 420 → hI h1 c k = hI h c k) : BM h1 B := fun b hb => by
  obtain ⟨m1, m2⟩ := m b hb
  exact ⟨by rw [e _ _ (by omega)]; exact m1, fun Z z k hk => by rw [e _ _ (by omega)]; exact m2 Z z k hk⟩
theorem TM.cg {T : Nat → Int32} {L : Nat} {h h1 : AH} (m : TM h T L) (e : ∀ c k, (c = 383 ∧ k = 1) ∨ c = 384 → hI h1 c k = hI h c k) : TM h1 T L := ⟨by rw [e _ _ (by omega)]; exact m.1, fun k hk => by rw [e _ _ (by omega)]; exact m.2 k hk⟩
theorem LM.cg {n : Nat} {v : Nat → Int32} {h h1 : AH} (m : LM h n v) (e : ∀ c k, (c = 383 ∧ k = 57) ∨ c = 409 → hI h1 c k = hI h c k) : LM h1 n v := ⟨by rw [e _ _ (by omega)]; exact m.1, m.2.1, fun i hi => by rw [e _ _ (by omega)]; exact m.2.2 i hi⟩
theorem RsM.cg {S : SS} {h h1 : AH} (m : RsM S h) (e : ∀ c k, (c = 383 ∧ (k = 1 ∨ k = 2 ∨ k = 3 ∨ k = 23 ∨ k = 42 ∨ k = 68 ∨ k = 69)) ∨ c = 384 ∨ (413 ≤ c ∧ c ≤ 417) ∨ (419 ≤ c ∧ c ≤ 420) → hI h1 c k = hI h c k) : RsM S h1 := by
  obtain ⟨m1, m2, m3, ⟨m4, m5⟩, m6, m7⟩ := m
  exact ⟨m1.cg (fun c k hc => e _ _ (by omega)), m2.cg (fun c k hc => e _ _ (by omega)), m3.cg (fun c k hc => e _ _ (by omega)), ⟨by rw [e _ _ (by omega)]; exact m4, by rw [e _ _ (by omega)]; exact m5⟩, by rw [e _ _ (by omega)]; exact m6, by rw [e _ _ (by omega)]; exact m7⟩
theorem IM.up {S : SS} {h h1 : AH} (i : IM S h) (e : ∀ c k, 383 ≤ c → hI h1 c k = hI h c k) : IM S h1 := ⟨i.1.cg (fun c k hc => e _ _ (by omega)), i.2.1.cg (fun c k hc => e _ _ (by omega)), i.2.2.cg (fun c k hc => e _ _ (by omega))⟩
