/-! ===== hour, buy, breathe, free: the class's ===== -/
theorem FC.cg {h h1 : AH} {t : Nat} {c : CT} (m : FC h t c) (g : ∀ j k, j < 3 → hI h1 (t + j) k = hI h (t + j) k) : FC h1 t c := by
  refine ⟨?_, fun k hk => ?_⟩
  · rw [show hI h1 t 3 = hI h t 3 from g 0 3 (by omega)]; exact m.1
  · rw [g 1 k (by omega), g 2 k (by omega)]; exact m.2 k hk
theorem MK.cg {h h1 : AH} {t : Nat} {M : MT} (m : MK h t M) (g : ∀ j k, j < 16 → ¬ j = 12 → hI h1 (t + j) k = hI h (t + j) k) : MK h1 t M := by
  have g0 : ∀ k, hI h1 t k = hI h t k := fun k => g 0 k (by omega) (by omega)
  obtain ⟨⟨m1, m2, m3⟩, ⟨m4, m5⟩, ⟨m6, m7⟩, m8, m9, m10⟩ := m
  refine ⟨⟨by rw [g0]; exact m1, m2, fun i hi => ?_⟩, ⟨m4.cg (fun j k hj => ?_), m5⟩, ⟨m6.cg (fun j k hj => ?_), m7⟩, by rw [g0]; exact m8, by rw [g0]; exact m9, by rw [g0]; exact m10⟩
  · rw [g 3 _ (by omega) (by omega), g 4 _ (by omega) (by omega), g 8 _ (by omega) (by omega)]
    exact m3 i hi
  · rw [Nat.add_assoc]; exact g (9 + j) k (by omega) (by omega)
  · rw [Nat.add_assoc]; exact g (13 + j) k (by omega) (by omega)
theorem HS.mk {M : MT} {Y Z : YT} {u : Nat} {h h1 : AH} {C : Nat → Nat → Prop} {R : Nat → Prop} (s : HS h M Y u) (f : FrP C R h h1) (a : ∀ c k, C c k → c = u + 12 ∨ c = u + 16 ∨ 37 ≤ c) (b : ¬ R 0) (y : YR (mN M) h1 37 Z) : HS h1 M Z u := by
  obtain ⟨hu, hr, hM, hY⟩ := s
  refine ⟨hu, by rw [f.2.2.2 0 b]; exact hr, hM.cg (fun j k hj hn => f.2.1 _ _ (fun q => by have := a _ _ q; omega)), y⟩
theorem HS.p {M : MT} {Y : YT} {u : Nat} {h h1 : AH} {C : Nat → Nat → Prop} {R : Nat → Prop} (s : HS h M Y u) (f : FrP C R h h1) (a : ∀ c k, C c k → c = u + 12 ∨ c = u + 16 ∨ 44 ≤ c) (b : ¬ R 0) : HS h1 M Y u := by
  have hu := s.1
  exact s.mk f (fun c k q => by have := a c k q; omega) b (s.2.2.2.p f (fun c k q => by have := a c k q; omega))
theorem AKs.p {n : Nat} {h h1 : AH} {Y : YT} {W : Nat → YT} {A U : Nat} {C : Nat → Nat → Prop} {R : Nat → Prop} (a : AKs n h Y W A U) (f : FrP C R h h1) (b : ∀ c k, C c k → c < 53 ∨ 341 < c) (d : ¬ R 54) : AKs n h1 Y W A U := by
  obtain ⟨a1, a2, a3, r, r1, r2, r3, r4, r5⟩ := a
  have v : ∀ k, hI h1 53 k = hI h 53 k := fun k => f.2.1 _ _ (fun q => by have := b _ _ q; omega)
  have cg : ∀ i V, i < 41 → YR n h (55 + 7 * r i) V → YR n h1 (55 + 7 * r i) V := fun i V hi m => m.cg (fun j k hj => f.2.1 _ _ (fun q => by
    have := b _ _ q
    have := (r1 i hi).1
    omega))
  exact ⟨by rw [v]; exact a1, by rw [v]; exact a2, a3, r, fun i hi => ⟨(r1 i hi).1, by rw [f.2.2.2 54 d]; exact (r1 i hi).2⟩, r2, fun i hi => cg i _ (by omega) (r3 i hi), fun i h1 h2 => cg (i + 1) _ (by omega) (r4 i h1 h2), fun q => cg A _ (by omega) (r5 q)⟩
theorem AKs.y {n : Nat} {h : AH} {Y Z : YT} {W : Nat → YT} {A : Nat} (a : AKs n h Y W A 0) : AKs n h Z W A 0 := by
  obtain ⟨a1, a2, a3, r, r1, r2, r3, r4, r5⟩ := a
  exact ⟨a1, a2, a3, r, r1, r2, r3, r4, fun q => by omega⟩
abbrev haC (u : Nat) : Nat → Nat → Prop := fun c _ => (37 ≤ c ∧ c ≤ 43) ∨ (51 ≤ c ∧ c ≤ 341) ∨ c = u + 12 ∨ c = u + 16
abbrev HX (h : AH) (M : MT) (Y : YT) (u : Nat) (W : Nat → YT) (A U : Nat) : Prop := HS h M Y u ∧ AKs (mN M) h Y W A U
theorem HX.q {M : MT} {Y : YT} {u : Nat} {W : Nat → YT} {A U : Nat} {h h1 : AH} (x : HX h M Y u W A U) (f : Fr (scU u) [(51, 1)] h h1) : HX h1 M Y u W A U := by
  have hu := x.1.1
  refine ⟨x.1.f f (by simp) (by simp), x.2.p f.p' (fun c k q => ?_) (fun q => q)⟩
  simp only [scU, List.mem_cons, List.not_mem_nil, or_false, Prod.mk.injEq] at q
  omega
theorem haC_q {u : Nat} {h h1 : AH} (f : Fr (scU u) [(51, 1)] h h1) : FrP (haC u) acR h h1 := f.p'.mn (fun c k q => by
  simp only [scU, List.mem_cons, List.not_mem_nil, or_false, Prod.mk.injEq] at q
  show (37 ≤ c ∧ c ≤ 43) ∨ (51 ≤ c ∧ c ≤ 341) ∨ c = u + 12 ∨ c = u + 16
  omega) (fun c q => q.elim)
theorem HX.keep {M : MT} {Y : YT} {u : Nat} {W : Nat → YT} {A U : Nat} {h : AH} (x : HX h M Y u W A U) : ∃ h1, f_Acts_keep 37 h = some h1 ∧ FrP (haC u) acR h h1 ∧ FrP acC acR h h1 ∧ HS h1 M Y u ∧ ∀ Z, AKs (mN M) h1 Z (kpW W A Y) (kpA A) 0 := by
  obtain ⟨s, a⟩ := x
  have hu := s.1
  obtain ⟨h1, e1, f1, a1⟩ := keep_ok s.2.2.1.1.2.1 (by have := a.2.2.1; omega) a s.2.2.2
  exact ⟨h1, e1, f1.mn (fun c k q => by
    show (37 ≤ c ∧ c ≤ 43) ∨ (51 ≤ c ∧ c ≤ 341) ∨ c = u + 12 ∨ c = u + 16
    have q' : 53 ≤ c ∧ c ≤ 341 := q
    omega) (fun c q => q), f1, s.p f1 (fun c k q => by
    have q' : 53 ≤ c ∧ c ≤ 341 := q
    omega) (by decide), a1⟩
/-- bounds of the hour and the day -/
def BD (Y : YT) : Prop := ((0 ≤ (Y 32).toInt) ∧ (Y 32).toInt ≤ 23) ∧ (0 ≤ (Y 33).toInt) ∧ (Y 33).toInt ≤ 999
def hrP (Y : YT) : Prop := ¬ (Y 32 = 23 ∧ Y 33 = 999)
theorem H_hour_ok {M : MT} {Y : YT} {u : Nat} {W : Nat → YT} {A U : Nat} {h : AH} (x : HX h M Y u W A U) (b0 : BN M Y) (c0 : BC M Y) (d0 : BD Y) : ∃ h1 r, f_H_hour h = some (r, h1) ∧ FrP (haC u) acR h h1 ∧ ((hrP Y ∧ r = heatS M (hourS M Y) ∧ HX h1 M (hourS M Y) u (kpW W A Y) (kpA A) 0) ∨ (¬ hrP Y ∧ r = -1 ∧ HX h1 M Y u W A U)) := by
  have hu := x.1.1
  have y7 : hI h 37 7 = Y 32 := x.1.2.2.2.2.2.1
  have y8 : hI h 37 8 = Y 33 := x.1.2.2.2.2.2.2.1
  have go : ∃ h1, f_H_hour_b27 h = some (heatS M (hourS M Y), h1) ∧ FrP (haC u) acR h h1 ∧ HX h1 M (hourS M Y) u (kpW W A Y) (kpA A) 0 := by
    obtain ⟨h1, e1, f1, -, s1, a1⟩ := x.keep
    obtain ⟨h2, e2, f2, y2⟩ := K_hour_ok (t := 37) rfl (by omega) s1.2.2.1 b0 c0 s1.2.2.2
    have p2 : FrP (haC u) acR h1 h2 := f2.p'.mn (fun c k q => by
      simp only [scP, plP, List.mem_cons, List.not_mem_nil, or_false, Prod.mk.injEq] at q
      show (37 ≤ c ∧ c ≤ 43) ∨ (51 ≤ c ∧ c ≤ 341) ∨ c = u + 12 ∨ c = u + 16
      omega) (fun c q => q.elim)
    have s2 : HS h2 M (hourS M Y) u := s1.mk f2.p' (fun c k q => by
      simp only [scP, plP, List.mem_cons, List.not_mem_nil, or_false, Prod.mk.injEq] at q
      omega) (fun q => q) y2
    have a2 : AKs (mN M) h2 (hourS M Y) (kpW W A Y) (kpA A) 0 := (a1 _).p f2.p' (fun c k q => by
      simp only [scP, plP, List.mem_cons, List.not_mem_nil, or_false, Prod.mk.injEq] at q
      omega) (fun q => q)
    obtain ⟨h3, e3, f3⟩ := K_warm_ok s2.2.2.1 s2.2.2.2
    have f3' : Fr (scU u) [(51, 1)] h2 h3 := f3.mn (by simp) (by simp)
    rw [f_H_hour_b27, e1, bV_s, gd_ok _ s1.2.1 (kd_u s1.1), e2, bV_s, gd_ok _ s2.2.1 (kd_u s2.1), e3, bI_s]
    exact ⟨h3, rfl, (f1.t p2).t (haC_q f3'), HX.q ⟨s2, a2⟩ f3'⟩
  have e23 : (23 : Int32).toInt = 23 := by decide
  have e999 : (999 : Int32).toInt = 999 := by decide
  rw [f_H_hour, y7, y8]
  by_cases h1 : Y 32 < 23
  · rw [if_pos h1]
    obtain ⟨h2, e2, f2, x2⟩ := go
    refine ⟨h2, _, e2, f2, Or.inl ⟨fun q => ?_, rfl, x2⟩⟩
    rw [q.1] at h1
    exact absurd h1 (by decide)
  · rw [if_neg h1]
    by_cases h2 : Y 33 < 999
    · rw [if_pos h2]
      obtain ⟨h2', e2, f2, x2⟩ := go
      refine ⟨h2', _, e2, f2, Or.inl ⟨fun q => ?_, rfl, x2⟩⟩
      rw [q.2] at h2
      exact absurd h2 (by decide)
    · rw [if_neg h2]
      refine ⟨h, _, rfl, FrP.rf _ _ _, Or.inr ⟨fun q => q ⟨?_, ?_⟩, rfl, x⟩⟩
      · have n1 : ¬ (Y 32).toInt < 23 := fun z => h1 (i_lt.mpr (by rw [e23]; exact z))
        have := d0.1.2
        rw [i_eq, e23]; omega
      · have n1 : ¬ (Y 33).toInt < 999 := fun z => h2 (i_lt.mpr (by rw [e999]; exact z))
        have := d0.2.2
        rw [i_eq, e999]; omega
/-! breathe -/
def brP (M : MT) (Y : YT) (a b : Int32) : Prop := thereS M Y a = true ∧ (-5 ≤ b ∧ b ≤ 5) ∧ ¬ Y (24 + ix a) = b
theorem H_breathe_ok {M : MT} {Y : YT} {u : Nat} {W : Nat → YT} {A U : Nat} {h : AH} (x : HX h M Y u W A U) (a b : Int32) : ∃ h1 r, f_H_breathe a b h = some (r, h1) ∧ FrP (haC u) acR h h1 ∧ ((brP M Y a b ∧ r = Y (24 + ix a) ∧ HX h1 M (upd Y (24 + ix a) b) u (kpW W A Y) (kpA A) 0) ∨ (¬ brP M Y a b ∧ r = -100 ∧ HX h1 M Y u W A U)) := by
  have s := x.1
  have hu := s.1
  have h6 := s.2.2.1.1.2.1
  have no : ∀ q : ¬ brP M Y a b, ∃ h1 r, some ((-100 : Int32), h) = some (r, h1) ∧ FrP (haC u) acR h h1 ∧ ((brP M Y a b ∧ r = Y (24 + ix a) ∧ HX h1 M (upd Y (24 + ix a) b) u (kpW W A Y) (kpA A) 0) ∨ (¬ brP M Y a b ∧ r = -100 ∧ HX h1 M Y u W A U)) := fun q => ⟨h, _, rfl, FrP.rf _ _ _, Or.inr ⟨q, rfl, x⟩⟩
  rw [f_H_breathe, gd_ok _ s.2.1 (kd_u s.1), K_has_ok s.2.2.1, bI_s]
  by_cases hq : hasS (mN M) a = true
  · obtain ⟨i, hi, rfl⟩ := has_ix h6 hq
    have g : ∀ K : Option (Int32 × AH), gx (nI i) 6 K = K := fun K => gx_n K (by omega) (by omega)
    have xi : ix (nI i) = i := ix_n (by omega)
    have y6 : hI h 43 i = (if freeS Y i = true then 1 else 0) := (s.2.2.2.1 i hi).2.2.2.2.2
    have y5 : hI h 42 i = Y (24 + i) := (s.2.2.2.1 i hi).2.2.2.2.1
    rw [if_pos hq, if_neg (by decide)]
    simp only [g]
    rw [xi] at no ⊢
    rw [y6]
    by_cases hf : freeS Y i = true
    · rw [if_pos hf, if_pos (by decide)]
      exact no (fun q => by have := q.1; unfold thereS at this; rw [xi, hf] at this; simp at this)
    · rw [if_neg hf, if_neg (by decide)]
      have ht : thereS M Y (nI i) = true := by unfold thereS; rw [xi, hq]; simp [hf]
      by_cases h1 : b < -5
      · rw [if_pos h1]
        exact no (fun q => Int32.not_le.mpr h1 q.2.1.1)
      · rw [if_neg h1]
        by_cases h2 : 5 < b
        · rw [if_pos h2]
          exact no (fun q => Int32.not_le.mpr h2 q.2.1.2)
        · rw [if_neg h2, y5]
          by_cases h3 : b = Y (24 + i)
          · rw [if_neg (fun q => q h3)]
            exact no (fun q => q.2.2 (by rw [xi]; exact h3.symm))
          · rw [if_pos h3]
            obtain ⟨h4, e4, f4, f4', s4, a4⟩ := x.keep
            have y5' : hI h4 42 i = Y (24 + i) := (s4.2.2.2.1 i hi).2.2.2.2.1
            rw [e4, bV_s, lt_e, lt_e, y5']
            have f5 : FrP (haC u) acR h4 (sI h4 42 i b) := (FrP.rf _ _ _).s (by show _ ∨ _; omega) _
            have f5' : FrP (fun c _ => c = 42) (fun _ => False) h4 (sI h4 42 i b) := FrP.s (C := fun c _ => c = 42) (FrP.rf _ _ _) (c := 42) (k := i) rfl _
            refine ⟨_, _, rfl, f4.t f5, Or.inl ⟨⟨ht, ⟨Int32.not_lt.mp h1, Int32.not_lt.mp h2⟩, by rw [xi]; exact fun q => h3 q.symm⟩, rfl, s4.mk f5' (fun c k q => by have q' : c = 42 := q; omega) (fun q => q) (s4.2.2.2.bt h6 (show i < 6 by omega) b), (a4 _).p f5' (fun c k q => by have q' : c = 42 := q; omega) (fun q => q)⟩⟩
  · rw [if_neg hq, if_pos rfl]
    exact no (fun q => hq (by have := q.1; unfold thereS at this; simp only [Bool.and_eq_true] at this; exact this.1))
/-! free -/
theorem H_free_ok {M : MT} {Y : YT} {u : Nat} {W : Nat → YT} {A U : Nat} {h : AH} (x : HX h M Y u W A U) (a : Int32) : ∃ h1 r, f_H_free a h = some (r, h1) ∧ FrP (haC u) acR h h1 ∧ ((thereS M Y a = true ∧ r = chirpS M Y (ix a) ∧ HX h1 M (freN (ix a) Y) u (kpW W A Y) (kpA A) 0) ∨ (¬ thereS M Y a = true ∧ r = -1 ∧ HX h1 M Y u W A U)) := by
  have s := x.1
  have hu := s.1
  have h6 := s.2.2.1.1.2.1
  have no : ∀ q : ¬ thereS M Y a = true, ∃ h1 r, some ((-1 : Int32), h) = some (r, h1) ∧ FrP (haC u) acR h h1 ∧ ((thereS M Y a = true ∧ r = chirpS M Y (ix a) ∧ HX h1 M (freN (ix a) Y) u (kpW W A Y) (kpA A) 0) ∨ (¬ thereS M Y a = true ∧ r = -1 ∧ HX h1 M Y u W A U)) := fun q => ⟨h, _, rfl, FrP.rf _ _ _, Or.inr ⟨q, rfl, x⟩⟩
  rw [f_H_free, gd_ok _ s.2.1 (kd_u s.1), K_has_ok s.2.2.1, bI_s]
  by_cases hq : hasS (mN M) a = true
  · obtain ⟨i, hi, rfl⟩ := has_ix h6 hq
    have g : ∀ K : Option (Int32 × AH), gx (nI i) 6 K = K := fun K => gx_n K (by omega) (by omega)
    have xi : ix (nI i) = i := ix_n (by omega)
    have y6 : hI h 43 i = (if freeS Y i = true then 1 else 0) := (s.2.2.2.1 i hi).2.2.2.2.2
    rw [if_pos hq, if_neg (by decide)]
    simp only [g]
    rw [xi] at no ⊢
    rw [y6]
    by_cases hf : freeS Y i = true
    · rw [if_pos hf, if_neg (by decide)]
      exact no (fun q => by have := q; unfold thereS at this; rw [xi, hf] at this; simp at this)
    · rw [if_neg hf, if_pos rfl, gd_ok _ s.2.1 (kd_u s.1)]
      have ht : thereS M Y (nI i) = true := by unfold thereS; rw [xi, hq]; simp [hf]
      obtain ⟨h1, e1, f1, s1, t1⟩ := HT.tn s
      obtain ⟨h4, e4, f4, f4', s4, a4⟩ := (x.q f1).keep
      have f5 : FrP (haC u) acR h4 (sI h4 43 i 1) := (FrP.rf _ _ _).s (by show _ ∨ _; omega) _
      have f5' : FrP (fun c _ => c = 43) (fun _ => False) h4 (sI h4 43 i 1) := FrP.s (C := fun c _ => c = 43) (FrP.rf _ _ _) (c := 43) (k := i) rfl _
      have v52 : hI (sI h4 43 i 1) 52 i = chirpS M Y i := by
        rw [hI_sI_c _ _ _ _ _ (by decide), f4'.2.1 52 i (by show ¬ (53 ≤ 52 ∧ _); omega)]
        exact t1.2 i hi
      rw [e1, bV_s, e4, bV_s, lt_e, v52]
      exact ⟨_, _, rfl, ((haC_q f1).t f4).t f5, Or.inl ⟨ht, rfl, s4.mk f5' (fun c k q => by have q' : c = 43 := q; omega) (fun q => q) (s4.2.2.2.fre h6 (show i < 6 by omega)), (a4 _).p f5' (fun c k q => by have q' : c = 43 := q; omega) (fun q => q)⟩⟩
  · rw [if_neg hq, if_pos rfl]
    exact no (fun q => hq (by have := q; unfold thereS at this; simp only [Bool.and_eq_true] at this; exact this.1))
/-! buy -/
def buyY (Y : YT) (i j : Nat) (p L : Int32) : YT := upd (upd (upd (upd Y i (Y i - p)) j (Y j + p)) (6 + i) (Y (6 + i) + L)) (6 + j) (Y (6 + j) - L)
def buP (M : MT) (Y : YT) (a b L : Int32) : Prop := twoS (mN M) a b = true ∧ (1 ≤ L ∧ L ≤ mCt M) ∧ L ≤ Y (6 + ix b) ∧ L * priceS M Y (ix a) (ix b) ≤ Y (ix a)
theorem YR.gd {n : Nat} {h : AH} {t : Nat} {Y : YT} (m : YR n h t Y) (hn : n ≤ 6) {d : Nat} (hd : d < 6) (v : Int32) : YR n (sI h (t + 1) d v) t (upd Y d v) := by
  have fe : ∀ i, freeS (upd Y d v) i = freeS Y i := fun i => by unfold freeS; rw [upd_a, if_neg (by omega)]
  refine ⟨fun i hi => ?_, ?_⟩
  · obtain ⟨y1, y2, y3, y4, y5, y6⟩ := m.1 i hi
    rw [hI_sI_c _ _ _ _ (t + 2) (by omega), hI_sI_c _ _ _ _ (t + 3) (by omega), hI_sI_c _ _ _ _ (t + 4) (by omega), hI_sI_c _ _ _ _ (t + 5) (by omega), hI_sI_c _ _ _ _ (t + 6) (by omega), fe]
    simp only [upd_a]
    rw [if_neg (show ¬ 6 + i = d by omega), if_neg (show ¬ 12 + i = d by omega), if_neg (show ¬ 18 + i = d by omega), if_neg (show ¬ 24 + i = d by omega)]
    refine ⟨?_, y2, y3, y4, y5, y6⟩
    rw [hI_sI]
    by_cases e : i = d
    · subst e; rw [if_pos ⟨rfl, rfl⟩, if_pos rfl]
    · rw [if_neg (fun q => e q.2), if_neg e, y1]
  · rw [hI_sI_c _ _ _ _ t (by omega), upd_a, if_neg (by omega), upd_a, if_neg (by omega), upd_a, if_neg (by omega), upd_a, if_neg (by omega)]
    exact m.2
theorem YR.ld {n : Nat} {h : AH} {t : Nat} {Y : YT} (m : YR n h t Y) (hn : n ≤ 6) {d : Nat} (hd : d < 6) (v : Int32) : YR n (sI h (t + 2) d v) t (upd Y (6 + d) v) := by
  have fe : ∀ i, freeS (upd Y (6 + d) v) i = freeS Y i := fun i => by unfold freeS; rw [upd_a, if_neg (by omega)]
  refine ⟨fun i hi => ?_, ?_⟩
  · obtain ⟨y1, y2, y3, y4, y5, y6⟩ := m.1 i hi
    rw [hI_sI_c _ _ _ _ (t + 1) (by omega), hI_sI_c _ _ _ _ (t + 3) (by omega), hI_sI_c _ _ _ _ (t + 4) (by omega), hI_sI_c _ _ _ _ (t + 5) (by omega), hI_sI_c _ _ _ _ (t + 6) (by omega), fe]
    simp only [upd_a]
    rw [if_neg (show ¬ i = 6 + d by omega), if_neg (show ¬ 12 + i = 6 + d by omega), if_neg (show ¬ 18 + i = 6 + d by omega), if_neg (show ¬ 24 + i = 6 + d by omega)]
    refine ⟨y1, ?_, y3, y4, y5, y6⟩
    rw [hI_sI]
    by_cases e : i = d
    · subst e; rw [if_pos ⟨rfl, rfl⟩, if_pos rfl]
    · rw [if_neg (fun q => e q.2), if_neg (by omega), y2]
  · rw [hI_sI_c _ _ _ _ t (by omega), upd_a, if_neg (by omega), upd_a, if_neg (by omega), upd_a, if_neg (by omega), upd_a, if_neg (by omega)]
    exact m.2
theorem H_buy_ok {M : MT} {Y : YT} {u : Nat} {W : Nat → YT} {A U : Nat} {h : AH} (x : HX h M Y u W A U) (a b L : Int32) : ∃ h1 r, f_H_buy a b L h = some (r, h1) ∧ FrP (haC u) acR h h1 ∧ ((buP M Y a b L ∧ r = L * priceS M Y (ix a) (ix b) ∧ HX h1 M (buyY Y (ix a) (ix b) (L * priceS M Y (ix a) (ix b)) L) u (kpW W A Y) (kpA A) 0) ∨ (¬ buP M Y a b L ∧ r = -1 ∧ HX h1 M Y u W A U)) := by
  have s := x.1
  have hu := s.1
  have h6 := s.2.2.1.1.2.1
  have no : ∀ (hh : AH) (ff : FrP (haC u) acR h hh) (xx : HX hh M Y u W A U) (q : ¬ buP M Y a b L), ∃ h1 r, some ((-1 : Int32), hh) = some (r, h1) ∧ FrP (haC u) acR h h1 ∧ ((buP M Y a b L ∧ r = L * priceS M Y (ix a) (ix b) ∧ HX h1 M (buyY Y (ix a) (ix b) (L * priceS M Y (ix a) (ix b)) L) u (kpW W A Y) (kpA A) 0) ∨ (¬ buP M Y a b L ∧ r = -1 ∧ HX h1 M Y u W A U)) := fun hh ff xx q => ⟨hh, _, rfl, ff, Or.inr ⟨q, rfl, xx⟩⟩
  have no0 := no h (FrP.rf _ _ _) x
  rw [f_H_buy, H_areTwo_ok s, bI_s]
  by_cases hq : twoS (mN M) a b = true
  · obtain ⟨i, j, hi, hj, rfl, rfl⟩ := two_ix h6 hq
    have hij := two_ne (by omega) (by omega) hq
    have gi : ∀ K : Option (Int32 × AH), gx (nI i) 6 K = K := fun K => gx_n K (by omega) (by omega)
    have gj : ∀ K : Option (Int32 × AH), gx (nI j) 6 K = K := fun K => gx_n K (by omega) (by omega)
    have xi : ix (nI i) = i := ix_n (by omega)
    have xj : ix (nI j) = j := ix_n (by omega)
    rw [if_pos hq, if_neg (by decide)]
    simp only [gi, gj]
    rw [xi, xj] at no0 no ⊢
    by_cases h1 : L < 1
    · rw [if_pos h1]
      exact no0 (fun q => Int32.not_le.mpr h1 q.2.1.1)
    · rw [if_neg h1, gd_ok _ s.2.1 (kd_u s.1), s.2.2.1.2.2.2.2.2]
      by_cases h2 : mCt M < L
      · rw [if_pos h2]
        exact no0 (fun q => Int32.not_le.mpr h2 q.2.1.2)
      · rw [if_neg h2, show hI h 39 j = Y (6 + j) from (s.2.2.2.1 j hj).2.1]
        by_cases h3 : L ≤ Y (6 + j)
        · obtain ⟨h4, e4, f4, s4, t4⟩ := HT.tn s
          have x4 := x.q f4
          rw [if_pos h3, gd_ok _ s.2.1 (kd_u s.1), e4, bV_s, t4.half h6 hi hj, bI_s, lt_e, show hI h4 38 i = Y i from (s4.2.2.2.1 i hi).1]
          by_cases h5 : L * priceS M Y i j ≤ Y i
          · rw [if_pos h5]
            obtain ⟨h7, e7, f7, f7', s7, a7⟩ := x4.keep
            have y0 := s7.2.2.2
            have v1 : hI h7 38 i = Y i := (y0.1 i hi).1
            rw [e7, bV_s, lt_e, v1]
            have y1 := y0.gd h6 (show i < 6 by omega) (Y i - L * priceS M Y i j)
            have v2 : hI (sI h7 38 i (Y i - L * priceS M Y i j)) 38 j = Y j := by
              rw [hI_sI, if_neg (fun q => hij q.2.symm)]; exact (y0.1 j hj).1
            rw [lt_e, v2]
            have y2 := y1.gd h6 (show j < 6 by omega) (Y j + L * priceS M Y i j)
            have v3 : hI (sI (sI h7 38 i (Y i - L * priceS M Y i j)) 38 j (Y j + L * priceS M Y i j)) 39 i = Y (6 + i) := by
              rw [hI_sI_c _ _ _ _ _ (by decide), hI_sI_c _ _ _ _ _ (by decide)]; exact (y0.1 i hi).2.1
            rw [lt_e, v3]
            have y3 := y2.ld h6 (show i < 6 by omega) (Y (6 + i) + L)
            have v4 : hI (sI (sI (sI h7 38 i (Y i - L * priceS M Y i j)) 38 j (Y j + L * priceS M Y i j)) 39 i (Y (6 + i) + L)) 39 j = Y (6 + j) := by
              rw [hI_sI, if_neg (fun q => hij q.2.symm), hI_sI_c _ _ _ _ _ (by decide), hI_sI_c _ _ _ _ _ (by decide)]; exact (y0.1 j hj).2.1
            rw [lt_e, v4]
            have y4 := y3.ld h6 (show j < 6 by omega) (Y (6 + j) - L)
            have f8 : FrP (haC u) acR h7 (sI (sI (sI (sI h7 38 i (Y i - L * priceS M Y i j)) 38 j (Y j + L * priceS M Y i j)) 39 i (Y (6 + i) + L)) 39 j (Y (6 + j) - L)) := ((((FrP.rf _ _ _).s (by show _ ∨ _; omega) _).s (by show _ ∨ _; omega) _).s (by show _ ∨ _; omega) _).s (by show _ ∨ _; omega) _
            have f8' : FrP (fun c _ => c = 38 ∨ c = 39) (fun _ => False) h7 (sI (sI (sI (sI h7 38 i (Y i - L * priceS M Y i j)) 38 j (Y j + L * priceS M Y i j)) 39 i (Y (6 + i) + L)) 39 j (Y (6 + j) - L)) := ((((FrP.rf _ _ _).s (Or.inl rfl) _).s (Or.inl rfl) _).s (Or.inr rfl) _).s (Or.inr rfl) _
            exact ⟨_, _, rfl, ((haC_q f4).t f7).t f8, Or.inl ⟨⟨hq, ⟨Int32.not_lt.mp h1, Int32.not_lt.mp h2⟩, by rw [xj]; exact h3, by rw [xi, xj]; exact h5⟩, rfl, s7.mk f8' (fun c k q => by have q' : c = 38 ∨ c = 39 := q; omega) (fun q => q) y4, (a7 _).p f8' (fun c k q => by have q' : c = 38 ∨ c = 39 := q; omega) (fun q => q)⟩⟩
          · rw [if_neg h5]
            exact no h4 (haC_q f4) x4 (fun q => h5 (by have := q.2.2.2; rw [xi, xj] at this; exact this))
        · rw [if_neg h3]
          exact no0 (fun q => h3 (by have := q.2.2.1; rw [xj] at this; exact this))
  · rw [if_neg hq, if_pos rfl]
    exact no0 (fun q => hq q.1)
