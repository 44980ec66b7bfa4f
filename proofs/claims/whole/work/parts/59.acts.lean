/-! ===== acts kept, taken back, done again ===== -/
def FrP (C : Nat → Nat → Prop) (R : Nat → Prop) (h h' : AH) : Prop := h'.1 = h.1 ∧ (∀ c k, ¬ C c k → hI h' c k = hI h c k) ∧ hL h' = hL h ∧ ∀ c, ¬ R c → hR h' c = hR h c
theorem FrR.p {S : List Nat} {P : List (Nat × Nat)} {R : List Nat} {h h' : AH} (f : FrR S P R h h') : FrP (fun c k => c ∈ S ∨ (c, k) ∈ P) (fun c => c ∈ R) h h' := ⟨f.1, fun c k q => f.2.1 c k (fun z => q (Or.inl z)) (fun z => q (Or.inr z)), f.2.2.1, fun c q => f.2.2.2 c q⟩
theorem Fr.p' {S : List Nat} {P : List (Nat × Nat)} {h h' : AH} (f : Fr S P h h') : FrP (fun c k => c ∈ S ∨ (c, k) ∈ P) (fun _ => False) h h' := ⟨f.1, fun c k q => f.2.1 c k (fun z => q (Or.inl z)) (fun z => q (Or.inr z)), f.2.2.1, fun c _ => congrFun f.2.2.2 c⟩
theorem FrP.mn {C D : Nat → Nat → Prop} {R T : Nat → Prop} {h h' : AH} (f : FrP C R h h') (a : ∀ c k, C c k → D c k) (b : ∀ c, R c → T c) : FrP D T h h' := ⟨f.1, fun c k q => f.2.1 c k (fun z => q (a c k z)), f.2.2.1, fun c q => f.2.2.2 c (fun z => q (b c z))⟩
theorem FrP.t {C : Nat → Nat → Prop} {R : Nat → Prop} {h h1 h2 : AH} (f : FrP C R h h1) (g : FrP C R h1 h2) : FrP C R h h2 := ⟨g.1.trans f.1, fun c k q => (g.2.1 c k q).trans (f.2.1 c k q), g.2.2.1.trans f.2.2.1, fun c q => (g.2.2.2 c q).trans (f.2.2.2 c q)⟩
theorem FrP.rf (C : Nat → Nat → Prop) (R : Nat → Prop) (h : AH) : FrP C R h h := ⟨rfl, fun _ _ _ => rfl, rfl, fun _ _ => rfl⟩
theorem FrP.s {C : Nat → Nat → Prop} {R : Nat → Prop} {h h1 : AH} (f : FrP C R h h1) {c k : Nat} (hc : C c k) (v : Int32) : FrP C R h (sI h1 c k v) := ⟨f.1, fun c' k' q => by
  rw [hI_sI, if_neg (fun (e : c' = c ∧ k' = k) => q (by rw [e.1, e.2]; exact hc))]
  exact f.2.1 c' k' q, f.2.2.1, f.2.2.2⟩
theorem FrP.sr {C : Nat → Nat → Prop} {R : Nat → Prop} {h h1 : AH} (f : FrP C R h h1) {c : Nat} (hc : R c) (k : Nat) (v : Option Nat) : FrP C R h (sR h1 c k v) := ⟨f.1, f.2.1, f.2.2.1, fun c' q => by
  funext k'
  rw [hR_sR, if_neg (fun (e : c' = c ∧ k' = k) => q (by rw [e.1]; exact hc))]
  exact congrFun (f.2.2.2 c' q) k'⟩
theorem YR.cg {n t : Nat} {h h1 : AH} {Y : YT} (m : YR n h t Y) (g : ∀ j k, j < 7 → hI h1 (t + j) k = hI h (t + j) k) : YR n h1 t Y := by
  have g0 : ∀ k, hI h1 t k = hI h t k := fun k => g 0 k (by omega)
  refine ⟨fun i hi => ?_, by rw [g0]; exact m.2.1, by rw [g0]; exact m.2.2.1, by rw [g0]; exact m.2.2.2.1, by rw [g0]; exact m.2.2.2.2⟩
  rw [g 1 _ (by omega), g 2 _ (by omega), g 3 _ (by omega), g 4 _ (by omega), g 5 _ (by omega), g 6 _ (by omega)]
  exact m.1 i hi
theorem YR.p {n t : Nat} {C : Nat → Nat → Prop} {R : Nat → Prop} {h h1 : AH} {Y : YT} (m : YR n h t Y) (f : FrP C R h h1) (a : ∀ c k, C c k → c < t ∨ t + 6 < c) : YR n h1 t Y := m.cg (fun j k hj => f.2.1 _ _ (fun q => by have := a _ _ q; omega))
/-- the yards of the acts -/
def AKs (n : Nat) (h : AH) (Y : YT) (W : Nat → YT) (A U : Nat) : Prop := hI h 53 1 = nI A ∧ hI h 53 2 = nI U ∧ A + U ≤ 40 ∧ ∃ r : Nat → Nat, (∀ i, i < 41 → r i < 41 ∧ hR h 54 i = some (55 + 7 * r i)) ∧ (∀ i j, i < 41 → j < 41 → r i = r j → i = j) ∧ (∀ i, i < A → YR n h (55 + 7 * r i) (W i)) ∧ (∀ i, A ≤ i → i < A + U → YR n h (55 + 7 * r (i + 1)) (W i)) ∧ (0 < U → YR n h (55 + 7 * r A) Y)
def AMs (h : AH) (W : Nat → YT) (A U : Nat) : Prop := hI h 383 53 = nI A ∧ hI h 383 54 = nI U ∧ ∀ i k, i < A + U → k < 35 → hI h 407 (35 * i + k) = W i k
def kpA (A : Nat) : Nat := if A = 40 then 40 else A + 1
def kpW (W : Nat → YT) (A : Nat) (Y : YT) : Nat → YT := if A = 40 then (fun i => if i = 39 then Y else W (i + 1)) else (fun i => if i = A then Y else W i)
theorem kd_r {r : Nat} (hr : r < 41) : kdF (55 + 7 * r) = .inr 10 := by
  have : ∀ r : Fin 41, kdF (55 + 7 * r.val) = .inr 10 := by decide +kernel
  exact this ⟨r, hr⟩
abbrev acC : Nat → Nat → Prop := fun c _ => 53 ≤ c ∧ c ≤ 341
abbrev acR : Nat → Prop := fun c => c = 54
theorem scK_a {r : Nat} (hr : r < 41) {h h1 : AH} (f : Fr (scK (55 + 7 * r)) (plP (55 + 7 * r)) h h1) : FrP acC acR h h1 := f.p'.mn (fun c k q => by
  simp only [scK, plP, List.mem_cons, List.not_mem_nil, or_false, Prod.mk.injEq] at q
  show 53 ≤ c ∧ c ≤ 341
  omega) (fun c q => q.elim)
theorem scK_y {n t : Nat} {r : Nat} {h h1 : AH} {Y : YT} (f : Fr (scK (55 + 7 * r)) (plP (55 + 7 * r)) h h1) (m : YR n h t Y) (hd : t + 6 < 55 + 7 * r ∨ 55 + 7 * r + 6 < t) : YR n h1 t Y := m.fr f (fun q hq => by simp only [scK, List.mem_cons, List.not_mem_nil, or_false] at hq; omega) (fun q hq => by
  simp only [plP, List.mem_cons, List.not_mem_nil, or_false] at hq
  rcases hq with rfl | rfl | rfl | rfl <;> simp only <;> omega)
theorem keep13_ok {n : Nat} (hn : n ≤ 6) {h : AH} {Y : YT} {W : Nat → YT} {A U : Nat} (hA : A < 40) (a : AKs n h Y W A U) (y : YR n h 37 Y) : ∃ h1, f_Acts_keep_b13 37 h = some h1 ∧ FrP acC acR h h1 ∧ ∀ Z, AKs n h1 Z (fun i => if i = A then Y else W i) (A + 1) 0 := by
  obtain ⟨a1, a2, a3, r, r1, r2, r3, r4, r5⟩ := a
  obtain ⟨rA, eA⟩ := r1 A (by omega)
  obtain ⟨h1, e1, f1, y1⟩ := copy_ok (t := 55 + 7 * r A) (s := 37) hn (by omega) y
  rw [f_Acts_keep_b13, a1, gx_n _ (show A < 41 by omega) (by omega), ix_n (show A < 2 ^ 31 by omega), gd_ok _ eA (kd_r rA), e1, bV_s, lt_e, lt_e]
  have f2 := scK_a rA f1
  have v1 : hI h1 53 1 = nI A := by
    rw [f1.i _ _ (by simp only [scK, List.mem_cons, List.not_mem_nil, or_false]; omega) (by simp only [plP, List.mem_cons, List.not_mem_nil, or_false, Prod.mk.injEq]; omega)]; exact a1
  refine ⟨_, rfl, (f2.s (by omega) _).s (by omega) _, fun Z => ⟨?_, hI_sI_s _ _ _ _, by omega, r, fun i hi => ⟨(r1 i hi).1, ?_⟩, r2, fun i hi => ?_, fun i h1 h2 => by omega, fun q => by omega⟩⟩
  · rw [hI_sI, if_neg (by decide), hI_sI_s, v1, nI_1]
  · show hR h1 54 i = _
    rw [f1.2.2.2]
    exact (r1 i hi).2
  · have cg : ∀ t (V : YT), YR n h1 t V → 55 ≤ t → YR n (sI (sI h1 53 1 (hI h1 53 1 + 1)) 53 2 0) t V := fun t V m ht => m.cg (fun j k hj => by rw [hI_sI_c _ _ _ _ _ (by omega), hI_sI_c _ _ _ _ _ (by omega)])
    refine cg _ _ ?_ (by omega)
    show YR n h1 (55 + 7 * r i) (if i = A then Y else W i)
    by_cases e : i = A
    · rw [if_pos e, e]; exact y1
    · rw [if_neg e]
      refine scK_y f1 (r3 i (by omega)) ?_
      have : ¬ r i = r A := fun q => e (r2 i A (by omega) (by omega) q)
      omega
theorem drop_ok {n : Nat} {h : AH} {Y : YT} {W : Nat → YT} {U : Nat} (a : AKs n h Y W 40 U) : ∃ h1, f_Acts_dropOldest h = some h1 ∧ FrP acC acR h h1 ∧ hI h1 37 = hI h 37 ∧ (∀ c, c < 53 → hI h1 c = hI h c) ∧ AKs n h1 Y (fun i => W (i + 1)) 39 0 := by
  obtain ⟨a1, a2, a3, r, r1, r2, r3, r4, r5⟩ := a
  have hU : U = 0 := by omega
  subst hU
  have e0 := (r1 0 (by omega)).2
  rw [f_Acts_dropOldest, gd_ok _ e0 (kd_r (r1 0 (by omega)).1)]
  refine lpc (fun fu j (z : AH) => f_Acts_dropOldest_l9 fu (55 + 7 * r 0) (nI (j + 1)) z) (fun j z => FrP acC acR h z ∧ (∀ c, hI z c = hI h c) ∧ ∀ i, i < 41 → hR z 54 i = if i < j then some (55 + 7 * r (i + 1)) else some (55 + 7 * r i)) (fun z => FrP acC acR h z ∧ hI z 37 = hI h 37 ∧ (∀ c, c < 53 → hI z c = hI h c) ∧ AKs n z Y (fun i => W (i + 1)) 39 0) 40 (by omega) h ⟨FrP.rf _ _ _, fun _ => rfl, fun i hi => by rw [if_neg (by omega)]; exact (r1 i hi).2⟩ (fun z e q => ⟨z, e, q⟩) (fun j fu z hj p => Or.inl ?_) (fun fu z p => ?_)
  · obtain ⟨f1, i1, q1⟩ := p
    have ej := q1 (j + 1) (by omega)
    rw [if_neg (by omega)] at ej
    refine ⟨sR z 54 j (some (55 + 7 * r (j + 1))), ?_, f1.sr rfl _ _, i1, fun i hi => ?_⟩
    · show f_Acts_dropOldest_l9 (fu + 1) (55 + 7 * r 0) (nI (j + 1)) z = f_Acts_dropOldest_l9 fu (55 + 7 * r 0) (nI (j + 1 + 1)) _
      rw [f_Acts_dropOldest_l9, if_neg (nI_ge (by omega) (by omega)), gx_n _ (show j + 1 < 41 by omega) (by omega), ix_n (show j + 1 < 2 ^ 31 by omega), gd_ok _ ej (kd_r (r1 (j + 1) (by omega)).1), nI_s1, gx_n _ (show j < 41 by omega) (by omega), lt_e, lt_e, nI_1, ix_n (show j < 2 ^ 31 by omega)]
    · rw [hR_sR]
      by_cases e : i = j
      · rw [if_pos ⟨rfl, e⟩, if_pos (by omega), e]
      · rw [if_neg (fun q => e q.2), q1 i hi]
        by_cases e2 : i < j
        · rw [if_pos e2, if_pos (by omega)]
        · rw [if_neg e2, if_neg (by omega)]
  · obtain ⟨f1, i1, q1⟩ := p
    refine ⟨sI (sR z 54 40 (some (55 + 7 * r 0))) 53 1 (nI 39), ?_, (f1.sr rfl _ _).s (by omega) _, ?_, fun c hc => ?_, hI_sI_s _ _ _ _, ?_, by omega, fun i => if i = 40 then r 0 else r (i + 1), fun i hi => ?_, fun i j hi hj hij => ?_, fun i hi => ?_, fun i h1 h2 => by omega, fun q => by omega⟩
    · show f_Acts_dropOldest_l9 (fu + 1) (55 + 7 * r 0) (nI (40 + 1)) z = _
      rw [f_Acts_dropOldest_l9, if_pos (nI_le (by omega) (by omega)), show nI 41 - 1 = nI 40 from rfl, gx_n _ (show 40 < 41 by omega) (by omega), ix_n (show 40 < 2 ^ 31 by omega), lt_e, lt_e]
      show some (sI (sR z 54 40 (some (55 + 7 * r 0))) 53 1 (hI (sR z 54 40 (some (55 + 7 * r 0))) 53 1 - 1)) = _
      rw [show hI (sR z 54 40 (some (55 + 7 * r 0))) 53 1 = nI 40 by rw [hI_sR, i1]; exact a1]
      rfl
    · rw [hI_sI_c _ _ _ _ _ (by decide), hI_sR, i1]
    · rw [hI_sI_c _ _ _ _ _ (by omega), hI_sR, i1]
    · rw [hI_sI, if_neg (by decide), hI_sR, i1]; exact a2
    · refine ⟨?_, ?_⟩
      · show (if i = 40 then r 0 else r (i + 1)) < 41
        split
        · exact (r1 0 (by omega)).1
        · exact (r1 (i + 1) (by omega)).1
      · show hR (sR z 54 40 (some (55 + 7 * r 0))) 54 i = some (55 + 7 * (if i = 40 then r 0 else r (i + 1)))
        rw [hR_sR]
        by_cases e : i = 40
        · rw [if_pos ⟨rfl, e⟩, if_pos e]
        · rw [if_neg (fun q => e q.2), if_neg e, q1 i hi, if_pos (by omega)]
    · have hij' : (if i = 40 then r 0 else r (i + 1)) = (if j = 40 then r 0 else r (j + 1)) := hij
      by_cases e1 : i = 40
      · rw [if_pos e1] at hij'
        by_cases e2 : j = 40
        · omega
        · rw [if_neg e2] at hij'
          have := r2 0 (j + 1) (by omega) (by omega) hij'
          omega
      · rw [if_neg e1] at hij'
        by_cases e2 : j = 40
        · rw [if_pos e2] at hij'
          have := r2 (i + 1) 0 (by omega) (by omega) hij'
          omega
        · rw [if_neg e2] at hij'
          have := r2 (i + 1) (j + 1) (by omega) (by omega) hij'
          omega
    · show YR n _ (55 + 7 * (if i = 40 then r 0 else r (i + 1))) (W (i + 1))
      rw [if_neg (by omega)]
      exact (r3 (i + 1) (by omega)).cg (fun j k hj => by rw [hI_sI_c _ _ _ _ _ (by omega), hI_sR, i1])
theorem keep_ok {n : Nat} (hn : n ≤ 6) {h : AH} {Y : YT} {W : Nat → YT} {A U : Nat} (hA : A ≤ 40) (a : AKs n h Y W A U) (y : YR n h 37 Y) : ∃ h1, f_Acts_keep 37 h = some h1 ∧ FrP acC acR h h1 ∧ ∀ Z, AKs n h1 Z (kpW W A Y) (kpA A) 0 := by
  rw [f_Acts_keep, a.1]
  unfold kpW kpA
  by_cases e : A = 40
  · subst e
    rw [if_neg (by decide)]
    obtain ⟨h1, e1, f1, -, g1, a1⟩ := drop_ok a
    have y1 : YR n h1 37 Y := y.cg (fun j k hj => by rw [g1 _ (by omega)])
    obtain ⟨h2, e2, f2, a2⟩ := keep13_ok hn (by omega) a1 y1
    rw [e1, bV_s]
    refine ⟨h2, e2, f1.t f2, fun Z => ?_⟩
    rw [if_pos rfl, if_pos rfl]
    exact a2 Z
  · rw [if_pos (show nI A < 40 from n_lt (b := 40) (by omega) (by omega)), if_neg e, if_neg e]
    exact keep13_ok hn (by omega) a y
theorem H_undo_ok {n : Nat} (hn : n ≤ 6) {h : AH} {Y : YT} {W : Nat → YT} {A U : Nat} (a : AKs n h Y W A U) (y : YR n h 37 Y) : ∃ h1 r, f_H_undo h = some (r, h1) ∧ ((A = 0 ∧ r = 0 ∧ h1 = h) ∨ (0 < A ∧ r = 1 ∧ FrP (fun c _ => 37 ≤ c ∧ c ≤ 43 ∨ 53 ≤ c ∧ c ≤ 341) acR h h1 ∧ YR n h1 37 (W (A - 1)) ∧ AKs n h1 (W (A - 1)) (fun i => if i = A - 1 then Y else W i) (A - 1) (U + 1))) := by
  obtain ⟨a1, a2, a3, r, r1, r2, r3, r4, r5⟩ := a
  rw [f_H_undo, f_Acts_takeBack, a1]
  by_cases h0 : A = 0
  · subst h0
    rw [if_neg (by decide), bI_s, gb_0]
    exact ⟨h, 0, rfl, Or.inl ⟨rfl, rfl, rfl⟩⟩
  · obtain ⟨B, rfl⟩ : ∃ B, A = B + 1 := ⟨A - 1, by omega⟩
    obtain ⟨rA, eA⟩ := r1 (B + 1) (by omega)
    obtain ⟨rB, eB⟩ := r1 B (by omega)
    have nAB : ¬ r B = r (B + 1) := fun q => by have := r2 B (B + 1) (by omega) (by omega) q; omega
    obtain ⟨h1, e1, f1, y1⟩ := copy_ok (t := 55 + 7 * r (B + 1)) (s := 37) hn (by omega) y
    have v1 : ∀ k, k = 1 ∨ k = 2 → hI h1 53 k = hI h 53 k := fun k hk => f1.i _ _ (by simp only [scK, List.mem_cons, List.not_mem_nil, or_false]; omega) (by simp only [plP, List.mem_cons, List.not_mem_nil, or_false, Prod.mk.injEq]; omega)
    rw [if_pos (show (0 : Int32) < nI (B + 1) from n_lt (a := 0) (by omega) (by omega)), gx_n _ (show B + 1 < 41 by omega) (by omega), ix_n (show B + 1 < 2 ^ 31 by omega), gd_ok _ eA (kd_r rA), e1, bV_s, lt_e, lt_e, v1 1 (Or.inl rfl), a1, nI_s1, show hI (sI h1 53 1 (nI B)) 53 2 = nI U by rw [hI_sI, if_neg (by decide), v1 2 (Or.inr rfl), a2], nI_1]
    have u1 : hI (sI (sI h1 53 1 (nI B)) 53 2 (nI (U + 1))) 53 1 = nI B := by rw [hI_sI, if_neg (by decide), hI_sI_s]
    have u2 : hI (sI (sI h1 53 1 (nI B)) 53 2 (nI (U + 1))) 53 2 = nI (U + 1) := hI_sI_s _ _ _ _
    have cg : ∀ t (V : YT), YR n h1 t V → (55 ≤ t ∨ t + 6 < 53) → YR n (sI (sI h1 53 1 (nI B)) 53 2 (nI (U + 1))) t V := fun t V m ht => m.cg (fun j k hj => by rw [hI_sI_c _ _ _ _ _ (by omega), hI_sI_c _ _ _ _ _ (by omega)])
    have ff : FrP (fun c _ => 37 ≤ c ∧ c ≤ 43 ∨ 53 ≤ c ∧ c ≤ 341) acR h (sI (sI h1 53 1 (nI B)) 53 2 (nI (U + 1))) := (((scK_a rA f1).mn (fun c k q => Or.inr q) (fun c q => q)).s (Or.inr (by omega)) _).s (Or.inr (by omega)) _
    have rr : ∀ i, i < 41 → hR (sI (sI h1 53 1 (nI B)) 53 2 (nI (U + 1))) 54 i = some (55 + 7 * r i) := fun i hi => by
      show hR h1 54 i = _
      rw [f1.2.2.2]; exact (r1 i hi).2
    have ya := cg _ _ y1 (by omega)
    have yb : ∀ i V, i < 41 → ¬ i = B + 1 → YR n h (55 + 7 * r i) V → YR n (sI (sI h1 53 1 (nI B)) 53 2 (nI (U + 1))) (55 + 7 * r i) V := fun i V hi hne m => cg _ _ (scK_y f1 m (by
      have : ¬ r i = r (B + 1) := fun q => hne (r2 i (B + 1) hi (by omega) q)
      omega)) (by omega)
    have yB := yb B (W B) (by omega) (by omega) (r3 B (by omega))
    generalize sI (sI h1 53 1 (nI B)) 53 2 (nI (U + 1)) = h2 at u1 u2 ff rr ya yb yB ⊢
    rw [u1, gx_n _ (show B < 41 by omega) (by omega), ix_n (show B < 2 ^ 31 by omega), gd_ok _ (rr B (by omega)) (kd_r rB)]
    obtain ⟨h3, e3, f3, y3⟩ := copy_ok (t := 37) (s := 55 + 7 * r B) hn (by omega) yB
    rw [e3, bV_s, bI_s, gb_1]
    have c3 : ∀ c k, 44 ≤ c → hI h3 c k = hI h2 c k := fun c k hc => f3.i _ _ (by simp only [scK, List.mem_cons, List.not_mem_nil, or_false]; omega) (by simp only [plP, List.mem_cons, List.not_mem_nil, or_false, Prod.mk.injEq]; omega)
    have cg3 : ∀ t (V : YT), YR n h2 t V → 44 ≤ t → YR n h3 t V := fun t V m ht => m.cg (fun j k hj => c3 _ _ (by omega))
    refine ⟨h3, 1, rfl, Or.inr ⟨by omega, rfl, ff.t (f3.p'.mn (fun c k q => by
      simp only [scK, plP, List.mem_cons, List.not_mem_nil, or_false, Prod.mk.injEq] at q
      left; omega) (fun c q => q.elim)), y3, ?_⟩⟩
    show AKs n h3 (W B) (fun i => if i = B then Y else W i) B (U + 1)
    refine ⟨by rw [c3 _ _ (by omega)]; exact u1, by rw [c3 _ _ (by omega)]; exact u2, by omega, r, fun i hi => ⟨(r1 i hi).1, by rw [f3.2.2.2]; exact rr i hi⟩, r2, fun i hi => ?_, fun i h1 h2 => ?_, fun _ => cg3 _ _ yB (by omega)⟩
    · show YR n h3 (55 + 7 * r i) (if i = B then Y else W i)
      rw [if_neg (by omega)]
      exact cg3 _ _ (yb i _ (by omega) (by omega) (r3 i (by omega))) (by omega)
    · show YR n h3 (55 + 7 * r (i + 1)) (if i = B then Y else W i)
      by_cases e : i = B
      · rw [if_pos e, e]
        exact cg3 _ _ ya (by omega)
      · rw [if_neg e]
        exact cg3 _ _ (yb (i + 1) _ (by omega) (by omega) (r4 i (by omega) (by omega))) (by omega)
theorem H_redo_ok {n : Nat} (hn : n ≤ 6) {h : AH} {Y : YT} {W : Nat → YT} {A U : Nat} (a : AKs n h Y W A U) : ∃ h1 r, f_H_redo h = some (r, h1) ∧ ((U = 0 ∧ r = 0 ∧ h1 = h) ∨ (0 < U ∧ r = 1 ∧ FrP (fun c _ => 37 ≤ c ∧ c ≤ 43 ∨ 53 ≤ c ∧ c ≤ 341) acR h h1 ∧ YR n h1 37 (W A) ∧ AKs n h1 (W A) (fun i => if i = A then Y else W i) (A + 1) (U - 1))) := by
  obtain ⟨a1, a2, a3, r, r1, r2, r3, r4, r5⟩ := a
  rw [f_H_redo, f_Acts_doAgain, a2]
  by_cases h0 : U = 0
  · subst h0
    rw [if_neg (by decide), bI_s, gb_0]
    exact ⟨h, 0, rfl, Or.inl ⟨rfl, rfl, rfl⟩⟩
  · obtain ⟨B, rfl⟩ : ∃ B, U = B + 1 := ⟨U - 1, by omega⟩
    obtain ⟨rA, eA⟩ := r1 (A + 1) (by omega)
    rw [if_pos (show (0 : Int32) < nI (B + 1) from n_lt (a := 0) (by omega) (by omega)), a1, nI_1, lt_e, hI_sI, if_neg (by decide), a2, nI_s1, lt_e]
    have u1 : hI (sI (sI h 53 1 (nI (A + 1))) 53 2 (nI B)) 53 1 = nI (A + 1) := by rw [hI_sI, if_neg (by decide), hI_sI_s]
    have u2 : hI (sI (sI h 53 1 (nI (A + 1))) 53 2 (nI B)) 53 2 = nI B := hI_sI_s _ _ _ _
    have cg : ∀ t (V : YT), YR n h t V → (55 ≤ t ∨ t + 6 < 53) → YR n (sI (sI h 53 1 (nI (A + 1))) 53 2 (nI B)) t V := fun t V m ht => m.cg (fun j k hj => by rw [hI_sI_c _ _ _ _ _ (by omega), hI_sI_c _ _ _ _ _ (by omega)])
    have ff : FrP (fun c _ => 37 ≤ c ∧ c ≤ 43 ∨ 53 ≤ c ∧ c ≤ 341) acR h (sI (sI h 53 1 (nI (A + 1))) 53 2 (nI B)) := ((FrP.rf _ _ h).s (Or.inr (by omega)) _).s (Or.inr (by omega)) _
    have rr : ∀ i, i < 41 → hR (sI (sI h 53 1 (nI (A + 1))) 53 2 (nI B)) 54 i = some (55 + 7 * r i) := fun i hi => (r1 i hi).2
    have yA := cg _ _ (r4 A (by omega) (by omega)) (by omega)
    generalize sI (sI h 53 1 (nI (A + 1))) 53 2 (nI B) = h2 at u1 u2 ff rr cg yA ⊢
    obtain ⟨h3, e3, f3, y3⟩ := copy_ok (t := 37) (s := 55 + 7 * r (A + 1)) hn (by omega) yA
    rw [u1, gx_n _ (show A + 1 < 41 by omega) (by omega), ix_n (show A + 1 < 2 ^ 31 by omega), gd_ok _ (rr (A + 1) (by omega)) (kd_r rA), e3, bV_s, bI_s, gb_1]
    have c3 : ∀ c k, 44 ≤ c → hI h3 c k = hI h2 c k := fun c k hc => f3.i _ _ (by simp only [scK, List.mem_cons, List.not_mem_nil, or_false]; omega) (by simp only [plP, List.mem_cons, List.not_mem_nil, or_false, Prod.mk.injEq]; omega)
    have cg3 : ∀ t (V : YT), YR n h2 t V → 44 ≤ t → YR n h3 t V := fun t V m ht => m.cg (fun j k hj => c3 _ _ (by omega))
    refine ⟨h3, 1, rfl, Or.inr ⟨by omega, rfl, ff.t (f3.p'.mn (fun c k q => by
      simp only [scK, plP, List.mem_cons, List.not_mem_nil, or_false, Prod.mk.injEq] at q
      left; omega) (fun c q => q.elim)), y3, ?_⟩⟩
    show AKs n h3 (W A) (fun i => if i = A then Y else W i) (A + 1) B
    refine ⟨by rw [c3 _ _ (by omega)]; exact u1, by rw [c3 _ _ (by omega)]; exact u2, by omega, r, fun i hi => ⟨(r1 i hi).1, by rw [f3.2.2.2]; exact rr i hi⟩, r2, fun i hi => ?_, fun i h1 h2 => ?_, fun _ => cg3 _ _ yA (by omega)⟩
    · show YR n h3 (55 + 7 * r i) (if i = A then Y else W i)
      by_cases e : i = A
      · rw [if_pos e, e]
        exact cg3 _ _ (cg _ _ (r5 (by omega)) (by omega)) (by omega)
      · rw [if_neg e]
        exact cg3 _ _ (cg _ _ (r3 i (by omega)) (by omega)) (by omega)
    · show YR n h3 (55 + 7 * r (i + 1)) (if i = A then Y else W i)
      rw [if_neg (by omega)]
      exact cg3 _ _ (cg _ _ (r4 i (by omega) (by omega)) (by omega)) (by omega)
