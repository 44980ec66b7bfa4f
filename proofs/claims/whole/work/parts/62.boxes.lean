/-! ===== images ===== -/
def fl (o : Option YT) : Int32 := match o with | none => 0 | some _ => 1
def BH (n : Nat) (h : AH) (B : Nat → Option YT) : Prop := ∀ b, b < 3 → hI h 344 b = fl (B b) ∧ hR h 343 b = some (345 + 7 * b) ∧ ∀ Z, B b = some Z → YR n h (345 + 7 * b) Z
def BM (h : AH) (B : Nat → Option YT) : Prop := ∀ b, b < 3 → hI h 419 b = fl (B b) ∧ ∀ Z, B b = some Z → ∀ k, k < 35 → hI h 420 (35 * b + k) = Z k
def updB (B : Nat → Option YT) (b : Nat) (Y : YT) : Nat → Option YT := fun x => if x = b then some Y else B x
theorem kd_b {b : Nat} (hb : b < 3) : kdF (345 + 7 * b) = .inr 10 := by
  have : ∀ b : Fin 3, kdF (345 + 7 * b.val) = .inr 10 := by decide +kernel
  exact this ⟨b, hb⟩
theorem nar_1 : vp_nar .boolean 1 = 1 := by decide
theorem nar_0 : vp_nar .boolean 0 = 0 := by decide
abbrev bxC : Nat → Nat → Prop := fun c _ => 344 ≤ c ∧ c ≤ 365
def imgS (Y : YT) (a : Int32) : Int32 := if 0 ≤ a ∧ a ≤ 2 then Y 33 else -1
def imgB (B : Nat → Option YT) (Y : YT) (a : Int32) : Nat → Option YT := if 0 ≤ a ∧ a ≤ 2 then updB B (ix a) Y else B
theorem H_image_ok {n : Nat} (hn : n ≤ 6) {h : AH} {Y : YT} {B : Nat → Option YT} (x : BH n h B) (y : YR n h 37 Y) (a : Int32) : ∃ h1, f_H_image a h = some (imgS Y a, h1) ∧ FrP bxC (fun _ => False) h h1 ∧ BH n h1 (imgB B Y a) := by
  rw [f_H_image, within_e, bI_s]
  unfold imgS imgB
  by_cases ha : 0 ≤ a ∧ a ≤ 2
  · rw [if_pos ha, if_pos (by decide), if_pos ha, if_pos ha]
    obtain ⟨b, hb, rfl⟩ := inR_ix (n := 2) (by omega) ha
    obtain ⟨x1, x2, x3⟩ := x b (by omega)
    obtain ⟨h1, e1, f1, y1⟩ := copy_ok (t := 345 + 7 * b) (s := 37) hn (by omega) y
    rw [f_Boxes_keep, gx_n _ (show b < 3 by omega) (by omega), ix_n (show b < 2 ^ 31 by omega), gd_ok _ x2 (kd_b (by omega)), e1, bV_s, gx_n _ (show b < 3 by omega) (by omega), nar_1, lt_e, bV_s]
    have c1 : ∀ c k, (c < 345 + 7 * b ∨ 345 + 7 * b + 6 < c) → hI h1 c k = hI h c k := fun c k hc => f1.i _ _ (by simp only [scK, List.mem_cons, List.not_mem_nil, or_false]; omega) (by simp only [plP, List.mem_cons, List.not_mem_nil, or_false, Prod.mk.injEq]; omega)
    have p1 : FrP bxC (fun _ => False) h h1 := f1.p'.mn (fun c k q => by
      simp only [scK, plP, List.mem_cons, List.not_mem_nil, or_false, Prod.mk.injEq] at q
      show 344 ≤ c ∧ c ≤ 365
      omega) (fun c q => q)
    refine ⟨sI h1 344 b 1, ?_, p1.s (by show 344 ≤ 344 ∧ 344 ≤ 365; omega) _, fun d hd => ?_⟩
    · rw [hI_sI_c _ _ _ _ 37 (by decide), c1 _ _ (by omega), y.2.2.2.1]
    · obtain ⟨z1, z2, z3⟩ := x d hd
      refine ⟨?_, by show hR h1 343 d = _; rw [f1.2.2.2]; exact z2, fun Z hZ => ?_⟩
      · rw [hI_sI]
        unfold updB
        by_cases e : d = b
        · rw [if_pos ⟨rfl, e⟩, if_pos e]; rfl
        · rw [if_neg (fun q => e q.2), if_neg e, c1 _ _ (by omega)]; exact z1
      · unfold updB at hZ
        have cg : ∀ V, YR n h1 (345 + 7 * d) V → YR n (sI h1 344 b 1) (345 + 7 * d) V := fun V m => m.cg (fun j k hj => by rw [hI_sI_c _ _ _ _ _ (by omega)])
        by_cases e : d = b
        · rw [if_pos e] at hZ
          cases hZ
          rw [e]
          rw [e] at cg
          exact cg _ y1
        · rw [if_neg e] at hZ
          exact cg _ ((z3 Z hZ).cg (fun j k hj => c1 _ _ (by omega)))
  · rw [if_neg ha, if_neg (by decide), if_neg ha, if_neg ha]
    exact ⟨h, rfl, FrP.rf _ _ _, x⟩
theorem isBox_e (a : Int32) (h : AH) : f_M_isBox a h = some (if 0 ≤ a ∧ a ≤ 2 then 1 else 0, h) := by
  have e2 : (2 : Int32).toInt = 2 := by decide
  have e3 : (3 : Int32).toInt = 3 := by decide
  rw [f_M_isBox]
  by_cases h0 : a < 0
  · rw [if_pos h0, if_neg (fun q => Int32.not_le.mpr h0 q.1)]
  · rw [if_neg h0]
    by_cases h1 : 3 ≤ a
    · rw [if_pos h1, if_neg (fun q => by have := i_le.mp h1; have := i_le.mp q.2; omega)]
    · rw [if_neg h1, if_pos ⟨Int32.not_lt.mp h0, i_le.mpr (by have : ¬ _ := fun z => h1 (i_le.mpr z); omega)⟩]
theorem M_image_ok {h : AH} {M : MT} {Y : YT} {B : Nat → Option YT} (x : BM h B) (s : MS h M Y) (a : Int32) : ∃ h1, f_M_image a h = some (imgS Y a, h1) ∧ Fr [419, 420] [] h h1 ∧ BM h1 (imgB B Y a) := by
  rw [f_M_image, isBox_e, bI_s]
  unfold imgS imgB
  by_cases ha : 0 ≤ a ∧ a ≤ 2
  · rw [if_pos ha, if_pos (by decide), if_pos ha, if_pos ha]
    obtain ⟨b, hb, rfl⟩ := inR_ix (n := 2) (by omega) ha
    rw [gx_n _ (show b < 3 by omega) (by omega), nar_1, lt_e, ix_n (show b < 2 ^ 31 by omega)]
    have f0 : Fr [419, 420] [] h (sI h 419 b 1) := (Fr.rf _ _ _).s (by simp) _ _
    refine lpc (fun fu k (z : AH) => f_M_image_l18 (nI b) fu (nI k) z) (fun k z => Fr [420] [] (sI h 419 b 1) z ∧ (∀ x, x < k → hI z 420 (35 * b + x) = Y x) ∧ ∀ p, (p < 35 * b ∨ 35 * b + 35 ≤ p) → hI z 420 p = hI h 420 p) (fun r => r.1 = Y 33 ∧ Fr [419, 420] [] h r.2 ∧ BM r.2 (updB B b Y)) 35 (by omega) (sI h 419 b 1) ⟨Fr.rf _ _ _, fun x hx => by omega, fun p hp => by rw [hI_sI_c _ _ _ _ _ (by decide)]⟩ (fun r e q => ⟨r.2, by rw [← q.1]; exact e, q.2⟩) (fun k fu z hk q => Or.inl ?_) (fun fu z q => ?_)
    · obtain ⟨f1, g1, o1⟩ := q
      refine ⟨sI z 420 (35 * b + k) (Y k), ?_, f1.s (by simp) _ _, fun x hx => ?_, fun p hp => ?_⟩
      · show f_M_image_l18 (nI b) (fu + 1) (nI k) z = f_M_image_l18 (nI b) fu (nI (k + 1)) (sI z 420 (35 * b + k) (Y k))
        rw [f_M_image_l18, if_neg (show ¬ (35 : Int32) ≤ nI k from nI_ge (a := k) (b := 35) hk (by omega)), n35 (by omega), gx_n _ (show k < 35 by omega) (by omega), gx_n _ (show 35 * b + k < 105 by omega) (by omega), ix_n (show 35 * b + k < 2 ^ 31 by omega), ix_n (show k < 2 ^ 31 by omega), f1.i 405 k (by simp) (by simp), hI_sI_c _ _ _ _ 405 (by decide), s.2 k hk, lt_e, lt_e, nI_1]
      · rw [hI_sI]
        by_cases e : x = k
        · rw [if_pos ⟨rfl, by rw [e]⟩, e]
        · rw [if_neg (fun q => e (by have := q.2; omega))]; exact g1 x (by omega)
      · rw [hI_sI, if_neg (fun q => by have := q.2; omega)]; exact o1 p hp
    · obtain ⟨f1, g1, o1⟩ := q
      refine ⟨(Y 33, z), ?_, rfl, f0.t (f1.mn (by simp) (by simp)), fun d hd => ?_⟩
      · show f_M_image_l18 (nI b) (fu + 1) (nI 35) z = _
        rw [f_M_image_l18, if_pos (by decide), f1.i 405 33 (by simp) (by simp), hI_sI_c _ _ _ _ 405 (by decide), s.2 33 (by omega)]
      · obtain ⟨z1, z2⟩ := x d hd
        refine ⟨?_, fun Z hZ k hk => ?_⟩
        · rw [f1.i _ _ (by simp) (by simp), hI_sI]
          unfold updB
          by_cases e : d = b
          · rw [if_pos ⟨rfl, e⟩, if_pos e]; rfl
          · rw [if_neg (fun q => e q.2), if_neg e]; exact z1
        · unfold updB at hZ
          by_cases e : d = b
          · rw [if_pos e] at hZ
            cases hZ
            rw [e]; exact g1 k hk
          · rw [if_neg e] at hZ
            show hI z 420 _ = _
            rw [o1 _ (by omega)]; exact z2 Z hZ k hk
  · rw [if_neg ha, if_neg (by decide), if_neg ha, if_neg ha]
    exact ⟨h, rfl, Fr.rf _ _ _, x⟩
/-- what comes back -/
def bkO (B : Nat → Option YT) (a : Int32) : Option YT := if 0 ≤ a ∧ a ≤ 2 then B (ix a) else none
def bkS (o : Option YT) : Int32 := match o with | none => -1 | some Z => Z 33
theorem H_back_ok {M : MT} {Y : YT} {u : Nat} {W : Nat → YT} {A U : Nat} {h : AH} {B : Nat → Option YT} (x : HX h M Y u W A U) (b : BH (mN M) h B) (a : Int32) : ∃ h1, f_H_back a h = some (bkS (bkO B a), h1) ∧ FrP (fun c _ => (37 ≤ c ∧ c ≤ 43) ∨ c = 53) (fun _ => False) h h1 ∧ ((∃ Z, bkO B a = some Z ∧ HX h1 M Z u W 0 0) ∨ (bkO B a = none ∧ HX h1 M Y u W A U)) := by
  have s := x.1
  have h6 := s.2.2.1.1.2.1
  have hu := s.1
  rw [f_H_back, within_e, bI_s]
  unfold bkO
  by_cases ha : 0 ≤ a ∧ a ≤ 2
  · rw [if_pos ha, if_neg (by decide), if_pos ha]
    obtain ⟨d, hd, rfl⟩ := inR_ix (n := 2) (by omega) ha
    obtain ⟨b1, b2, b3⟩ := b d (by omega)
    have g : ∀ K : Option (Int32 × AH), gx (nI d) 3 K = K := fun K => gx_n K (by omega) (by omega)
    rw [f_Boxes_giveBack, g, g, g, ix_n (show d < 2 ^ 31 by omega), b1]
    cases hB : B d with
    | none =>
      rw [if_pos (show fl none = 0 from rfl), show fl none = 0 from rfl, gb_0, bI_s, if_neg (fun q => q rfl)]
      exact ⟨h, rfl, FrP.rf _ _ _, Or.inr ⟨rfl, x⟩⟩
    | some Z =>
      have yz := b3 Z hB
      obtain ⟨h1, e1, f1, y1⟩ := copy_ok (t := 37) (s := 345 + 7 * d) h6 (by omega) yz
      have c1 : ∀ c k, (c < 37 ∨ 43 < c) → hI h1 c k = hI h c k := fun c k hc => f1.i _ _ (by simp only [scK, List.mem_cons, List.not_mem_nil, or_false]; omega) (by simp only [plP, List.mem_cons, List.not_mem_nil, or_false, Prod.mk.injEq]; omega)
      rw [if_neg (show ¬ fl (some Z) = 0 from (by decide : ¬ (1 : Int32) = 0)), gd_ok _ b2 (kd_b (by omega)), e1, bV_s, g, c1 344 d (by omega), b1, hB, show fl (some Z) = 1 from rfl, gb_1, bI_s, if_pos (by decide), f_Acts_forget, lt_e, lt_e, bV_s]
      have p1 : FrP (fun c _ => (37 ≤ c ∧ c ≤ 43) ∨ c = 53) (fun _ => False) h (sI (sI h1 53 1 0) 53 2 0) := ((f1.p'.mn (fun c k q => by
        simp only [scK, plP, List.mem_cons, List.not_mem_nil, or_false, Prod.mk.injEq] at q
        left; omega) (fun c q => q)).s (Or.inr rfl) _).s (Or.inr rfl) _
      have yf : YR (mN M) (sI (sI h1 53 1 0) 53 2 0) 37 Z := y1.cg (fun j k hj => by rw [hI_sI_c _ _ _ _ _ (by omega), hI_sI_c _ _ _ _ _ (by omega)])
      obtain ⟨a1, a2, a3, r, r1, r2, r3, r4, r5⟩ := x.2
      refine ⟨_, ?_, p1, Or.inl ⟨Z, rfl, s.mk p1 (fun c k q => by have q' : (37 ≤ c ∧ c ≤ 43) ∨ c = 53 := q; omega) (fun q => q) yf, ?_, hI_sI_s _ _ _ _, by omega, r, fun i hi => ⟨(r1 i hi).1, by show hR h1 54 i = _; rw [f1.2.2.2]; exact (r1 i hi).2⟩, r2, fun i hi => by omega, fun i h1 h2 => by omega, fun q => by omega⟩⟩
      · rw [yf.2.2.2.1]; rfl
      · rw [hI_sI, if_neg (by decide), hI_sI_s]; rfl
  · rw [if_neg ha, if_pos rfl, if_neg ha]
    exact ⟨h, rfl, FrP.rf _ _ _, Or.inr ⟨rfl, x⟩⟩
theorem M_back_ok {h : AH} {M : MT} {Y : YT} {W : Nat → YT} {A U : Nat} {B : Nat → Option YT} (x : MX h M Y W A U) (b : BM h B) (a : Int32) : ∃ h1, f_M_back a h = some (bkS (bkO B a), h1) ∧ Fr [405] plB h h1 ∧ ((∃ Z, bkO B a = some Z ∧ MX h1 M Z W 0 0) ∨ (bkO B a = none ∧ MX h1 M Y W A U)) := by
  rw [f_M_back, isBox_e, bI_s]
  unfold bkO
  by_cases ha : 0 ≤ a ∧ a ≤ 2
  · rw [if_pos ha, if_neg (by decide), if_pos ha]
    obtain ⟨d, hd, rfl⟩ := inR_ix (n := 2) (by omega) ha
    obtain ⟨b1, b2⟩ := b d (by omega)
    rw [gx_n _ (show d < 3 by omega) (by omega), ix_n (show d < 2 ^ 31 by omega), b1]
    cases hB : B d with
    | none =>
      rw [if_neg (fun q => q rfl)]
      exact ⟨h, rfl, Fr.rf _ _ _, Or.inr ⟨rfl, x⟩⟩
    | some Z =>
      have z2 := b2 Z hB
      rw [if_pos (show ¬ fl (some Z) = 0 from (by decide : ¬ (1 : Int32) = 0))]
      refine lpc (fun fu k (z : AH) => f_M_back_l20 (nI d) fu (nI k) z) (fun k z => Fr [405] [] h z ∧ ∀ x, x < k → hI z 405 x = Z x) (fun r => r.1 = Z 33 ∧ Fr [405] plB h r.2 ∧ MX r.2 M Z W 0 0) 35 (by omega) h ⟨Fr.rf _ _ _, fun x hx => by omega⟩ (fun r e q => ⟨r.2, by rw [show bkS (some Z) = r.1 from q.1.symm]; exact e, q.2.1, Or.inl ⟨Z, rfl, q.2.2⟩⟩) (fun k fu z hk q => Or.inl ?_) (fun fu z q => ?_)
      · obtain ⟨f1, g1⟩ := q
        refine ⟨sI z 405 k (Z k), ?_, f1.s (by simp) _ _, fun x hx => ?_⟩
        · show f_M_back_l20 (nI d) (fu + 1) (nI k) z = f_M_back_l20 (nI d) fu (nI (k + 1)) (sI z 405 k (Z k))
          rw [f_M_back_l20, if_neg (show ¬ (35 : Int32) ≤ nI k from nI_ge (a := k) (b := 35) hk (by omega)), n35 (by omega), gx_n _ (show 35 * d + k < 105 by omega) (by omega), gx_n _ (show k < 35 by omega) (by omega), ix_n (show 35 * d + k < 2 ^ 31 by omega), ix_n (show k < 2 ^ 31 by omega), f1.i 420 _ (by simp) (by simp), z2 k hk, lt_e, lt_e, nI_1]
        · rw [hI_sI]
          by_cases e : x = k
          · rw [if_pos ⟨rfl, e⟩, e]
          · rw [if_neg (fun q => e q.2)]; exact g1 x (by omega)
      · obtain ⟨f1, g1⟩ := q
        have f2 : Fr [405] plB h (sI (sI z 383 53 0) 383 54 0) := ((f1.mn (by simp) (by simp)).p (by simp) _).p (by simp) _
        have v5 : ∀ x, x < 35 → hI (sI (sI z 383 53 0) 383 54 0) 405 x = Z x := fun x hx => by rw [hI_sI_c _ _ _ _ _ (by decide), hI_sI_c _ _ _ _ _ (by decide)]; exact g1 x hx
        refine ⟨(Z 33, sI (sI z 383 53 0) 383 54 0), ?_, rfl, f2, ⟨x.1.1.fr f2 (by simp) (by simp), v5⟩, ⟨?_, hI_sI_s _ _ _ _, fun i k hi => by omega⟩, by omega⟩
        · show f_M_back_l20 (nI d) (fu + 1) (nI 35) z = _
          rw [f_M_back_l20, if_pos (by decide), lt_e, lt_e, v5 33 (by omega)]
        · show hI (sI (sI z 383 53 0) 383 54 0) 383 53 = _
          rw [hI_sI, if_neg (by decide), hI_sI_s]; rfl
  · rw [if_neg ha, if_pos rfl, if_neg ha]
    exact ⟨h, rfl, Fr.rf _ _ _, Or.inr ⟨rfl, x⟩⟩
