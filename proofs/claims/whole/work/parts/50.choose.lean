/-! ===== clearing: the class's search ===== -/
theorem g1_ok {α : Type} {h : AH} {c k x : Nat} (K : Option α) (hr : hR h c k = some x) : g1 h c k x K = K := if_pos hr
def qC (M : MT) (Y : YT) : QT := (mN M, fun d => decide (Y (6 + d) < mNd M d), fun s => (Y (6 + s) - mNd M s).toInt.toNat, fun d s => decide (priceS M Y d s ≤ Y d), fun d s => priceS M Y d s)
def SX (M : MT) (Y : YT) (u : Nat) (z : AH) : Prop := (u = 3 ∨ u = 20) ∧ MK z u M ∧ YR (mN M) z 37 Y ∧ TU M Y z ∧ hR z 376 3 = some u ∧ hR z 376 4 = some 37 ∧ hR z 376 5 = some 51
abbrev scC : List Nat := [377, 378, 379]
abbrev plC : List (Nat × Nat) := [(376, 6), (376, 7)]
theorem SX.fr {M : MT} {Y : YT} {u : Nat} {z z1 : AH} (x : SX M Y u z) (f : Fr scC plC z z1) : SX M Y u z1 := by
  obtain ⟨hu, hM, hY, ⟨t1, t2⟩, r1, r2, r3⟩ := x
  refine ⟨hu, hM.fr f (fun q hq => ?_) (fun q hq => ?_), hY.fr f (fun q hq => ?_) (fun q hq => ?_), ⟨?_, fun j hj => ?_⟩, by rw [f.2.2.2]; exact r1, by rw [f.2.2.2]; exact r2, by rw [f.2.2.2]; exact r3⟩
  · simp only [scC, List.mem_cons, List.not_mem_nil, or_false] at hq; omega
  · simp only [plC, List.mem_cons, List.not_mem_nil, or_false] at hq; rcases hq with rfl | rfl <;> simp only <;> omega
  · simp only [scC, List.mem_cons, List.not_mem_nil, or_false] at hq; omega
  · simp only [plC, List.mem_cons, List.not_mem_nil, or_false] at hq; rcases hq with rfl | rfl <;> simp only <;> omega
  · rw [f.i _ _ (by simp) (by simp)]; exact t1
  · rw [f.i _ _ (by simp) (by simp)]; exact t2 j hj
def OV (M : MT) (Y : YT) (A : Nat → Nat) (d : Nat) (z : AH) : Prop := ∀ s, s < mN M → hI z 377 s = (Y (6 + s) - mNd M s) - nI (preC A s d)
def FO (A : Nat → Nat) (d : Nat) (z : AH) : Prop := ∀ i, i < d → hI z 378 i = lA A i
def SH (n : Nat) (st : CS) (z : AH) : Prop := hI z 376 6 = st.1 ∧ hI z 376 7 = st.2.1 ∧ ∀ i, i < n → hI z 379 i = st.2.2 i
theorem lA_c {A B : Nat → Nat} {i : Nat} (h : A i = B i) : lA A i = lA B i := by unfold lA; rw [h]
theorem cmp_ok {n : Nat} (hn : n ≤ 6) {st : CS} {z : AH} {A : Nat → Nat} (s : SH n st z) (f : FO A n z) (many : Nat) (paid : Int32) : ∃ z1, f_Clearing_compare (nI many) paid z = some z1 ∧ Fr scC plC z z1 ∧ hI z1 377 = hI z 377 ∧ hI z1 378 = hI z 378 ∧ SH n (cmpC st many paid (cutA n A)) z1 := by
  obtain ⟨s1, s2, s3⟩ := s
  have b24 : ∃ z1, f_Clearing_compare_b24 (nI many) paid z = some z1 ∧ Fr scC plC z z1 ∧ hI z1 377 = hI z 377 ∧ hI z1 378 = hI z 378 ∧ SH n (nI many, paid, lA (cutA n A)) z1 := by
    rw [f_Clearing_compare_b24, lt_e, lt_e, lt_e]
    have f1 : Fr scC plC z (sI (sI z 376 6 (nI many)) 376 7 paid) := ((Fr.rf _ _ _).p (by simp) _).p (by simp) _
    refine ⟨_, rfl, f1.sf (by simp) _, ?_, ?_, ?_, ?_, fun i hi => ?_⟩
    · rw [hI_sF, if_neg (by decide), hI_sI_c _ _ _ _ _ (by decide), hI_sI_c _ _ _ _ _ (by decide)]
    · rw [hI_sF, if_neg (by decide), hI_sI_c _ _ _ _ _ (by decide), hI_sI_c _ _ _ _ _ (by decide)]
    · rw [hI_sF, if_neg (by decide), hI_sI, if_neg (by decide), hI_sI_s]
    · rw [hI_sF, if_neg (by decide), hI_sI_s]
    · rw [hI_sF, if_pos rfl]
      unfold va_cpy
      rw [if_pos (by omega), show 0 + (i - 0) = i by omega, hI_sI_c _ _ _ _ _ (by decide), hI_sI_c _ _ _ _ _ (by decide), f i hi]
      exact lA_c (show A i = cutA n A i by unfold cutA; rw [if_pos hi])
  rw [f_Clearing_compare, s1, s2]
  unfold cmpC
  by_cases h1 : st.1 < nI many
  · rw [if_pos h1, if_pos h1]; exact b24
  · rw [if_neg h1, if_neg h1]
    by_cases h2 : nI many = st.1
    · rw [if_neg (fun q => q h2), if_pos h2]
      by_cases h3 : st.2.1 ≤ paid
      · rw [if_pos h3, if_pos h3]; exact ⟨z, rfl, Fr.rf _ _ _, rfl, rfl, s1, s2, s3⟩
      · rw [if_neg h3, if_neg h3]; exact b24
    · rw [if_pos h2, if_neg h2]; exact ⟨z, rfl, Fr.rf _ _ _, rfl, rfl, s1, s2, s3⟩
theorem ov_p {M : MT} {Y : YT} (b : BN M Y) {s : Nat} (hs : s < mN M) {c : Nat} (hc : c < 1000) : (Y (6 + s) - mNd M s) - nI c ≤ 0 ↔ ¬ c < (qC M Y).2.2.1 s := by
  obtain ⟨⟨b1, b2⟩, ⟨b3, b4⟩, -⟩ := b s hs
  show _ ↔ ¬ c < (Y (6 + s) - mNd M s).toInt.toNat
  have e1 : (Y (6 + s) - mNd M s).toInt = (Y (6 + s)).toInt - (mNd M s).toInt := i_sub (by omega) (by omega)
  have e2 : (nI c).toInt = c := nI_toInt (by omega)
  have e3 : (Y (6 + s) - mNd M s - nI c).toInt = (Y (6 + s)).toInt - (mNd M s).toInt - c := by rw [i_sub (by omega) (by omega)]; omega
  rw [i_le, e3, e1]
  show _ ≤ (0 : Int) ↔ _
  omega
theorem okP_s {M : MT} {Y : YT} (b : BN M Y) {A : Nat → Nat} {d s : Nat} (hd : d < mN M) (hs : s < mN M) : okP (qC M Y) A d (s + 1) = (decide (Y (6 + d) < mNd M d) && decide (preC A s d < (qC M Y).2.2.1 s) && decide (priceS M Y d s ≤ Y d)) := by
  unfold okP okD
  rw [show s + 1 - 1 = s from rfl]
  have e0 : decide (s + 1 = 0) = false := by simp
  have eG : (qC M Y).2.2.2.1 d s = decide (priceS M Y d s ≤ Y d) := rfl
  have eW : (qC M Y).2.1 d = decide (Y (6 + d) < mNd M d) := rfl
  rw [e0, eG, eW, Bool.false_or, Bool.false_or]
  by_cases w : Y (6 + d) < mNd M d
  · by_cases c : preC A s d < (qC M Y).2.2.1 s
    · have n1 : ¬ s = d := fun e => by
        subst e
        obtain ⟨⟨b1, b2⟩, ⟨b3, b4⟩, -⟩ := b s hs
        have c' : preC A s s < (Y (6 + s) - mNd M s).toInt.toNat := c
        rw [i_sub (by omega) (by omega)] at c'
        have := i_lt.mp w
        omega
      have n2 : 0 < (qC M Y).2.2.1 s := by omega
      simp [w, c, n1, n2]
    · simp [w, c]
  · simp [w]
theorem nI_sub1 (a : Int32) (c : Nat) : a - nI c - 1 = a - nI (c + 1) := by rw [Int32.sub_sub, nI_1]
theorem choose_ok {M : MT} {Y : YT} {u : Nat} (b : BN M Y) (h6 : mN M ≤ 6) : ∀ (k fu : Nat) (A : Nat → Nat) (st : CS) (z : AH), k ≤ mN M → k < fu → SX M Y u z → OV M Y A (mN M - k) z → FO A (mN M - k) z → SH (mN M) st z → (∀ x, preC A x (mN M - k) ≤ mN M - k) → ∃ z1, f_Clearing_choose fu (nI (mN M - k)) (nI (manyA A (mN M - k))) (paidA (priceS M Y) A (mN M - k)) z = some z1 ∧ Fr scC plC z z1 ∧ OV M Y A (mN M - k) z1 ∧ FO A (mN M - k) z1 ∧ SH (mN M) (DF (qC M Y) k A st) z1 := by
  intro k
  induction k with
  | zero =>
    intro fu A st z hk hf x o f s _
    obtain ⟨fu, rfl⟩ : ∃ q, fu = q + 1 := ⟨fu - 1, by omega⟩
    rw [Nat.sub_zero] at *
    obtain ⟨z1, e1, f1, g1', g2, s1⟩ := cmp_ok h6 s f (manyA A (mN M)) (paidA (priceS M Y) A (mN M))
    refine ⟨z1, ?_, f1, fun s hs => by rw [g1']; exact o s hs, fun i hi => by rw [g2]; exact f i hi, s1⟩
    rw [f_Clearing_choose, f_Clearing_choose_e, gd_ok _ x.2.2.2.2.1 (kd_u x.1), x.2.1.1.1, if_neg (n_nlt (by omega) (by omega)), e1, bV_s]
  | succ k ih =>
    intro fu A st z hk hf x o f s hp
    obtain ⟨fu, rfl⟩ : ∃ q, fu = q + 1 := ⟨fu - 1, by omega⟩
    have hd1 : mN M - (k + 1) + 1 = mN M - k := by omega
    have eDF : DF (qC M Y) (k + 1) A st = fdN (fun e t => if okP (qC M Y) A (mN M - (k + 1)) e = true then DF (qC M Y) k (updA A (mN M - (k + 1)) e) t else t) (1 + mN M) st := by rw [Nat.add_comm 1]; rfl
    rw [eDF, fdN_a]
    have e00 : fdN (fun e t => if okP (qC M Y) A (mN M - (k + 1)) e = true then DF (qC M Y) k (updA A (mN M - (k + 1)) e) t else t) 1 st = DF (qC M Y) k (updA A (mN M - (k + 1)) 0) st := by
      show (if okP (qC M Y) A (mN M - (k + 1)) 0 = true then DF (qC M Y) k (updA A (mN M - (k + 1)) 0) st else st) = _
      exact if_pos (by unfold okP okD; simp)
    rw [e00]
    generalize hd : mN M - (k + 1) = d at *
    have hdn : d < mN M := by omega
    -- one digit more
    have dig : ∀ (e : Nat) (st : CS) (z : AH), SX M Y u z → OV M Y (updA A d e) (d + 1) z → FO (updA A d e) (d + 1) z → SH (mN M) st z → ∃ z1, f_Clearing_choose fu (nI (d + 1)) (nI (manyA (updA A d e) (d + 1))) (paidA (priceS M Y) (updA A d e) (d + 1)) z = some z1 ∧ Fr scC plC z z1 ∧ OV M Y (updA A d e) (d + 1) z1 ∧ FO (updA A d e) (d + 1) z1 ∧ SH (mN M) (DF (qC M Y) k (updA A d e) st) z1 := fun e st z x o f s => by
      rw [hd1] at o f ⊢
      refine ih fu (updA A d e) st z (by omega) (by omega) x o f s (fun y => ?_)
      rw [← hd1]
      show preC (updA A d e) y d + (if _ then 1 else 0) ≤ d + 1
      rw [preC_c (B := A) y d (fun w hw => by unfold updA; rw [if_neg (by omega)])]
      have := hp y
      split <;> omega
    have cA : ∀ e, ∀ w, w < d → updA A d e w = A w := fun e w hw => by unfold updA; rw [if_neg (by omega)]
    have c0 : ∀ e, updA A d e d = e := fun e => by unfold updA; rw [if_pos rfl]
    have pC : ∀ e y, preC (updA A d e) y (d + 1) = preC A y d + (if e = y + 1 then 1 else 0) := fun e y => by
      show preC (updA A d e) y d + (if updA A d e d = y + 1 then 1 else 0) = _
      rw [preC_c _ _ (cA e), c0]
    have mC : ∀ e, manyA (updA A d e) (d + 1) = manyA A d + (if e = 0 then 0 else 1) := fun e => by
      show manyA (updA A d e) d + (if updA A d e d = 0 then 0 else 1) = _
      rw [manyA_c _ (cA e), c0]
    have qA : ∀ e, paidA (priceS M Y) (updA A d e) (d + 1) = paidA (priceS M Y) A d + (if e = 0 then 0 else priceS M Y d (e - 1)) := fun e => by
      show paidA (priceS M Y) (updA A d e) d + (if updA A d e d = 0 then 0 else priceS M Y d (updA A d e d - 1)) = _
      rw [paidA_c _ _ (cA e), c0]
    -- nobody
    have f1 : Fr scC plC z (sI z 378 d (-1)) := (Fr.rf _ _ _).s (by simp) _ _
    have x1 := x.fr f1
    have o1 : OV M Y (updA A d 0) (d + 1) (sI z 378 d (-1)) := fun y hy => by
      rw [hI_sI_c _ _ _ _ _ (by decide), pC, if_neg (by omega)]
      exact o y hy
    have g1' : FO (updA A d 0) (d + 1) (sI z 378 d (-1)) := fun i hi => by
      rw [hI_sI]
      by_cases e : i = d
      · subst e
        rw [if_pos ⟨rfl, rfl⟩]
        unfold lA
        rw [c0]
        rfl
      · rw [if_neg (fun q => e q.2), f i (by omega)]
        exact lA_c (cA 0 i (by omega)).symm
    have s1 : SH (mN M) st (sI z 378 d (-1)) := ⟨by rw [hI_sI_c _ _ _ _ _ (by decide)]; exact s.1, by rw [hI_sI_c _ _ _ _ _ (by decide)]; exact s.2.1, fun i hi => by rw [hI_sI_c _ _ _ _ _ (by decide)]; exact s.2.2 i hi⟩
    obtain ⟨z2, e2, f2, o2, g2, s2⟩ := dig 0 st _ x1 o1 g1' s1
    have m0 : manyA (updA A d 0) (d + 1) = manyA A d := by rw [mC, if_pos rfl]; rfl
    have q0 : paidA (priceS M Y) (updA A d 0) (d + 1) = paidA (priceS M Y) A d := by rw [qA, if_pos rfl, Int32.add_zero]
    rw [m0, q0] at e2
    have x2 := x1.fr f2
    have f12 := f1.t f2
    have o2' : OV M Y A d z2 := fun y hy => by rw [o2 y hy, pC, if_neg (by omega)]; rfl
    have g2' : FO A d z2 := fun i hi => by rw [g2 i (by omega)]; exact lA_c (cA 0 i hi)
    have gd6 : ∀ K : Option AH, gx (nI d) 6 K = K := fun K => gx_n K (by omega) (by omega)
    rw [f_Clearing_choose, f_Clearing_choose_e, gd_ok _ x.2.2.2.2.1 (kd_u x.1), x.2.1.1.1, if_pos (n_lt hdn (by omega)), gd6, lt_e, nI_1, ix_n (show d < 2 ^ 31 by omega), e2, bV_s, gd_ok _ x2.2.2.2.2.2.1 (show kdF 37 = .inr 10 from rfl), gd6, gd_ok _ x2.2.2.2.2.1 (kd_u x.1), gd6, show hI z2 (37 + 2) d = Y (6 + d) from (x2.2.2.1.1 d hdn).2.1, (x2.2.1.1.2.2 d hdn).2.2]
    by_cases w : Y (6 + d) < mNd M d
    · rw [if_pos w]
      generalize DF (qC M Y) k (updA A d 0) st = st1 at s2 ⊢
      refine lqc (fun fu' y (v : AH) => f_Clearing_choose_l59 (f_Clearing_choose fu) (nI d) (nI (manyA A d)) (paidA (priceS M Y) A d) fu' (nI y) v) (fun y v => Fr scC plC z v ∧ OV M Y A d v ∧ FO A d v ∧ SH (mN M) (fdN (fun e t => if okP (qC M Y) A d (1 + e) = true then DF (qC M Y) k (updA A d (1 + e)) t else t) y st1) v) (fun v => some v) (mN M) (by omega) z2 ⟨f12, o2', g2', s2⟩ (fun r e q => ⟨r, e, q⟩) (fun y fu' v hy p => ?_) (fun fu' v p => ?_)
      · obtain ⟨f3, o3, g3, s3⟩ := p
        have x3 := x.fr f3
        have gy6 : ∀ K : Option AH, gx (nI y) 6 K = K := fun K => gx_n K (by omega) (by omega)
        have pl := hp y
        have eok := okP_s b (A := A) hdn hy
        rw [Nat.add_comm] at eok
        show ∃ s', f_Clearing_choose_l59 (f_Clearing_choose fu) (nI d) (nI (manyA A d)) (paidA (priceS M Y) A d) (fu' + 1) (nI y) v = f_Clearing_choose_l59 (f_Clearing_choose fu) (nI d) (nI (manyA A d)) (paidA (priceS M Y) A d) fu' (nI (y + 1)) s' ∧ Fr scC plC z s' ∧ OV M Y A d s' ∧ FO A d s' ∧ SH (mN M) (if okP (qC M Y) A d (1 + y) = true then DF (qC M Y) k (updA A d (1 + y)) (fdN (fun e t => if okP (qC M Y) A d (1 + e) = true then DF (qC M Y) k (updA A d (1 + e)) t else t) y st1) else (fdN (fun e t => if okP (qC M Y) A d (1 + e) = true then DF (qC M Y) k (updA A d (1 + e)) t else t) y st1)) s'
        generalize fdN (fun e t => if okP (qC M Y) A d (1 + e) = true then DF (qC M Y) k (updA A d (1 + e)) t else t) y st1 = st2 at s3 ⊢
        rw [f_Clearing_choose_l59, gd_ok _ x3.2.2.2.2.1 (kd_u x.1), x3.2.1.1.1, if_neg (nI_ge hy (by omega)), g1_ok _ x3.2.2.2.2.2.2, x3.2.2.2.1.half h6 hdn hy, bI_s, gy6, ix_n (show y < 2 ^ 31 by omega), o3 y hy]
        simp only [lt_e, nI_1]
        by_cases c : preC A y d < (qC M Y).2.2.1 y
        · rw [if_neg (fun q => (ov_p b hy (by omega)).mp q c), gd_ok _ x3.2.2.2.2.2.1 (show kdF 37 = .inr 10 from rfl), gd6, ix_n (show d < 2 ^ 31 by omega), show hI v (37 + 1) d = Y d from (x3.2.2.1.1 d hdn).1]
          by_cases g : priceS M Y d y ≤ Y d
          · have ho : okP (qC M Y) A d (1 + y) = true := by rw [eok]; simp [w, c, g]
            rw [if_neg (Int32.not_lt.mpr g), if_pos ho, gy6, gy6, gd6, nI_sub1]
            have f4 : Fr scC plC v (sI (sI v 377 y (Y (6 + y) - mNd M y - nI (preC A y d + 1))) 378 d (nI y)) := ((Fr.rf _ _ _).s (by simp) _ _).s (by simp) _ _
            have x4 := x3.fr f4
            have o4 : OV M Y (updA A d (1 + y)) (d + 1) (sI (sI v 377 y (Y (6 + y) - mNd M y - nI (preC A y d + 1))) 378 d (nI y)) := fun y' hy' => by
              rw [hI_sI_c _ _ _ _ _ (by decide), hI_sI, pC]
              by_cases e : y' = y
              · subst e
                rw [if_pos ⟨rfl, rfl⟩, if_pos (by omega)]
              · rw [if_neg (fun q => e q.2), if_neg (by omega)]
                exact o3 y' hy'
            have g4 : FO (updA A d (1 + y)) (d + 1) (sI (sI v 377 y (Y (6 + y) - mNd M y - nI (preC A y d + 1))) 378 d (nI y)) := fun i hi => by
              rw [hI_sI]
              by_cases e : i = d
              · subst e
                rw [if_pos ⟨rfl, rfl⟩]
                unfold lA
                rw [c0, if_neg (by omega), show 1 + y - 1 = y by omega]
              · rw [if_neg (fun q => e q.2), hI_sI_c _ _ _ _ _ (by decide), g3 i (by omega)]
                exact lA_c (cA _ i (by omega)).symm
            have s4 : SH (mN M) st2 (sI (sI v 377 y (Y (6 + y) - mNd M y - nI (preC A y d + 1))) 378 d (nI y)) := ⟨by rw [hI_sI_c _ _ _ _ _ (by decide), hI_sI_c _ _ _ _ _ (by decide)]; exact s3.1, by rw [hI_sI_c _ _ _ _ _ (by decide), hI_sI_c _ _ _ _ _ (by decide)]; exact s3.2.1, fun i hi => by rw [hI_sI_c _ _ _ _ _ (by decide), hI_sI_c _ _ _ _ _ (by decide)]; exact s3.2.2 i hi⟩
            obtain ⟨z5, e5, f5, o5, g5, s5⟩ := dig (1 + y) st2 _ x4 o4 g4 s4
            have m5 : manyA (updA A d (1 + y)) (d + 1) = manyA A d + 1 := by rw [mC, if_neg (by omega)]
            have q5 : paidA (priceS M Y) (updA A d (1 + y)) (d + 1) = paidA (priceS M Y) A d + priceS M Y d y := by rw [qA, if_neg (by omega), show 1 + y - 1 = y by omega]
            rw [m5, q5] at e5
            rw [e5, bV_s, gy6, gy6]
            refine ⟨_, rfl, (f3.t (f4.t f5)).s (by simp) _ _, fun y' hy' => ?_, fun i hi => ?_, ?_, ?_, fun i hi => ?_⟩
            · rw [hI_sI, o5 y hy, pC, if_pos (show 1 + y = y + 1 by omega), ← nI_sub1, Int32.sub_add_cancel]
              by_cases e : y' = y
              · subst e
                rw [if_pos ⟨rfl, rfl⟩]
              · rw [if_neg (fun q => e q.2), o5 y' hy', pC, if_neg (by omega)]
                rfl
            · rw [hI_sI_c _ _ _ _ _ (by decide), g5 i (by omega)]
              exact lA_c (cA _ i hi)
            · rw [hI_sI_c _ _ _ _ _ (by decide)]; exact s5.1
            · rw [hI_sI_c _ _ _ _ _ (by decide)]; exact s5.2.1
            · rw [hI_sI_c _ _ _ _ _ (by decide)]; exact s5.2.2 i hi
          · have ho : ¬ okP (qC M Y) A d (1 + y) = true := by rw [eok]; simp [g]
            rw [if_pos (Int32.not_le.mp g), if_neg ho]
            exact ⟨v, rfl, f3, o3, g3, s3⟩
        · have ho : ¬ okP (qC M Y) A d (1 + y) = true := by rw [eok]; simp [c]
          rw [if_pos ((ov_p b hy (by omega)).mpr c), if_neg ho]
          exact ⟨v, rfl, f3, o3, g3, s3⟩
      · have x3 := x.fr p.1
        show f_Clearing_choose_l59 _ _ _ _ (fu' + 1) (nI (mN M)) v = _
        rw [f_Clearing_choose_l59, gd_ok _ x3.2.2.2.2.1 (kd_u x.1), x3.2.1.1.1, if_pos (nI_le (by omega) (by omega))]
    · rw [if_neg w]
      refine ⟨z2, rfl, f12, o2', g2', ?_⟩
      rw [fdN_i _ _ _ (fun y t hy => ?_)]
      · exact s2
      · show (if okP (qC M Y) A d (1 + y) = true then _ else t) = t
        rw [if_neg]
        rw [Nat.add_comm, okP_s b hdn hy]
        simp [w]
