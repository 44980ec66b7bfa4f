/-! ===== rest on both sides ===== -/
abbrev RT : Type := Nat × Option (Nat × Nat)
def rst (M : MT) (Y : YT) (i j : Nat) (L : Int32) (b : Nat) (acc : RT) (s : Nat) : RT := if rsB M Y i j L b s = true then (acc.1 + 1, if acc.1 = 0 then some (b, s) else acc.2) else acc
def rin (M : MT) (Y : YT) (i j : Nat) (L : Int32) (b : Nat) (acc : RT) : Nat → RT
  | 0 => acc
  | k + 1 => rst M Y i j L b (rin M Y i j L b acc k) k
def rou (M : MT) (Y : YT) (i j : Nat) (L : Int32) : Nat → RT
  | 0 => (0, none)
  | k + 1 => rin M Y i j L k (rou M Y i j L k) 5
def rV (o : Option (Nat × Nat)) : Nat → Int32 := fun i => match o with | none => 0 | some p => if i = 0 then bz p.1 else bz p.2
def WA (acc : RT) (m : Nat) : Prop := (acc.1 = 0 → acc.2 = none) ∧ (¬ acc.1 = 0 → ∃ p, acc.2 = some p) ∧ acc.1 ≤ m
theorem WA.st {M : MT} {Y : YT} {i j : Nat} {L : Int32} {b s m : Nat} {acc : RT} (w : WA acc m) : WA (rst M Y i j L b acc s) (m + 1) := by
  obtain ⟨w1, w2, w3⟩ := w
  unfold rst
  split
  · refine ⟨fun q => absurd q (by simp), fun _ => ?_, by simp; omega⟩
    by_cases h0 : acc.1 = 0
    · exact ⟨(b, s), by simp [h0]⟩
    · obtain ⟨p, hp⟩ := w2 h0
      exact ⟨p, by simp [h0, hp]⟩
  · exact ⟨w1, w2, by omega⟩
theorem n_z {a : Nat} (ha : a < 1000) : nI a = 0 ↔ a = 0 := n_eqv (b := 0) ha (by omega)
abbrev scT (u : Nat) : List Nat := [381, 382, 45, 46, 47, 48, 49, 50, 52, u + 12, u + 16]
abbrev plT : List (Nat × Nat) := [(380, 1), (51, 1), (44, 6), (44, 7), (44, 8), (44, 9)]
def RP (M : MT) (Y : YT) (i j u : Nat) (L : Int32) (h0 : AH) (acc : RT) (m : Nat) (z : AH) : Prop := Fr (scT u) plT h0 z ∧ RW M Y i j L 25 z ∧ WA acc m ∧ LH z (gN acc.2) (rV acc.2)
theorem H_rest_in {M : MT} {Y : YT} {u : Nat} {L : Int32} {h0 h : AH} {i j b m : Nat} (hb : b < 5) (hm : m < 900) (K : Int32 → Int32 → AH → Option (Int32 × AH)) {acc : RT} (p : RP M Y i j u L h0 acc m h) : ∃ h1, f_H_rest_l74 (nI i) (nI j) L K FU (nI acc.1) (nI b) 0 h = K (nI (rin M Y i j L b acc 5).1) (nI (b + 1)) h1 ∧ RP M Y i j u L h0 (rin M Y i j L b acc 5) (m + 5) h1 := by
  refine lqc (fun fu k (z : AH) => f_H_rest_l74 (nI i) (nI j) L K fu (nI (rin M Y i j L b acc k).1) (nI b) (nI k) z) (fun k z => RP M Y i j u L h0 (rin M Y i j L b acc k) (m + k) z) (fun z => K (nI (rin M Y i j L b acc 5).1) (nI (b + 1)) z) 5 (by omega) h p (fun r e q => ⟨r, e, q⟩) (fun k fu z hk p => ?_) (fun fu z p => ?_)
  · show ∃ s', f_H_rest_l74 (nI i) (nI j) L K (fu + 1) (nI (rin M Y i j L b acc k).1) (nI b) (nI k) z = f_H_rest_l74 (nI i) (nI j) L K fu (nI (rst M Y i j L b (rin M Y i j L b acc k) k).1) (nI b) (nI (k + 1)) s' ∧ RP M Y i j u L h0 (rst M Y i j L b (rin M Y i j L b acc k) k) (m + k + 1) s'
    obtain ⟨f1, r1, w1, l1⟩ := p
    have w2 := w1.st (M := M) (Y := Y) (i := i) (j := j) (L := L) (b := b) (s := k)
    generalize rin M Y i j L b acc k = A at w1 w2 l1 ⊢
    rw [f_H_rest_l74, if_neg (show ¬ (5 : Int32) ≤ nI k from nI_ge (a := k) (b := 5) hk (by omega)), bStay_ok r1 hb hk, bI_s, sStay_ok r1 hb hk, bI_s]
    simp only [lt_e, nI_1]
    unfold rst rsB at *
    by_cases hB : allB (bSt M Y i j L b k) 5 = true
    · rw [if_pos hB, if_neg (by decide)]
      by_cases hS : allB (sSt M Y i j L b k) 5 = true
      · rw [hB, hS] at w2
        rw [if_pos hS, if_neg (by decide), hB, hS]
        rw [show (true && true) = true from rfl, if_pos rfl] at w2 ⊢
        have w13 := w1.2.2
        by_cases h0 : A.1 = 0
        · have hn := w1.1 h0
          rw [if_neg (fun q => q ((n_z (by omega)).mpr h0)), if_pos h0]
          rw [if_pos h0] at w2
          rw [hn] at l1
          obtain ⟨h3, e3, f3, l3⟩ := add_ok l1 (by show 0 < 12; omega) (nI b - 2)
          obtain ⟨h4, e4, f4, l4⟩ := add_ok l3 (by show 0 + 1 < 12; omega) (nI k - 2)
          have ff := f3.t f4
          rw [e3, bV_s, e4, bV_s]
          refine ⟨h4, rfl, f1.t (ff.mn (by simp) (by simp)), fun b' s' hb' hs' hm' => ?_, w2, l4.v (fun x hx => ?_)⟩
          · rw [ff.i _ _ (by simp) (by simp)]
            exact r1 b' s' hb' hs' hm'
          · rw [upd_a, upd_a]
            have : x = 0 ∨ x = 1 := by
              have : x < 0 + 1 + 1 := hx
              omega
            rcases this with rfl | rfl <;> rfl
        · rw [if_pos (fun q => h0 ((n_z (by omega)).mp q)), if_neg h0]
          rw [if_neg h0] at w2
          exact ⟨z, rfl, f1, r1, w2, l1⟩
      · rw [if_neg hS, if_pos rfl]
        rw [if_neg (by simp [hS])] at w2 ⊢
        exact ⟨z, rfl, f1, r1, w2, l1⟩
    · rw [if_neg hB, if_pos rfl]
      rw [if_neg (by simp [hB])] at w2 ⊢
      exact ⟨z, rfl, f1, r1, w2, l1⟩
  · show f_H_rest_l74 (nI i) (nI j) L K (fu + 1) _ (nI b) (nI 5) z = _
    rw [f_H_rest_l74, if_pos (by decide), lt_e, nI_1]
def restO (M : MT) (Y : YT) (a b L : Int32) : Option RT := if twoS (mN M) a b = true ∧ freeS Y (ix a) = false ∧ freeS Y (ix b) = false ∧ (1 ≤ L ∧ L ≤ 9) then some (rou M Y (ix a) (ix b) L 5) else none
def restA (o : Option RT) : Int32 := match o with | none => -1 | some r => nI r.1
def restP (o : Option RT) : Option (Nat × Nat) := match o with | none => none | some r => r.2
theorem two_ne {n : Nat} {i j : Nat} (hi : i < 1000) (hj : j < 1000) (h : twoS n (nI i) (nI j) = true) : ¬ i = j := fun q => by
  subst q
  unfold twoS at h
  simp at h
theorem rou_w (M : MT) (Y : YT) (i j : Nat) (L : Int32) : ∀ k, WA (rou M Y i j L k) (5 * k) := by
  have gi : ∀ b acc m, WA acc m → ∀ k, WA (rin M Y i j L b acc k) (m + k) := fun b acc m w k => by
    induction k with
    | zero => exact w
    | succ k ih => exact ih.st
  intro k
  induction k with
  | zero => exact ⟨fun _ => rfl, fun q => absurd rfl q, by show 0 ≤ _; omega⟩
  | succ k ih => exact gi _ _ _ ih 5
theorem H_rest_ok {M : MT} {Y : YT} {u : Nat} {h : AH} (s : HS h M Y u) (b0 : BN M Y) (c0 : BC M Y) (a b L : Int32) : ∃ h1, f_H_rest a b L h = some (restA (restO M Y a b L), h1) ∧ Fr (scT u) plT h h1 ∧ LH h1 (gN (restP (restO M Y a b L))) (rV (restP (restO M Y a b L))) := by
  have h6 := s.2.2.1.1.2.1
  obtain ⟨h1, e1, f1, l1⟩ := wipe_ok h (rV none)
  have s1 := s.f f1 (by simp) (by simp)
  have f1' : Fr (scT u) plT h h1 := f1.mn (by simp) (by simp)
  rw [f_H_rest, e1, bV_s, H_areTwo_ok s1, bI_s]
  have no : ∀ (q : ¬ (twoS (mN M) a b = true ∧ freeS Y (ix a) = false ∧ freeS Y (ix b) = false ∧ (1 ≤ L ∧ L ≤ 9))), ∃ h2, some ((-1 : Int32), h1) = some (restA (restO M Y a b L), h2) ∧ Fr (scT u) plT h h2 ∧ LH h2 (gN (restP (restO M Y a b L))) (rV (restP (restO M Y a b L))) := fun q => by
    unfold restO
    rw [if_neg q]
    exact ⟨h1, rfl, f1', l1⟩
  by_cases hq : twoS (mN M) a b = true
  · rw [if_pos hq, if_neg (by decide)]
    obtain ⟨i, j, hi, hj, rfl, rfl⟩ := two_ix h6 hq
    have hij := two_ne (by omega) (by omega) hq
    have yi : hI h1 43 i = (if freeS Y i = true then 1 else 0) := (s1.2.2.2.1 i hi).2.2.2.2.2
    have yj : hI h1 43 j = (if freeS Y j = true then 1 else 0) := (s1.2.2.2.1 j hj).2.2.2.2.2
    rw [gx_n _ (show i < 6 by omega) (by omega), gx_n _ (show j < 6 by omega) (by omega), ix_n (show i < 2 ^ 31 by omega), ix_n (show j < 2 ^ 31 by omega), yi, yj]
    by_cases hfi : freeS Y i = true
    · rw [if_pos hfi, if_pos (by decide)]
      exact no (fun q => by rw [ix_n (show i < 2 ^ 31 by omega), hfi] at q; exact absurd q.2.1 (by decide))
    · rw [if_neg hfi, if_neg (by decide)]
      by_cases hfj : freeS Y j = true
      · rw [if_pos hfj, if_pos (by decide)]
        exact no (fun q => by rw [ix_n (show j < 2 ^ 31 by omega), hfj] at q; exact absurd q.2.2.1 (by decide))
      · rw [if_neg hfj, if_neg (by decide), within_e, bI_s]
        by_cases hL : 1 ≤ L ∧ L ≤ 9
        · rw [if_pos hL, if_pos (by decide)]
          obtain ⟨h2, e2, f2, r2⟩ := hear_ok s1 b0 c0 (L := L) hi hj hij
          rw [e2, bV_s]
          have eO : restO M Y (nI i) (nI j) L = some (rou M Y i j L 5) := by
            unfold restO
            rw [ix_n (show i < 2 ^ 31 by omega), ix_n (show j < 2 ^ 31 by omega), if_pos ⟨hq, Bool.eq_false_iff.mpr hfi, Bool.eq_false_iff.mpr hfj, hL⟩]
          rw [eO]
          have l2 : LH h2 0 (rV none) := l1.fr f2 (by have := s1.1; simp; omega) (by simp)
          refine lqc (fun fu k (z : AH) => f_H_rest_l65 (nI i) (nI j) L fu (nI (rou M Y i j L k).1) (nI k) z) (fun k z => RP M Y i j u L h (rou M Y i j L k) (5 * k) z) (fun z => some (nI (rou M Y i j L 5).1, z)) 5 (by omega) h2 ⟨f1'.t (f2.mn (by simp) (by simp)), r2, rou_w M Y i j L 0, l2⟩ (fun r e q => ⟨r, e, q.1, q.2.2.2⟩) (fun k fu z hk p => ?_) (fun fu z p => ?_)
          · obtain ⟨h3, e3, p3⟩ := H_rest_in hk (by omega) (f_H_rest_l65 (nI i) (nI j) L fu) p
            refine ⟨h3, ?_, by rw [show 5 * (k + 1) = 5 * k + 5 by omega]; exact p3⟩
            show f_H_rest_l65 (nI i) (nI j) L (fu + 1) _ (nI k) z = _
            rw [f_H_rest_l65, if_neg (show ¬ (5 : Int32) ≤ nI k from nI_ge (a := k) (b := 5) hk (by omega))]
            exact e3
          · show f_H_rest_l65 (nI i) (nI j) L (fu + 1) _ (nI 5) z = _
            rw [f_H_rest_l65, if_pos (by decide)]
        · rw [if_neg hL, if_neg (by decide)]
          exact no (fun q => hL q.2.2.2)
  · rw [if_neg hq, if_pos rfl]
    exact no (fun q => hq q.1)
/-! the reference's -/
def MP (M : MT) (Y : YT) (i j : Nat) (h0 z : AH) : Prop := (∃ Y', MM z M ∧ AY z Y' ∧ ∀ v w, brY Y' i j v w = brY Y i j v w) ∧ Fr sca [] h0 z
theorem pay_ok {M : MT} {Y : YT} {L : Int32} {h0 z : AH} {i j b s : Nat} (hi : i < mN M) (hj : j < mN M) (hij : ¬ i = j) (hb : b < 5) (hs : s < 5) (p : MP M Y i j h0 z) : ∃ h1, (f_M_payOf (nI i) (nI j) L (bz b) (bz s) 1 z = some (bH M Y i j L b s, h1) ∧ f_M_payOf (nI i) (nI j) L (bz b) (bz s) 0 z = some (sH M Y i j L b s, h1)) ∧ MP M Y i j h0 h1 := by
  obtain ⟨⟨Y', hM, hY, ye⟩, f⟩ := p
  have h6 := hM.1.2.1
  have e24 : ∀ k : Nat, (24 : Int32) + nI k = nI (24 + k) := fun k => n_add 24 k
  have a1 : AY (sI (sI z 406 (24 + i) (bz b)) 406 (24 + j) (bz s)) (brY Y i j (bz b) (bz s)) := by
    rw [← ye]
    exact (hY.s _ _).s _ _
  have ff : Fr [406] [] z (sI (sI z 406 (24 + i) (bz b)) 406 (24 + j) (bz s)) := ((Fr.rf _ _ _).s (by simp) _ _).s (by simp) _ _
  have m1 := hM.fr ff (by simp) (by simp)
  obtain ⟨h1, e1, f1⟩ := M_priceOf_ok m1 a1 hi hj
  have ew : L * priceS M (brY Y i j (bz b) (bz s)) i j = wpS M Y i j L b s := rfl
  refine ⟨h1, ⟨?_, ?_⟩, ⟨_, m1.fr f1 (by simp) (by simp), a1.fr f1 (by simp) (by simp), fun v w => brY_r _ hij _ _ _ _⟩, (f.t (ff.mn (by simp) (by simp))).t (f1.mn (by simp) (by simp))⟩
  · rw [f_M_payOf, e24, e24, gx_n _ (show 24 + i < 35 by omega) (by omega), lt_e, gx_n _ (show 24 + j < 35 by omega) (by omega), lt_e, ix_n (show 24 + i < 2 ^ 31 by omega), ix_n (show 24 + j < 2 ^ 31 by omega), e1, bI_s, lt_e, ew, if_neg (by decide), f_M_payOf_b44, if_neg (by decide), f_M_payOf_b59]
    unfold bH
    rw [← bz_ab hb]
    split <;> rfl
  · rw [f_M_payOf, e24, e24, gx_n _ (show 24 + i < 35 by omega) (by omega), lt_e, gx_n _ (show 24 + j < 35 by omega) (by omega), lt_e, ix_n (show 24 + i < 2 ^ 31 by omega), ix_n (show 24 + j < 2 ^ 31 by omega), e1, bI_s, lt_e, ew, if_pos rfl, f_M_payOf_b44, if_pos rfl, f_M_payOf_b59]
    unfold sH
    rw [← bz_ab hs]
    split <;> rfl
theorem isRest_ok {M : MT} {Y : YT} {L : Int32} {h0 z : AH} {i j b s : Nat} (hi : i < mN M) (hj : j < mN M) (hij : ¬ i = j) (hb : b < 5) (hs : s < 5) (p : MP M Y i j h0 z) : ∃ h1, f_M_isRest (nI i) (nI j) L (bz b) (bz s) z = some (if rsB M Y i j L b s = true then 1 else 0, h1) ∧ MP M Y i j h0 h1 := by
  obtain ⟨h1, e1, p1⟩ := pay_ok (L := L) hi hj hij hb hs p
  obtain ⟨h2, e2, p2⟩ := pay_ok (L := L) hi hj hij hb hs p1
  rw [f_M_isRest, e1.1, bI_s, e2.2, bI_s]
  have ers : rsB M Y i j L b s = allB (fun x => bSt M Y i j L b s x && sSt M Y i j L b s x) 5 := (allB_and _ _ _).symm
  rw [ers]
  have gg : ∀ (c : Bool) (K : Option (Int32 × AH)), gb (if c = true then 1 else 0) K = K := fun c K => by cases c; exact gb_0 K; exact gb_1 K
  refine lpc (fun fu k (st : Int32 × AH) => f_M_isRest_l35 (nI i) (nI j) L (bz b) (bz s) fu (bH M Y i j L b s) (sH M Y i j L b s) st.1 (bz k) st.2) (fun k st => st.1 = (if allB (fun x => bSt M Y i j L b s x && sSt M Y i j L b s x) k = true then 1 else 0) ∧ MP M Y i j h0 st.2) (fun r => r.1 = (if allB (fun x => bSt M Y i j L b s x && sSt M Y i j L b s x) 5 = true then 1 else 0) ∧ MP M Y i j h0 r.2) 5 (by omega) (1, h2) ⟨rfl, p2⟩ (fun r e q => ⟨r.2, by rw [← q.1]; exact e, q.2⟩) (fun k fu st hk p => ?_) (fun fu st p => ?_)
  · obtain ⟨x, z3⟩ := st
    obtain ⟨rfl, p3⟩ := p
    have er : ∀ c : Bool, f_M_isRest_l35 (nI i) (nI j) L (bz b) (bz s) (fu + 1) (bH M Y i j L b s) (sH M Y i j L b s) (if c = true then 1 else 0) (bz k) z3 = if c = false then some (0, z3) else f_M_isRest_l35 (nI i) (nI j) L (bz b) (bz s) (fu + 1) (bH M Y i j L b s) (sH M Y i j L b s) 1 (bz k) z3 := fun c => by
      cases c with
      | false =>
        rw [f_M_isRest_l35, if_neg (bz_l hk), if_pos (show (if false = true then (1 : Int32) else 0) = 0 from rfl), gg, if_pos rfl]
        rfl
      | true => rfl
    show (∃ s', f_M_isRest_l35 (nI i) (nI j) L (bz b) (bz s) (fu + 1) (bH M Y i j L b s) (sH M Y i j L b s) (if allB (fun x => bSt M Y i j L b s x && sSt M Y i j L b s x) k = true then 1 else 0) (bz k) z3 = _ ∧ _) ∨ (∃ r, f_M_isRest_l35 (nI i) (nI j) L (bz b) (bz s) (fu + 1) (bH M Y i j L b s) (sH M Y i j L b s) (if allB (fun x => bSt M Y i j L b s x && sSt M Y i j L b s x) k = true then 1 else 0) (bz k) z3 = some r ∧ _)
    rw [er]
    by_cases ha : allB (fun x => bSt M Y i j L b s x && sSt M Y i j L b s x) k = false
    · rw [if_pos ha]
      refine Or.inr ⟨_, rfl, ?_, p3⟩
      have : ∀ n, k ≤ n → allB (fun x => bSt M Y i j L b s x && sSt M Y i j L b s x) n = false := fun n hn => by
        induction n with
        | zero => have : k = 0 := by omega
                  subst this; exact ha
        | succ n ih =>
          by_cases e : k = n + 1
          · subst e; exact ha
          · show (allB _ n && _) = false
            rw [ih (by omega), Bool.false_and]
      rw [this 5 (by omega)]
      rfl
    · rw [if_neg ha]
      have ht : allB (fun x => bSt M Y i j L b s x && sSt M Y i j L b s x) k = true := by
        cases h : allB (fun x => bSt M Y i j L b s x && sSt M Y i j L b s x) k with
        | false => exact absurd h ha
        | true => rfl
      refine Or.inl ?_
      obtain ⟨h4, e4, p4⟩ := pay_ok (L := L) hi hj hij hk hs p3
      obtain ⟨h5, e5, p5⟩ := pay_ok (L := L) hi hj hij hb hk p4
      have ek : allB (fun x => bSt M Y i j L b s x && sSt M Y i j L b s x) (k + 1) = (bSt M Y i j L b s k && sSt M Y i j L b s k) := by
        show (allB _ k && _) = _
        rw [ht, Bool.true_and]
      rw [f_M_isRest_l35, if_neg (bz_l hk), if_neg (by decide), e4.1, bI_s]
      simp only [lt_e, bz_s k hk]
      by_cases q1 : bH M Y i j L k s ≤ bH M Y i j L b s
      · rw [if_neg (Int32.not_lt.mpr q1), e5.2, bI_s]
        by_cases q2 : sH M Y i j L b k ≤ sH M Y i j L b s
        · rw [if_neg (Int32.not_lt.mpr q2)]
          exact ⟨(1, h5), rfl, by rw [ek]; simp [bSt, sSt, q1, q2], p5⟩
        · rw [if_pos (Int32.not_le.mp q2)]
          exact ⟨(0, h5), rfl, by rw [ek]; simp [bSt, sSt, q2], p5⟩
      · rw [if_pos (Int32.not_le.mp q1)]
        exact ⟨(0, h4), rfl, by rw [ek]; simp [bSt, q1], p4⟩
  · obtain ⟨x, z3⟩ := st
    obtain ⟨rfl, p3⟩ := p
    refine ⟨(if allB (fun x => bSt M Y i j L b s x && sSt M Y i j L b s x) 5 = true then 1 else 0, z3), ?_, rfl, p3⟩
    show f_M_isRest_l35 (nI i) (nI j) L (bz b) (bz s) (fu + 1) _ _ _ (bz 5) z3 = _
    rw [f_M_isRest_l35, if_pos bz_e, gg]
def MQy (M : MT) (Y : YT) (i j : Nat) (z : AH) : Prop := ∃ Y', MM z M ∧ AY z Y' ∧ ∀ v w, brY Y' i j v w = brY Y i j v w
def NP (M : MT) (Y : YT) (i j : Nat) (h0 : AH) (acc : RT) (m : Nat) (z : AH) : Prop := MQy M Y i j z ∧ Fr scL plL h0 z ∧ WA acc m ∧ ∀ p, acc.2 = some p → hI z 409 0 = bz p.1 ∧ hI z 409 1 = bz p.2
theorem M_rest_in {M : MT} {Y : YT} {L : Int32} {h0 h : AH} {i j b m : Nat} (hi : i < mN M) (hj : j < mN M) (hij : ¬ i = j) (hb : b < 5) (hm : m < 900) (K : Int32 → Int32 → AH → Option (Int32 × AH)) {acc : RT} (p : NP M Y i j h0 acc m h) : ∃ h1, f_M_rest_l63 (nI i) (nI j) L K FU (nI acc.1) (bz b) (-2) h = K (nI (rin M Y i j L b acc 5).1) (bz (b + 1)) h1 ∧ NP M Y i j h0 (rin M Y i j L b acc 5) (m + 5) h1 := by
  refine lqc (fun fu k (z : AH) => f_M_rest_l63 (nI i) (nI j) L K fu (nI (rin M Y i j L b acc k).1) (bz b) (bz k) z) (fun k z => NP M Y i j h0 (rin M Y i j L b acc k) (m + k) z) (fun z => K (nI (rin M Y i j L b acc 5).1) (bz (b + 1)) z) 5 (by omega) h p (fun r e q => ⟨r, e, q⟩) (fun k fu z hk p => ?_) (fun fu z p => ?_)
  · show ∃ s', f_M_rest_l63 (nI i) (nI j) L K (fu + 1) (nI (rin M Y i j L b acc k).1) (bz b) (bz k) z = f_M_rest_l63 (nI i) (nI j) L K fu (nI (rst M Y i j L b (rin M Y i j L b acc k) k).1) (bz b) (bz (k + 1)) s' ∧ NP M Y i j h0 (rst M Y i j L b (rin M Y i j L b acc k) k) (m + k + 1) s'
    obtain ⟨m1, f1, w1, l1⟩ := p
    have w2 := w1.st (M := M) (Y := Y) (i := i) (j := j) (L := L) (b := b) (s := k)
    generalize rin M Y i j L b acc k = A at w1 w2 l1 ⊢
    obtain ⟨h2, e2, m2, g2⟩ := isRest_ok (L := L) (h0 := z) hi hj hij hb hk ⟨m1, Fr.rf _ _ _⟩
    have f2 : Fr scL plL h0 h2 := f1.t (g2.mn (by simp) (by simp))
    have l2 : ∀ p, A.2 = some p → hI h2 409 0 = bz p.1 ∧ hI h2 409 1 = bz p.2 := fun p hp => by
      rw [g2.i _ _ (by simp) (by simp), g2.i _ _ (by simp) (by simp)]
      exact l1 p hp
    rw [f_M_rest_l63, if_neg (bz_l hk), e2, bI_s]
    simp only [lt_e, nI_1, bz_s k hk]
    unfold rst at *
    by_cases hB : rsB M Y i j L b k = true
    · rw [if_pos hB, if_pos (by decide)]
      rw [if_pos hB] at w2 ⊢
      have w13 := w1.2.2
      by_cases h0 : A.1 = 0
      · rw [if_neg (fun q => q ((n_z (by omega)).mpr h0)), if_pos h0]
        rw [if_pos h0] at w2
        have ff : Fr [409] [] h2 (sI (sI h2 409 0 (bz b)) 409 1 (bz k)) := ((Fr.rf _ _ _).s (by simp) _ _).s (by simp) _ _
        obtain ⟨Y', hM, hY, ye⟩ := m2
        exact ⟨_, rfl, ⟨Y', hM.fr ff (by simp) (by simp), hY.fr ff (by simp) (by simp), ye⟩, f2.t (ff.mn (by simp) (by simp)), w2, fun q hq => by cases hq; exact ⟨rfl, rfl⟩⟩
      · rw [if_pos (fun q => h0 ((n_z (by omega)).mp q)), if_neg h0]
        rw [if_neg h0] at w2
        exact ⟨h2, rfl, m2, f2, w2, l2⟩
    · rw [if_neg hB, if_neg (by decide)]
      rw [if_neg hB] at w2 ⊢
      exact ⟨h2, rfl, m2, f2, w2, l2⟩
  · show f_M_rest_l63 (nI i) (nI j) L K (fu + 1) _ (bz b) (bz 5) z = _
    rw [f_M_rest_l63, if_pos bz_e, lt_e, bz_s b hb]
theorem M_rest_ok {M : MT} {Y : YT} {h : AH} (s : MS h M Y) (a b L : Int32) : ∃ h1, f_M_rest a b L h = some (restA (restO M Y a b L), h1) ∧ Fr scL plL h h1 ∧ LM h1 (gN (restP (restO M Y a b L))) (rV (restP (restO M Y a b L))) := by
  have h6 := s.1.1.2.1
  have f1 : Fr [] plL h (sI h 383 57 0) := (Fr.rf _ _ _).p (by simp) _
  have l1 : LM (sI h 383 57 0) 0 (rV none) := ⟨hI_sI_s _ _ _ _, by omega, fun i hi => by omega⟩
  rw [f_M_rest, lt_e]
  generalize sI h 383 57 0 = h1 at f1 l1 ⊢
  have f1' : Fr scL plL h h1 := f1.mn (by simp) (by simp)
  have s1 : MS h1 M Y := ⟨s.1.fr f1 (by simp) (by simp), fun k hk => by rw [f1.i _ _ (by simp) (by simp)]; exact s.2 k hk⟩
  rw [M_areTwo_ok s1.1, bI_s]
  have no : ∀ (q : ¬ (twoS (mN M) a b = true ∧ freeS Y (ix a) = false ∧ freeS Y (ix b) = false ∧ (1 ≤ L ∧ L ≤ 9))), ∃ h2, some ((-1 : Int32), h1) = some (restA (restO M Y a b L), h2) ∧ Fr scL plL h h2 ∧ LM h2 (gN (restP (restO M Y a b L))) (rV (restP (restO M Y a b L))) := fun q => by
    unfold restO
    rw [if_neg q]
    exact ⟨h1, rfl, f1', l1⟩
  have tw : ∀ c : Int32, hasS (mN M) c = true → (thereS M Y c = true ↔ freeS Y (ix c) = false) := fun c hc => by
    unfold thereS
    rw [hc]
    cases freeS Y (ix c) <;> simp
  by_cases hq : twoS (mN M) a b = true
  · rw [if_pos hq, if_neg (by decide), M_isThere_ok s1, bI_s]
    have hqq := hq
    unfold twoS at hqq
    simp only [Bool.and_eq_true] at hqq
    by_cases hfi : freeS Y (ix a) = false
    · rw [if_pos ((tw a hqq.1.1).mpr hfi), if_neg (by decide), M_isThere_ok s1, bI_s]
      by_cases hfj : freeS Y (ix b) = false
      · rw [if_pos ((tw b hqq.1.2).mpr hfj), if_neg (by decide), isIn_e, bI_s]
        by_cases hL : 1 ≤ L ∧ L ≤ 9
        · rw [if_pos hL, if_pos (by decide)]
          obtain ⟨i, j, hi, hj, rfl, rfl⟩ := two_ix h6 hq
          have hij := two_ne (by omega) (by omega) hq
          have eO : restO M Y (nI i) (nI j) L = some (rou M Y i j L 5) := by
            unfold restO
            rw [if_pos ⟨hq, hfi, hfj, hL⟩, ix_n (show i < 2 ^ 31 by omega), ix_n (show j < 2 ^ 31 by omega)]
          rw [eO]
          obtain ⟨h2, e2, p2⟩ := PA.ld s1
          rw [e2, bV_s]
          refine lqc (fun fu k (z : AH) => f_M_rest_l53 (nI i) (nI j) L fu (nI (rou M Y i j L k).1) (bz k) z) (fun k z => NP M Y i j h (rou M Y i j L k) (5 * k) z) (fun z => some (nI (rou M Y i j L 5).1, sI z 383 57 (nI (gN (rou M Y i j L 5).2)))) 5 (by omega) h2 ⟨⟨Y, p2.2.1, p2.2.2, fun v w => rfl⟩, f1'.t (p2.1.mn (by simp) (by simp)), rou_w M Y i j L 0, fun p hp => by cases hp⟩ (fun r e q => ⟨_, e, ?_, ?_, ?_, fun x hx => ?_⟩) (fun k fu z hk p => ?_) (fun fu z p => ?_)
          · exact q.2.1.p (by simp) _
          · exact hI_sI_s _ _ _ _
          · show gN (rou M Y i j L 5).2 ≤ 12
            cases (rou M Y i j L 5).2 <;> simp [gN]
          · rw [hI_sI_c _ _ _ _ _ (by decide)]
            have hx' : x < gN (rou M Y i j L 5).2 := hx
            show hI r 409 x = rV (rou M Y i j L 5).2 x
            cases ho : (rou M Y i j L 5).2 with
            | none => rw [ho] at hx'; simp [gN] at hx'
            | some p =>
              rw [ho] at hx'
              have : x = 0 ∨ x = 1 := by simp [gN] at hx'; omega
              rcases this with rfl | rfl
              · exact (q.2.2.2 p ho).1
              · exact (q.2.2.2 p ho).2
          · obtain ⟨h3, e3, p3⟩ := M_rest_in (L := L) hi hj hij hk (by omega) (f_M_rest_l53 (nI i) (nI j) L fu) p
            refine ⟨h3, ?_, by rw [show 5 * (k + 1) = 5 * k + 5 by omega]; exact p3⟩
            show f_M_rest_l53 (nI i) (nI j) L (fu + 1) _ (bz k) z = _
            rw [f_M_rest_l53, if_neg (bz_l hk)]
            exact e3
          · show f_M_rest_l53 (nI i) (nI j) L (fu + 1) _ (bz 5) z = _
            rw [f_M_rest_l53, if_pos bz_e]
            obtain ⟨-, -, ⟨w1, w2, w3⟩, -⟩ := p
            simp only [lt_e]
            by_cases h0 : (rou M Y i j L 5).1 = 0
            · rw [if_neg (fun q => q ((n_z (by omega)).mpr h0)), w1 h0]
              rfl
            · rw [if_pos (fun q => h0 ((n_z (by omega)).mp q))]
              obtain ⟨p, hp⟩ := w2 h0
              rw [hp]
              rfl
        · rw [if_neg hL, if_neg (by decide)]
          exact no (fun q => hL q.2.2.2)
      · rw [if_neg (fun q => hfj ((tw b hqq.1.2).mp q)), if_pos rfl]
        exact no (fun q => hfj q.2.2.1)
    · rw [if_neg (fun q => hfi ((tw a hqq.1.1).mp q)), if_pos rfl]
      exact no (fun q => hfi q.2.1)
  · rw [if_neg hq, if_pos rfl]
    exact no (fun q => hq q.1)
