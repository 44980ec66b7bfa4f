/-! ===== what lies there; gain ===== -/
def LH (h : AH) (n : Nat) (v : Nat → Int32) : Prop := hI h 380 1 = nI n ∧ n ≤ 12 ∧ ∀ i, i < n → hI h 381 i = v i
def LM (h : AH) (n : Nat) (v : Nat → Int32) : Prop := hI h 383 57 = nI n ∧ n ≤ 12 ∧ ∀ i, i < n → hI h 409 i = v i
theorem LH.fr {S : List Nat} {P : List (Nat × Nat)} {h h1 : AH} {n : Nat} {v : Nat → Int32} (l : LH h n v) (f : Fr S P h h1) (a : 380 ∉ S ∧ 381 ∉ S) (b : (380, 1) ∉ P ∧ ∀ q ∈ P, q.1 ≠ 381) : LH h1 n v :=
  ⟨by rw [f.i _ _ a.1 b.1]; exact l.1, l.2.1, fun i hi => by rw [f.i _ _ a.2 (fun q => b.2 _ q rfl)]; exact l.2.2 i hi⟩
theorem LM.fr {S : List Nat} {P : List (Nat × Nat)} {h h1 : AH} {n : Nat} {v : Nat → Int32} (l : LM h n v) (f : Fr S P h h1) (a : 383 ∉ S ∧ 409 ∉ S) (b : (383, 57) ∉ P ∧ ∀ q ∈ P, q.1 ≠ 409) : LM h1 n v :=
  ⟨by rw [f.i _ _ a.1 b.1]; exact l.1, l.2.1, fun i hi => by rw [f.i _ _ a.2 (fun q => b.2 _ q rfl)]; exact l.2.2 i hi⟩
theorem LH.v {h : AH} {n : Nat} {v w : Nat → Int32} (l : LH h n v) (e : ∀ i, i < n → v i = w i) : LH h n w := ⟨l.1, l.2.1, fun i hi => (l.2.2 i hi).trans (e i hi)⟩
def liesS (n : Nat) (v : Nat → Int32) (a : Int32) : Int32 := if 0 ≤ a ∧ a < nI n then v (ix a) else -100
theorem H_lies_ok {h : AH} {n : Nat} {v : Nat → Int32} (l : LH h n v) (a : Int32) : f_H_lies a h = some (liesS n v a, h) := by
  obtain ⟨l1, l2, l3⟩ := l
  rw [f_H_lies, l1]
  unfold liesS
  by_cases h0 : a < 0
  · rw [if_pos h0, if_neg (fun q => Int32.not_le.mpr h0 q.1)]
  · rw [if_neg h0]
    by_cases h1 : nI n ≤ a
    · rw [if_pos h1, if_neg (fun q => Int32.not_lt.mpr h1 q.2)]
    · rw [if_neg h1, if_pos ⟨Int32.not_lt.mp h0, Int32.not_le.mp h1⟩]
      rcases i_pl a (show n < 2 ^ 31 by omega) with q | q | ⟨j, hj, rfl⟩
      · exact absurd q h0
      · exact absurd q h1
      · rw [gx_n _ (show j < 12 by omega) (by omega), ix_n (show j < 2 ^ 31 by omega), l3 j hj]
theorem M_lies_ok {h : AH} {n : Nat} {v : Nat → Int32} (l : LM h n v) (a : Int32) : f_M_lies a h = some (liesS n v a, h) := by
  obtain ⟨l1, l2, l3⟩ := l
  have en : (nI n).toInt = n := nI_toInt (by omega)
  have e1 : (1 : Int32).toInt = 1 := by decide
  have em : (nI n - 1).toInt = (n : Int) - 1 := by rw [i_sub (by omega) (by omega)]; omega
  have ei : (0 ≤ a ∧ a ≤ nI n - 1) ↔ (0 ≤ a ∧ a < nI n) := by rw [i_le, i_le, i_lt, em, en]; omega
  rw [f_M_lies, l1, isIn_e, bI_s]
  unfold liesS
  by_cases h0 : 0 ≤ a ∧ a < nI n
  · rw [if_pos (ei.mpr h0), if_neg (by decide), if_pos h0]
    rcases i_pl a (show n < 2 ^ 31 by omega) with q | q | ⟨j, hj, rfl⟩
    · exact absurd h0.1 (Int32.not_le.mpr q)
    · exact absurd h0.2 (Int32.not_lt.mpr q)
    · rw [gx_n _ (show j < 12 by omega) (by omega), ix_n (show j < 2 ^ 31 by omega), l3 j hj]
  · rw [if_neg (fun q => h0 (ei.mp q)), if_pos rfl, if_neg h0]
theorem wipe_ok (h : AH) (v : Nat → Int32) : ∃ h1, f_Lie_wipe h = some h1 ∧ Fr [] [(380, 1)] h h1 ∧ LH h1 0 v := by
  refine ⟨sI h 380 1 0, rfl, (Fr.rf _ _ _).p (by simp) _, hI_sI_s _ _ _ _, by omega, fun i hi => by omega⟩
theorem add_ok {h : AH} {n : Nat} {v : Nat → Int32} (l : LH h n v) (hn : n < 12) (x : Int32) : ∃ h1, f_Lie_add x h = some h1 ∧ Fr [381] [(380, 1)] h h1 ∧ LH h1 (n + 1) (upd v n x) := by
  obtain ⟨l1, l2, l3⟩ := l
  rw [f_Lie_add, l1, if_neg (nI_ge hn (by omega)), gx_n _ hn (by omega), ix_n (show n < 2 ^ 31 by omega), lt_e, lt_e]
  refine ⟨_, rfl, ((Fr.rf _ _ _).s (by simp) _ _).p (by simp) _, ?_, by omega, fun i hi => ?_⟩
  · rw [hI_sI_s, hI_sI_c _ _ _ _ _ (by decide), l1, nI_1]
  · rw [hI_sI_c _ _ _ _ _ (by decide), hI_sI, upd_a]
    by_cases e : i = n
    · rw [if_pos ⟨rfl, e⟩, if_pos e]
    · rw [if_neg (fun q => e q.2), if_neg e, l3 i (by omega)]
/-! gain -/
def dlB (M : MT) (Y : YT) (a x y : Nat) : Bool := !decide (y = a) && !decide (y = x) && byB M Y a x && decide (priceS M Y a y ≤ Y y)
def gv (M : MT) (Y : YT) (a : Nat) : Option (Nat × Nat) → Int32
  | none => -1000
  | some p => priceS M Y a p.2 - priceS M Y a p.1
def gst (M : MT) (Y : YT) (a x : Nat) (acc : Option (Nat × Nat)) (y : Nat) : Option (Nat × Nat) := if dlB M Y a x y = true then (if priceS M Y a y - priceS M Y a x ≤ gv M Y a acc then acc else some (x, y)) else acc
def gin (M : MT) (Y : YT) (a x : Nat) (acc : Option (Nat × Nat)) : Nat → Option (Nat × Nat)
  | 0 => acc
  | k + 1 => gst M Y a x (gin M Y a x acc k) k
def gou (M : MT) (Y : YT) (a : Nat) : Nat → Option (Nat × Nat)
  | 0 => none
  | k + 1 => gin M Y a k (gou M Y a k) (mN M)
def gN (o : Option (Nat × Nat)) : Nat := match o with | none => 0 | some _ => 2
def gV (o : Option (Nat × Nat)) : Nat → Int32 := fun i => match o with | none => 0 | some p => if i = 0 then nI p.1 else nI p.2
def gainO (M : MT) (Y : YT) (a : Int32) : Option (Nat × Nat) := if hasS (mN M) a = true then gou M Y (ix a) (mN M) else none
theorem canDeal_ok {M : MT} {Y : YT} {u : Nat} {h : AH} (s : HS h M Y u) (t : TU M Y h) (b0 : BN M Y) {a x y : Nat} (ha : a < mN M) (hx : x < mN M) (hy : y < mN M) : f_H_canDeal (nI a) (nI x) (nI y) h = some (if dlB M Y a x y = true then 1 else 0, h) := by
  have h6 := s.2.2.1.1.2.1
  have yy : hI h 38 y = Y y := (s.2.2.2.1 y hy).1
  rw [f_H_canDeal]
  unfold dlB
  by_cases h1 : y = a
  · subst h1
    rw [if_pos rfl, if_neg (by simp)]
  · rw [if_neg (fun q => h1 ((n_eqv (by omega) (by omega)).mp q))]
    by_cases h2 : y = x
    · subst h2
      rw [if_pos rfl, if_neg (by simp)]
    · rw [if_neg (fun q => h2 ((n_eqv (by omega) (by omega)).mp q)), canBuy_ok s t b0 ha hx, bI_s]
      by_cases h3 : byB M Y a x = true
      · rw [if_pos h3, if_neg (by decide), t.half h6 ha hy, bI_s, gx_n _ (show y < 6 by omega) (by omega), ix_n (show y < 2 ^ 31 by omega), yy]
        by_cases h4 : priceS M Y a y ≤ Y y
        · rw [if_neg (Int32.not_lt.mpr h4), if_pos (by simp [h1, h2, h3, h4])]
        · rw [if_pos (Int32.not_le.mp h4), if_neg (by simp [h4])]
      · rw [if_neg h3, if_pos rfl, if_neg (by simp [h3])]
abbrev scG (u : Nat) : List Nat := [381, 52, u + 12, u + 16]
abbrev plG : List (Nat × Nat) := [(380, 1), (51, 1)]
theorem H_gain_in {M : MT} {Y : YT} {u : Nat} {h0 : AH} (b0 : BN M Y) {a x : Nat} (ha : a < mN M) (hx : x < mN M) (K : Int32 → Int32 → AH → Option (Int32 × AH)) (acc : Option (Nat × Nat)) {h : AH} (f : Fr (scG u) plG h0 h) (s : HS h M Y u) (t : TU M Y h) (l : LH h (gN acc) (gV acc)) : ∃ h1, f_H_gain_l57 (nI a) K FU (gv M Y a acc) (nI x) 0 h = K (gv M Y a (gin M Y a x acc (mN M))) (nI (x + 1)) h1 ∧ Fr (scG u) plG h0 h1 ∧ HS h1 M Y u ∧ TU M Y h1 ∧ LH h1 (gN (gin M Y a x acc (mN M))) (gV (gin M Y a x acc (mN M))) := by
  have h6 := s.2.2.1.1.2.1
  refine lqc (fun fu k (s : AH) => f_H_gain_l57 (nI a) K fu (gv M Y a (gin M Y a x acc k)) (nI x) (nI k) s) (fun k h1 => Fr (scG u) plG h0 h1 ∧ HS h1 M Y u ∧ TU M Y h1 ∧ LH h1 (gN (gin M Y a x acc k)) (gV (gin M Y a x acc k))) (fun h1 => K (gv M Y a (gin M Y a x acc (mN M))) (nI (x + 1)) h1) (mN M) (by omega) h ⟨f, s, t, l⟩ (fun r e q => ⟨r, e, q⟩) (fun k fu z hk p => ?_) (fun fu z p => ?_)
  · obtain ⟨f1, s1, t1, l1⟩ := p
    show ∃ s', f_H_gain_l57 (nI a) K (fu + 1) (gv M Y a (gin M Y a x acc k)) (nI x) (nI k) z = f_H_gain_l57 (nI a) K fu (gv M Y a (gst M Y a x (gin M Y a x acc k) k)) (nI x) (nI (k + 1)) s' ∧ Fr (scG u) plG h0 s' ∧ HS s' M Y u ∧ TU M Y s' ∧ LH s' (gN (gst M Y a x (gin M Y a x acc k) k)) (gV (gst M Y a x (gin M Y a x acc k) k))
    generalize gin M Y a x acc k = A at l1 ⊢
    rw [f_H_gain_l57, gd_ok _ s1.2.1 (kd_u s1.1), s1.2.2.1.1.1, if_neg (nI_ge hk (by omega)), t1.half h6 ha hk, bI_s, t1.half h6 ha hx, bI_s, lt_e, canDeal_ok s1 t1 b0 ha hx hk, bI_s]
    simp only [lt_e, nI_1]
    unfold gst
    by_cases hd : dlB M Y a x k = true
    · rw [if_pos hd, if_neg (by decide), if_pos hd]
      by_cases hg : priceS M Y a k - priceS M Y a x ≤ gv M Y a A
      · rw [if_pos hg, if_pos hg]
        exact ⟨z, rfl, f1, s1, t1, l1⟩
      · rw [if_neg hg, if_neg hg]
        obtain ⟨h2, e2, f2, l2⟩ := wipe_ok z (gV (some (x, k)))
        obtain ⟨h3, e3, f3, l3⟩ := add_ok l2 (by omega) (nI x)
        obtain ⟨h4, e4, f4, l4⟩ := add_ok l3 (by omega) (nI k)
        have ff : Fr [381] [(380, 1)] z h4 := (f2.mn (by simp) (by simp)).t (f3.t f4)
        refine ⟨h4, ?_, f1.t (ff.mn (by simp) (by simp)), s1.f ff (by simp) (by simp), ⟨?_, fun j hj => ?_⟩, l4.v (fun i hi => ?_)⟩
        · rw [e2, bV_s, e3, bV_s, e4, bV_s]
          rfl
        · rw [ff.i _ _ (by simp) (by simp)]; exact t1.1
        · rw [ff.i _ _ (by simp) (by simp)]; exact t1.2 j hj
        · rw [upd_a, upd_a]
          have : i = 0 ∨ i = 1 := by
            have : i < 0 + 1 + 1 := hi
            omega
          rcases this with rfl | rfl <;> rfl
    · rw [if_neg hd, if_pos rfl, if_neg hd]
      exact ⟨z, rfl, f1, s1, t1, l1⟩
  · obtain ⟨f1, s1, t1, l1⟩ := p
    show f_H_gain_l57 (nI a) K (fu + 1) _ (nI x) (nI (mN M)) z = _
    rw [f_H_gain_l57, gd_ok _ s1.2.1 (kd_u s1.1), s1.2.2.1.1.1, if_pos (nI_le (by omega) (by omega)), lt_e, nI_1]
def gainS (M : MT) (Y : YT) (a : Int32) : Int32 := gv M Y (ix a) (gainO M Y a)
theorem H_gain_ok {M : MT} {Y : YT} {u : Nat} {h : AH} (s : HS h M Y u) (b0 : BN M Y) (a : Int32) : ∃ h1, f_H_gain a h = some (gainS M Y a, h1) ∧ Fr (scG u) plG h h1 ∧ LH h1 (gN (gainO M Y a)) (gV (gainO M Y a)) := by
  have h6 := s.2.2.1.1.2.1
  obtain ⟨h1, e1, f1, l1⟩ := wipe_ok h (gV none)
  have s1 := s.f f1 (by simp) (by simp)
  rw [f_H_gain, e1, bV_s, gd_ok _ s1.2.1 (kd_u s1.1), K_has_ok s1.2.2.1, bI_s]
  unfold gainS gainO
  by_cases hq : hasS (mN M) a = true
  · rw [if_pos hq, if_pos (by decide), if_pos hq, gd_ok _ s1.2.1 (kd_u s1.1)]
    obtain ⟨a, hi, rfl⟩ := has_ix h6 hq
    rw [ix_n (show a < 2 ^ 31 by omega)]
    obtain ⟨h2, e2, f2, s2, t2⟩ := HT.tn s1
    rw [e2, bV_s]
    have l2 := l1.fr f2 (by have := s1.1; simp; omega) (by simp)
    refine lqc (fun fu k (s : AH) => f_H_gain_l43 (nI a) fu (gv M Y a (gou M Y a k)) (nI k) s) (fun k h1 => Fr (scG u) plG h h1 ∧ HS h1 M Y u ∧ TU M Y h1 ∧ LH h1 (gN (gou M Y a k)) (gV (gou M Y a k))) (fun h1 => some (gv M Y a (gou M Y a (mN M)), h1)) (mN M) (by omega) h2 ⟨(f1.mn (by simp) (by simp)).t (f2.mn (by simp) (by simp)), s2, t2, l2⟩ (fun r e q => ⟨r, e, q.1, q.2.2.2⟩) (fun k fu z hk p => ?_) (fun fu z p => ?_)
    · obtain ⟨f3, s3, t3, l3⟩ := p
      show ∃ s', f_H_gain_l43 (nI a) (fu + 1) (gv M Y a (gou M Y a k)) (nI k) z = _ ∧ _
      rw [f_H_gain_l43, gd_ok _ s3.2.1 (kd_u s3.1), s3.2.2.1.1.1, if_neg (nI_ge hk (by omega))]
      obtain ⟨h4, e4, p4⟩ := H_gain_in b0 hi hk (f_H_gain_l43 (nI a) fu) (gou M Y a k) f3 s3 t3 l3
      exact ⟨h4, e4, p4⟩
    · obtain ⟨f3, s3, t3, l3⟩ := p
      show f_H_gain_l43 (nI a) (fu + 1) _ (nI (mN M)) z = _
      rw [f_H_gain_l43, gd_ok _ s3.2.1 (kd_u s3.1), s3.2.2.1.1.1, if_pos (nI_le (by omega) (by omega))]
  · rw [if_neg hq, if_neg (by decide), if_neg hq]
    exact ⟨h1, rfl, f1.mn (by simp) (by simp), l1⟩
