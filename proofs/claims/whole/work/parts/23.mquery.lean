/-! ===== the market, and what is sung ===== -/
abbrev YT : Type := Nat → Int32
abbrev MT : Type := (Nat × (Nat → Int32) × (Nat → Int32) × (Nat → Int32)) × CT × CT × (Int32 × Int32 × Int32)
abbrev mN (M : MT) : Nat := M.1.1
abbrev mKd (M : MT) : Nat → Int32 := M.1.2.1
abbrev mSg (M : MT) : Nat → Int32 := M.1.2.2.1
abbrev mNd (M : MT) : Nat → Int32 := M.1.2.2.2
abbrev mFc (M : MT) : CT := M.2.1
abbrev mFh (M : MT) : CT := M.2.2.1
abbrev mCh (M : MT) : Int32 := M.2.2.2.1
abbrev mSn (M : MT) : Int32 := M.2.2.2.2.1
abbrev mCt (M : MT) : Int32 := M.2.2.2.2.2
/-- the reference's cells hold the market -/
def MM (h : AH) (M : MT) : Prop := (hI h 383 43 = nI (mN M) ∧ mN M ≤ 6 ∧ ∀ i, i < mN M → hI h 402 i = mKd M i ∧ hI h 403 i = mSg M i ∧ hI h 404 i = mNd M i) ∧ (MC h 0 (mFc M) ∧ WFc (mFc M)) ∧ (MC h 1 (mFh M) ∧ WFc (mFh M)) ∧ hI h 383 44 = mCh M ∧ hI h 383 45 = mSn M ∧ hI h 383 46 = mCt M
theorem MM.fr {S : List Nat} {P : List (Nat × Nat)} {h h1 : AH} {M : MT} (m : MM h M) (f : Fr S P h h1) (a : ∀ q ∈ S, q ≠ 383 ∧ q ≠ 402 ∧ q ≠ 403 ∧ q ≠ 404 ∧ q ≠ 389 ∧ q ≠ 390 ∧ q ≠ 391) (b : ∀ q ∈ P, q ≠ (383, 43) ∧ q ≠ (383, 44) ∧ q ≠ (383, 45) ∧ q ≠ (383, 46) ∧ q.1 ≠ 402 ∧ q.1 ≠ 403 ∧ q.1 ≠ 404 ∧ q.1 ≠ 389 ∧ q.1 ≠ 390 ∧ q.1 ≠ 391) : MM h1 M := by
  obtain ⟨⟨m1, m2, m3⟩, ⟨m4, m5⟩, ⟨m6, m7⟩, m8, m9, m10⟩ := m
  have g : ∀ k, k = 43 ∨ k = 44 ∨ k = 45 ∨ k = 46 → hI h1 383 k = hI h 383 k := fun k hk => f.i 383 k (fun q => (a _ q).1 rfl) (fun q => by
    obtain ⟨b1, b2, b3, b4, -⟩ := b _ q
    rcases hk with rfl | rfl | rfl | rfl
    · exact b1 rfl
    · exact b2 rfl
    · exact b3 rfl
    · exact b4 rfl)
  have fc : ∀ w c, MC h w c → MC h1 w c := fun w c hm => hm.fr f (fun q hq => (a q hq).2.2.2.2) (fun q hq => (b q hq).2.2.2.2.2.2.2)
  refine ⟨⟨by rw [g 43 (by simp)]; exact m1, m2, fun i hi => ⟨?_, ?_, ?_⟩⟩, ⟨fc _ _ m4, m5⟩, ⟨fc _ _ m6, m7⟩, by rw [g 44 (by simp)]; exact m8, by rw [g 45 (by simp)]; exact m9, by rw [g 46 (by simp)]; exact m10⟩
  · rw [f.i _ _ (fun q => (a _ q).2.1 rfl) (fun q => (b _ q).2.2.2.2.1 rfl)]; exact (m3 i hi).1
  · rw [f.i _ _ (fun q => (a _ q).2.2.1 rfl) (fun q => (b _ q).2.2.2.2.2.1 rfl)]; exact (m3 i hi).2.1
  · rw [f.i _ _ (fun q => (a _ q).2.2.2.1 rfl) (fun q => (b _ q).2.2.2.2.2.2.1 rfl)]; exact (m3 i hi).2.2
def ev6 (a b c d e f : Int32) : Nat → Int32 := fun j => if j = 0 then a else if j = 1 then b else if j = 2 then c else if j = 3 then d else if j = 4 then e else f
def cl (v m : Int32) : Int32 := if 0 ≤ v then (if v ≤ m then v else m) else 0
def heatS (M : MT) (Y : YT) : Int32 := cl (evC (ev6 0 0 0 0 (Y 32) (Y 33)) (mFh M) 20 - Y 31) 40
def freeS (Y : YT) (d : Nat) : Bool := decide ((Y 30 >>> (nI d &&& 31)) &&& 1 = 1)
def mateS (M : MT) (Y : YT) (d o : Nat) : Bool := decide (¬ o = d) && decide (mKd M o = mKd M d) && !freeS Y o
def cntS (p : Nat → Bool) : Nat → Nat
  | 0 => 0
  | k + 1 => cntS p k + (if p k = true then 1 else 0)
def matesS (M : MT) (Y : YT) (d : Nat) : Int32 := nI (cntS (mateS M Y d) (mN M))
def sungS (M : MT) (Y : YT) (heat song age mates : Int32) : Int32 := cl (evC (ev6 heat song age mates (Y 32) (Y 33)) (mFc M) (heat + song)) 99
def chirpS (M : MT) (Y : YT) (d : Nat) : Int32 := if freeS Y d = true then 0 else sungS M Y (cl (heatS M Y + Y (24 + d)) 40) (mSg M d) (Y (18 + d)) (matesS M Y d)
def priceS (M : MT) (Y : YT) (a b : Nat) : Int32 := (chirpS M Y a + chirpS M Y b) / 2
theorem cntS_le (p : Nat → Bool) : ∀ k, cntS p k ≤ k := by
  intro k
  induction k with
  | zero => exact Nat.le_refl _
  | succ k ih => simp only [cntS]; split <;> omega
/-- the reference's scratch holds the yard -/
def AY (h : AH) (Y : YT) : Prop := ∀ k, k < 35 → hI h 406 k = Y k
theorem AY.fr {S : List Nat} {P : List (Nat × Nat)} {h h1 : AH} {Y : YT} (m : AY h Y) (f : Fr S P h h1) (a : 406 ∉ S) (b : ∀ q ∈ P, q.1 ≠ 406) : AY h1 Y := fun k hk => by
  rw [f.i _ _ a (fun q => b _ q rfl)]; exact m k hk
abbrev sc : List Nat := [393, 395]
theorem M_within_ok (v m : Int32) (h : AH) : f_M_within v m h = some (cl v m, h) := by
  unfold f_M_within cl
  split
  · split <;> rfl
  · rfl
theorem M_askOf_ok {Y : YT} {h : AH} (hY : AY h Y) (a b c d : Int32) : ∃ h1, f_M_askOf a b c d h = some h1 ∧ Fr sc [] h h1 ∧ ∀ j, j < 6 → hI h1 395 j = ev6 a b c d (Y 32) (Y 33) j := by
  refine ⟨_, rfl, ?_, fun j hj => ?_⟩
  · exact (((((((Fr.rf sc [] h).s (by simp) _ _).s (by simp) _ _).s (by simp) _ _).s (by simp) _ _).s (by simp) _ _).s (by simp) _ _)
  · have h4 := hY 32 (by omega)
    have h5 := hY 33 (by omega)
    rcases (show j = 0 ∨ j = 1 ∨ j = 2 ∨ j = 3 ∨ j = 4 ∨ j = 5 by omega) with rfl | rfl | rfl | rfl | rfl | rfl <;> simp [hI_sI, ev6, lt_e, h4, h5]
theorem M_heatHere_ok {M : MT} {Y : YT} {h : AH} (hM : MM h M) (hY : AY h Y) : ∃ h1, f_M_heatHere h = some (heatS M Y, h1) ∧ Fr sc [] h h1 := by
  obtain ⟨h1, e1, f1, a1⟩ := M_askOf_ok hY 0 0 0 0
  have hM1 := hM.fr f1 (by simp) (by simp)
  obtain ⟨h2, e2, f2⟩ := M_worked_ok (w := 1) (e := ev6 0 0 0 0 (Y 32) (Y 33)) (other := 20) (by omega) hM1.2.2.1.2 hM1.2.2.1.1 a1
  have f2' : Fr sc [] h1 h2 := f2.mn (by simp) (by simp)
  have hY2 := (hY.fr f1 (by simp) (by simp)).fr f2' (by simp) (by simp)
  refine ⟨h2, ?_, f1.t f2'⟩
  rw [f_M_heatHere, e1, bV_s, show (1 : Int32) = nI 1 from rfl, e2, bI_s, hY2 31 (by omega), M_within_ok, bI_s]
  rfl
theorem M_isFree_ok {Y : YT} {h : AH} (hY : AY h Y) (d : Nat) : f_M_isFree (nI d) h = some (if freeS Y d = true then 1 else 0, h) := by
  unfold f_M_isFree freeS
  rw [hY 30 (by omega)]
  by_cases hq : (Y 30 >>> (nI d &&& 31)) &&& 1 = 1
  · rw [if_neg (by simp [hq])]; simp [hq]
  · rw [if_pos hq]; simp [hq]
theorem M_matesOf_l {M : MT} {Y : YT} {h : AH} (hM : MM h M) (hY : AY h Y) {d : Nat} (hd : d < mN M) : ∀ (m k fu : Nat), m + k = mN M → m < fu → f_M_matesOf_l4 (nI d) fu (nI (cntS (mateS M Y d) k)) (nI k) h = some (matesS M Y d, h) := by
  have h6 := hM.1.2.1
  intro m
  induction m with
  | zero =>
    intro k fu hk hf
    obtain ⟨fu, rfl⟩ : ∃ q, fu = q + 1 := ⟨fu - 1, by omega⟩
    rw [f_M_matesOf_l4, hM.1.1, if_pos (nI_le (by omega) (by omega))]
    have : k = mN M := by omega
    subst this
    rfl
  | succ m ih =>
    intro k fu hk hf
    obtain ⟨fu, rfl⟩ : ∃ q, fu = q + 1 := ⟨fu - 1, by omega⟩
    rw [f_M_matesOf_l4, hM.1.1, if_neg (nI_ge (show k < mN M by omega) (by omega))]
    have hnx := ih (k + 1) fu (by omega) (by omega)
    have no : mateS M Y d k = false → f_M_matesOf_b45 (nI d) (f_M_matesOf_l4 (nI d) fu) (nI k) (nI (cntS (mateS M Y d) k)) h = some (matesS M Y d, h) := fun hq => by
      rw [f_M_matesOf_b45, f_M_matesOf_b46, M_truth_b, bI_s, lt_e, lt_e, nI_1]
      simp only [cntS, hq, Bool.false_eq_true, if_false, Nat.add_zero] at hnx
      simpa using hnx
    by_cases h1 : k = d
    · rw [if_pos (by rw [h1])]
      exact no (by simp [mateS, h1])
    · rw [if_neg (fun q => h1 ((n_inj (by omega) (by omega)).mp q)), gx_n _ (show k < 6 by omega) (by omega), gx_n _ (show d < 6 by omega) (by omega), ix_n (show k < 2 ^ 31 by omega), ix_n (show d < 2 ^ 31 by omega), (hM.1.2.2 k (by omega)).1, (hM.1.2.2 d hd).1]
      by_cases h2 : mKd M k = mKd M d
      · rw [if_neg (by simp [h2]), M_isFree_ok hY, bI_s]
        by_cases h3 : freeS Y k = true
        · rw [if_pos (by simp [h3])]
          exact no (by simp [mateS, h3])
        · have hq : mateS M Y d k = true := by simp [mateS, h1, h2, h3]
          rw [if_neg (by simp [h3]), f_M_matesOf_b46, M_truth_b, bI_s, lt_e, lt_e, nI_1]
          simp only [cntS, hq, if_true] at hnx
          rw [if_neg (by decide), nI_1]
          exact hnx
      · rw [if_pos h2]
        exact no (by simp [mateS, h2])
theorem M_matesOf_ok {M : MT} {Y : YT} {h : AH} (hM : MM h M) (hY : AY h Y) {d : Nat} (hd : d < mN M) : f_M_matesOf (nI d) h = some (matesS M Y d, h) := by
  have h6 := hM.1.2.1
  exact M_matesOf_l hM hY hd (mN M) 0 FU (by omega) (by show mN M < 1000000; omega)
theorem M_chirpsAt_ok {M : MT} {Y : YT} {h : AH} (hM : MM h M) (hY : AY h Y) (a b c d : Int32) : ∃ h1, f_M_chirpsAt a b c d h = some (sungS M Y a b c d, h1) ∧ Fr sc [] h h1 := by
  obtain ⟨h1, e1, f1, a1⟩ := M_askOf_ok hY a b c d
  have hM1 := hM.fr f1 (by simp) (by simp)
  obtain ⟨h2, e2, f2⟩ := M_worked_ok (w := 0) (e := ev6 a b c d (Y 32) (Y 33)) (other := a + b) (by omega) hM1.2.1.2 hM1.2.1.1 a1
  have f2' : Fr sc [] h1 h2 := f2.mn (by simp) (by simp)
  refine ⟨h2, ?_, f1.t f2'⟩
  rw [f_M_chirpsAt, e1, bV_s, show (0 : Int32) = nI 0 from rfl, e2, bI_s, M_within_ok, bI_s]
  rfl
theorem n_add (a b : Nat) : nI a + nI b = nI (a + b) := nI_add a b
theorem M_chirpsOf_ok {M : MT} {Y : YT} {h : AH} (hM : MM h M) (hY : AY h Y) {d : Nat} (hd : d < mN M) : ∃ h1, f_M_chirpsOf (nI d) h = some (chirpS M Y d, h1) ∧ Fr sc [] h h1 := by
  have h6 := hM.1.2.1
  rw [f_M_chirpsOf, M_isFree_ok hY, bI_s]
  unfold chirpS
  by_cases h1 : freeS Y d = true
  · rw [if_pos h1, if_neg (by decide), if_pos h1]
    exact ⟨h, rfl, Fr.rf _ _ _⟩
  · rw [if_neg h1, if_pos rfl, if_neg h1]
    obtain ⟨h2, e2, f2⟩ := M_heatHere_ok hM hY
    have hM2 := hM.fr f2 (by simp) (by simp)
    have hY2 := hY.fr f2 (by simp) (by simp)
    rw [e2, bI_s, show (24 : Int32) = nI 24 from rfl, n_add, gx_n _ (show 24 + d < 35 by omega) (by omega), ix_n (show 24 + d < 2 ^ 31 by omega), hY2 (24 + d) (by omega), M_within_ok, bI_s, gx_n _ (show d < 6 by omega) (by omega), show (18 : Int32) = nI 18 from rfl, n_add, gx_n _ (show 18 + d < 35 by omega) (by omega), M_matesOf_ok hM2 hY2 hd, bI_s, ix_n (show d < 2 ^ 31 by omega), ix_n (show 18 + d < 2 ^ 31 by omega), (hM2.1.2.2 d hd).2.1, hY2 (18 + d) (by omega)]
    obtain ⟨h3, e3, f3⟩ := M_chirpsAt_ok hM2 hY2 (cl (heatS M Y + Y (24 + d)) 40) (mSg M d) (Y (18 + d)) (matesS M Y d)
    rw [e3, bI_s]
    exact ⟨h3, rfl, f2.t f3⟩
theorem M_priceOf_ok {M : MT} {Y : YT} {h : AH} (hM : MM h M) (hY : AY h Y) {a b : Nat} (ha : a < mN M) (hb : b < mN M) : ∃ h1, f_M_priceOf (nI a) (nI b) h = some (priceS M Y a b, h1) ∧ Fr sc [] h h1 := by
  obtain ⟨h1, e1, f1⟩ := M_chirpsOf_ok hM hY ha
  obtain ⟨h2, e2, f2⟩ := M_chirpsOf_ok (hM.fr f1 (by simp) (by simp)) (hY.fr f1 (by simp) (by simp)) hb
  refine ⟨h2, ?_, f1.t f2⟩
  rw [f_M_priceOf, e1, bI_s, e2, bI_s]
  rfl
