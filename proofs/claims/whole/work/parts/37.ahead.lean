/-! ===== will's kin: low, high, starve, hush ===== -/
theorem n_lt {a b : Nat} (h : a < b) (hb : b < 2 ^ 31) : nI a < nI b := Int32.not_le.mp (nI_ge h hb)
theorem n_nlt {a b : Nat} (h : b ≤ a) (ha : a < 2 ^ 31) : ¬ nI a < nI b := Int32.not_lt.mpr (nI_le h ha)
theorem chirp_in (M : MT) (Y : YT) (d : Nat) : 0 ≤ (chirpS M Y d).toInt ∧ (chirpS M Y d).toInt ≤ 99 := by
  unfold chirpS
  split
  · exact ⟨by decide, by decide⟩
  · unfold sungS
    exact cl_in _ 99 (by decide)
theorem half_in {x : Int32} (h0 : 0 ≤ x.toInt) : (x / 2).toInt = x.toInt / 2 := by
  rw [Int32.toInt_div]
  have e : (2 : Int32).toInt = 2 := by decide
  rw [e, Int.tdiv_eq_ediv_of_nonneg h0]
  have h1 := i_hi x
  exact Int.bmod_eq_of_le (by omega) (by omega)
theorem price_in (M : MT) (Y : YT) (i j : Nat) : 0 ≤ (priceS M Y i j).toInt ∧ (priceS M Y i j).toInt ≤ 99 := by
  have hi := chirp_in M Y i
  have hj := chirp_in M Y j
  unfold priceS
  have e : (chirpS M Y i + chirpS M Y j).toInt = (chirpS M Y i).toInt + (chirpS M Y j).toInt := i_add (by omega) (by omega)
  rw [half_in (by omega), e]
  omega
def bet (big : Bool) (found v : Int32) : Bool := if big = true then decide (found < v) else decide (v < found)
def edS (f : Nat → Int32) (big : Bool) : Nat → Nat × Int32
  | 0 => (0, f 0)
  | k + 1 => if bet big (edS f big k).2 (f (k + 1)) = true then (k + 1, f (k + 1)) else edS f big k
def pxS (M : MT) (Y : YT) (i j : Nat) : Nat → Int32 := fun k => priceS M (farS M k Y) i j
def edgeS (M : MT) (Y : YT) (a b n : Int32) (big : Bool) : Int32 := if twoS (mN M) a b = true then (if 0 ≤ n ∧ n ≤ 60 then nI (edS (pxS M Y (ix a) (ix b)) big (ix n)).1 else -1) else -1
theorem edS_in (M : MT) (Y : YT) (i j : Nat) (big : Bool) : ∀ k, 0 ≤ (edS (pxS M Y i j) big k).2.toInt ∧ (edS (pxS M Y i j) big k).2.toInt ≤ 99 := by
  intro k
  induction k with
  | zero => exact price_in M _ i j
  | succ k ih =>
    rw [edS]
    split
    · exact price_in M _ i j
    · exact ih
theorem M_edge_ok {M : MT} {Y : YT} {h : AH} (s : MS h M Y) {i j n : Nat} (hi : i < mN M) (hj : j < mN M) (hn : n ≤ 60) (big : Bool) : ∃ h1, f_M_edge (nI i) (nI j) (nI n) (if big = true then 1 else 0) h = some (nI (edS (pxS M Y i j) big n).1, h1) ∧ Fr sca [] h h1 := by
  obtain ⟨h1, e1, p1⟩ := PA.ld s
  obtain ⟨h2, e2, p2⟩ := p1.pr hi hj
  rw [f_M_edge, e1, bV_s, e2, bI_s]
  refine lpc (fun fu k (s : Int32 × Int32 × AH) => f_M_edge_l18 (nI i) (nI j) (nI n) (if big = true then 1 else 0) fu s.1 s.2.1 (nI (k + 1)) s.2.2) (fun k s => s.1 = nI (edS (pxS M Y i j) big k).1 ∧ s.2.1 = (edS (pxS M Y i j) big k).2 ∧ PA M (farS M k Y) h s.2.2) (fun r => r.1 = nI (edS (pxS M Y i j) big n).1 ∧ Fr sca [] h r.2) n (by omega) (0, priceS M Y i j, h2) ⟨rfl, rfl, p2⟩ (fun r e q => ?_) (fun k fu s hk p => Or.inl ?_) (fun fu s p => ?_)
  · obtain ⟨q1, q2⟩ := q
    exact ⟨r.2, by rw [← q1]; exact e, q2⟩
  · obtain ⟨x, y, z⟩ := s
    obtain ⟨rfl, rfl, p3⟩ := p
    obtain ⟨h4, e4, p4⟩ := p3.hr
    obtain ⟨h5, e5, p5⟩ := p4.pr hi hj
    rw [← farS_s] at p5
    have ev : priceS M (hourS M (farS M k Y)) i j = pxS M Y i j (k + 1) := by rw [← farS_s]; rfl
    rw [ev] at e5
    refine ⟨(nI (edS (pxS M Y i j) big (k + 1)).1, (edS (pxS M Y i j) big (k + 1)).2, h5), ?_, rfl, rfl, p5⟩
    show f_M_edge_l18 (nI i) (nI j) (nI n) (if big = true then 1 else 0) (fu + 1) (nI (edS (pxS M Y i j) big k).1) (edS (pxS M Y i j) big k).2 (nI (k + 1)) z = f_M_edge_l18 (nI i) (nI j) (nI n) (if big = true then 1 else 0) fu (nI (edS (pxS M Y i j) big (k + 1)).1) (edS (pxS M Y i j) big (k + 1)).2 (nI (k + 1 + 1)) h5
    rw [f_M_edge_l18, if_neg (n_nlt (by omega) (by omega)), e4, bV_s, e5, bI_s]
    have eb : edS (pxS M Y i j) big (k + 1) = if bet big (edS (pxS M Y i j) big k).2 (pxS M Y i j (k + 1)) = true then (k + 1, pxS M Y i j (k + 1)) else edS (pxS M Y i j) big k := rfl
    generalize edS (pxS M Y i j) big (k + 1) = N at eb ⊢
    subst eb
    cases big with
    | false =>
      rw [if_pos (show (if false = true then (1 : Int32) else 0) = 0 from rfl)]
      by_cases hq : pxS M Y i j (k + 1) < (edS (pxS M Y i j) false k).2
      · rw [if_pos hq, if_pos (show bet false (edS (pxS M Y i j) false k).2 (pxS M Y i j (k + 1)) = true by simp [bet, hq]), f_M_edge_b61, lt_e, nI_1]
      · rw [if_neg hq, if_neg (show ¬ bet false (edS (pxS M Y i j) false k).2 (pxS M Y i j (k + 1)) = true by simp [bet, hq]), lt_e, nI_1]
    | true =>
      rw [if_neg (show ¬ (if true = true then (1 : Int32) else 0) = 0 by decide)]
      by_cases hq : (edS (pxS M Y i j) true k).2 < pxS M Y i j (k + 1)
      · rw [if_pos hq, if_pos (show bet true (edS (pxS M Y i j) true k).2 (pxS M Y i j (k + 1)) = true by simp [bet, hq]), f_M_edge_b61, lt_e, nI_1]
      · rw [if_neg hq, if_neg (show ¬ bet true (edS (pxS M Y i j) true k).2 (pxS M Y i j (k + 1)) = true by simp [bet, hq]), lt_e, nI_1]
  · obtain ⟨x, y, z⟩ := s
    obtain ⟨rfl, rfl, p3⟩ := p
    refine ⟨(nI (edS (pxS M Y i j) big n).1, z), ?_, rfl, p3.1⟩
    show f_M_edge_l18 (nI i) (nI j) (nI n) (if big = true then 1 else 0) (fu + 1) (nI (edS (pxS M Y i j) big n).1) (edS (pxS M Y i j) big n).2 (nI (n + 1)) z = _
    rw [f_M_edge_l18, if_pos (n_lt (by omega) (by omega))]
theorem M_low_ok {M : MT} {Y : YT} {h : AH} (s : MS h M Y) (a b n : Int32) : ∃ h1, f_M_low a b n h = some (edgeS M Y a b n false, h1) ∧ Fr sca [] h h1 := by
  have h6 := s.1.1.2.1
  rw [f_M_low, M_areTwo_ok s.1, bI_s]
  unfold edgeS
  by_cases hq : twoS (mN M) a b = true
  · rw [if_pos hq, if_neg (by decide), if_pos hq, isIn_e, bI_s]
    by_cases hn : 0 ≤ n ∧ n ≤ 60
    · rw [if_pos hn, if_neg (by decide), if_pos hn]
      obtain ⟨k, hk, rfl⟩ := inR_ix (n := 60) (by omega) hn
      obtain ⟨i, j, hi, hj, rfl, rfl⟩ := two_ix h6 hq
      obtain ⟨h1, e1, f1⟩ := M_edge_ok s hi hj hk false
      refine ⟨h1, ?_, f1⟩
      rw [show f_M_edge (nI i) (nI j) (nI k) 0 h = _ from e1, bI_s, ix_n (show i < 2 ^ 31 by omega), ix_n (show j < 2 ^ 31 by omega), ix_n (show k < 2 ^ 31 by omega)]
    · rw [if_neg hn, if_pos rfl, if_neg hn]
      exact ⟨h, rfl, Fr.rf _ _ _⟩
  · rw [if_neg hq, if_pos rfl, if_neg hq]
    exact ⟨h, rfl, Fr.rf _ _ _⟩
theorem M_high_ok {M : MT} {Y : YT} {h : AH} (s : MS h M Y) (a b n : Int32) : ∃ h1, f_M_high a b n h = some (edgeS M Y a b n true, h1) ∧ Fr sca [] h h1 := by
  have h6 := s.1.1.2.1
  rw [f_M_high, M_areTwo_ok s.1, bI_s]
  unfold edgeS
  by_cases hq : twoS (mN M) a b = true
  · rw [if_pos hq, if_neg (by decide), if_pos hq, isIn_e, bI_s]
    by_cases hn : 0 ≤ n ∧ n ≤ 60
    · rw [if_pos hn, if_neg (by decide), if_pos hn]
      obtain ⟨k, hk, rfl⟩ := inR_ix (n := 60) (by omega) hn
      obtain ⟨i, j, hi, hj, rfl, rfl⟩ := two_ix h6 hq
      obtain ⟨h1, e1, f1⟩ := M_edge_ok s hi hj hk true
      refine ⟨h1, ?_, f1⟩
      rw [show f_M_edge (nI i) (nI j) (nI k) 1 h = _ from e1, bI_s, ix_n (show i < 2 ^ 31 by omega), ix_n (show j < 2 ^ 31 by omega), ix_n (show k < 2 ^ 31 by omega)]
    · rw [if_neg hn, if_pos rfl, if_neg hn]
      exact ⟨h, rfl, Fr.rf _ _ _⟩
  · rw [if_neg hq, if_pos rfl, if_neg hq]
    exact ⟨h, rfl, Fr.rf _ _ _⟩
def sgB (big : Bool) : Int32 := if big = true then -1 else 1
theorem sg_le (big : Bool) {x y : Int32} (hx : 0 ≤ x.toInt ∧ x.toInt ≤ 99) (hy : 0 ≤ y.toInt ∧ y.toInt ≤ 99) : (sgB big * x ≤ sgB big * y) ↔ ¬ bet big x y = true := by
  have m1 : ∀ z : Int32, 0 ≤ z.toInt ∧ z.toInt ≤ 99 → (-1 * z).toInt = - z.toInt := fun z hz => by
    rw [Int32.toInt_mul]
    have e : (-1 : Int32).toInt = -1 := by decide
    rw [e, Int.bmod_eq_of_le (by omega) (by omega)]
    omega
  unfold sgB bet
  cases big with
  | false =>
    simp only [Bool.false_eq_true, if_false, Int32.one_mul, decide_eq_true_eq]
    exact Int32.not_lt.symm
  | true =>
    simp only [if_true, decide_eq_true_eq]
    rw [i_le, i_lt, m1 x hx, m1 y hy]
    omega
theorem H_best_ok {M : MT} {Y : YT} {u : Nat} {h : AH} (s : HS h M Y u) (b0 : BN M Y) (c0 : BC M Y) (a b n : Int32) (big : Bool) : ∃ h1, f_H_bestHour a b n (sgB big) h = some (edgeS M Y a b n big, h1) ∧ Fr (scW u) plW h h1 := by
  have h6 := s.2.2.1.1.2.1
  rw [f_H_bestHour, H_areTwo_ok s, bI_s]
  unfold edgeS
  by_cases hq : twoS (mN M) a b = true
  · rw [if_pos hq, if_neg (by decide), if_pos hq, within_e, bI_s]
    by_cases hn : 0 ≤ n ∧ n ≤ 60
    · rw [if_pos hn, if_pos (by decide), if_pos hn]
      obtain ⟨n, hk, rfl⟩ := inR_ix (n := 60) (by omega) hn
      obtain ⟨i, j, hi, hj, rfl, rfl⟩ := two_ix h6 hq
      rw [ix_n (show i < 2 ^ 31 by omega), ix_n (show j < 2 ^ 31 by omega), ix_n (show n < 2 ^ 31 by omega)]
      obtain ⟨h1, e1, p1⟩ := PK.cp (Fr.rf _ _ _) s b0 c0
      rw [e1, bV_s]
      refine lpc (fun fu k (s : Int32 × Int32 × AH) => f_H_bestHour_l41 (nI i) (nI j) (nI n) (sgB big) fu s.1 s.2.1 (nI k) s.2.2) (fun k s => PK M (farS M k Y) u h s.2.2 ∧ (k = 0 ∨ (1 ≤ k ∧ s.1 = nI (edS (pxS M Y i j) big (k - 1)).1 ∧ s.2.1 = sgB big * (edS (pxS M Y i j) big (k - 1)).2))) (fun r => r.1 = nI (edS (pxS M Y i j) big n).1 ∧ Fr (scW u) plW h r.2) (n + 1) (by omega) (0, 0, h1) ⟨p1, Or.inl rfl⟩ (fun r e q => ?_) (fun k fu s hk p => Or.inl ?_) (fun fu s p => ?_)
      · obtain ⟨q1, q2⟩ := q
        exact ⟨r.2, by rw [← q1]; exact e, q2⟩
      · obtain ⟨x, y, z⟩ := s
        obtain ⟨p3, p4⟩ := p
        simp only at p3 p4
        obtain ⟨h5, e5, p5, t5⟩ := p3.tn
        have eh := t5.half h6 hi hj
        obtain ⟨h7, e7, p7⟩ := p5.hr
        rw [← farS_s] at p7
        have nx : ∀ x' y', f_H_bestHour_b96 (nI i) (nI j) (nI n) (sgB big) (f_H_bestHour_l41 (nI i) (nI j) (nI n) (sgB big) fu) x' y' (nI k) h5 = f_H_bestHour_l41 (nI i) (nI j) (nI n) (sgB big) fu x' y' (nI (k + 1)) h7 := fun x' y' => by
          rw [f_H_bestHour_b96, gd_ok _ p5.2.1.2 (kd_u p5.2.1.1), e7, bV_s, lt_e, nI_1]
        refine ⟨(nI (edS (pxS M Y i j) big k).1, sgB big * (edS (pxS M Y i j) big k).2, h7), ?_, p7, Or.inr ⟨by omega, rfl, rfl⟩⟩
        show f_H_bestHour_l41 (nI i) (nI j) (nI n) (sgB big) (fu + 1) x y (nI k) z = f_H_bestHour_l41 (nI i) (nI j) (nI n) (sgB big) fu (nI (edS (pxS M Y i j) big k).1) (sgB big * (edS (pxS M Y i j) big k).2) (nI (k + 1)) h7
        rw [f_H_bestHour_l41, if_neg (n_nlt (by omega) (by omega)), gd_ok _ p3.2.1.2 (kd_u p3.2.1.1), e5, bV_s, eh, bI_s, lt_e]
        by_cases hk0 : k = 0
        · subst hk0
          rw [if_pos (show nI 0 = 0 from rfl), f_H_bestHour_b88, nx]
          rfl
        · obtain ⟨m, rfl⟩ : ∃ m, k = m + 1 := ⟨k - 1, by omega⟩
          obtain ⟨_, rfl, rfl⟩ := p4.resolve_left hk0
          have ez : ¬ nI (m + 1) = 0 := fun q => by
            have := (n_inj (a := m + 1) (b := 0) (by omega) (by omega)).mp q
            omega
          rw [if_neg ez]
          have ev : priceS M (farS M (m + 1) Y) i j = pxS M Y i j (m + 1) := rfl
          rw [ev]
          have iv := sg_le big (edS_in M Y i j big m) (show 0 ≤ (pxS M Y i j (m + 1)).toInt ∧ (pxS M Y i j (m + 1)).toInt ≤ 99 from price_in _ _ _ _)
          rw [show m + 1 - 1 = m from rfl, nx, f_H_bestHour_b88, nx]
          have eb : edS (pxS M Y i j) big (m + 1) = if bet big (edS (pxS M Y i j) big m).2 (pxS M Y i j (m + 1)) = true then (m + 1, pxS M Y i j (m + 1)) else edS (pxS M Y i j) big m := rfl
          generalize edS (pxS M Y i j) big (m + 1) = N at eb ⊢
          subst eb
          by_cases hb : bet big (edS (pxS M Y i j) big m).2 (pxS M Y i j (m + 1)) = true
          · rw [if_neg (fun q => iv.mp q hb), if_pos hb]
          · rw [if_pos (iv.mpr hb), if_neg hb]
      · obtain ⟨x, y, z⟩ := s
        obtain ⟨p3, p4⟩ := p
        simp only at p3 p4
        obtain ⟨_, rfl, rfl⟩ := p4.resolve_left (by omega)
        refine ⟨(nI (edS (pxS M Y i j) big n).1, z), ?_, rfl, p3.1⟩
        show f_H_bestHour_l41 (nI i) (nI j) (nI n) (sgB big) (fu + 1) (nI (edS (pxS M Y i j) big (n + 1 - 1)).1) _ (nI (n + 1)) z = _
        rw [f_H_bestHour_l41, if_pos (n_lt (by omega) (by omega))]
        rfl
    · rw [if_neg hn, if_neg (by decide), if_neg hn]
      exact ⟨h, rfl, Fr.rf _ _ _⟩
  · rw [if_neg hq, if_pos rfl, if_neg hq]
    exact ⟨h, rfl, Fr.rf _ _ _⟩
theorem H_low_ok {M : MT} {Y : YT} {u : Nat} {h : AH} (s : HS h M Y u) (b0 : BN M Y) (c0 : BC M Y) (a b n : Int32) : ∃ h1, f_H_low a b n h = some (edgeS M Y a b n false, h1) ∧ Fr (scW u) plW h h1 := by
  obtain ⟨h1, e1, f1⟩ := H_best_ok s b0 c0 a b n false
  exact ⟨h1, by rw [f_H_low, show f_H_bestHour a b n 1 h = _ from e1, bI_s], f1⟩
theorem H_high_ok {M : MT} {Y : YT} {u : Nat} {h : AH} (s : HS h M Y u) (b0 : BN M Y) (c0 : BC M Y) (a b n : Int32) : ∃ h1, f_H_high a b n h = some (edgeS M Y a b n true, h1) ∧ Fr (scW u) plW h h1 := by
  obtain ⟨h1, e1, f1⟩ := H_best_ok s b0 c0 a b n true
  exact ⟨h1, by rw [f_H_high, show f_H_bestHour a b n (-1) h = _ from e1, bI_s], f1⟩
