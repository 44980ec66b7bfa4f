/-! ===== odds, mean ===== -/
def CH (M : MT) : Prop := 0 ≤ (mCh M).toInt ∧ (mCh M).toInt ≤ 100
theorem ml_in {x y : Int32} {a b : Int} (hx : 0 ≤ x.toInt ∧ x.toInt ≤ a) (hy : 0 ≤ y.toInt ∧ y.toInt ≤ b) (hb : a * b ≤ 2147483647) : (x * y).toInt = x.toInt * y.toInt ∧ 0 ≤ (x * y).toInt ∧ (x * y).toInt ≤ a * b := by
  have h0 : 0 ≤ x.toInt * y.toInt := Int.mul_nonneg hx.1 hy.1
  have h1 : x.toInt * y.toInt ≤ a * b := Int.mul_le_mul hx.2 hy.2 hy.1 (by omega)
  have e : (x * y).toInt = x.toInt * y.toInt := by
    rw [Int32.toInt_mul]
    generalize x.toInt * y.toInt = w at h0 h1 ⊢
    exact Int.bmod_eq_of_le (by omega) (by omega)
  rw [e]
  exact ⟨rfl, h0, h1⟩
theorem sh_in {M : MT} (hc : CH M) (v : Int32) : ∀ k : Nat, k ≤ 4 → 0 ≤ (shS M v k).toInt ∧ (shS M v k).toInt ≤ 100 ^ k := by
  intro k
  induction k with
  | zero => intro _; exact ⟨by show (0 : Int) ≤ 1; omega, by show (1 : Int) ≤ 100 ^ 0; decide⟩
  | succ k ih =>
    intro hk
    have h1 := ih (by omega)
    have e100 : (100 : Int32).toInt = 100 := by decide
    have h2 : 0 ≤ (if snB v k = true then mCh M else 100 - mCh M).toInt ∧ (if snB v k = true then mCh M else 100 - mCh M).toInt ≤ 100 := by
      obtain ⟨c1, c2⟩ := hc
      split
      · exact ⟨c1, c2⟩
      · rw [i_sub (by omega) (by omega)]; omega
    have e : (100 : Int) ^ (k + 1) = 100 ^ k * 100 := Int.pow_succ 100 k
    have := ml_in h1 h2 (by
      have : k = 0 ∨ k = 1 ∨ k = 2 ∨ k = 3 := by omega
      rcases this with rfl | rfl | rfl | rfl <;> decide)
    rw [e]
    exact this.2
theorem i_nat {x : Int32} (h : 0 ≤ x.toInt) : x = nI x.toInt.toNat ∧ x.toInt.toNat < 2 ^ 31 := by
  have := i_hi x
  have hb : x.toInt.toNat < 2 ^ 31 := by omega
  refine ⟨?_, hb⟩
  rw [i_eq, nI_toInt hb]
  omega
theorem p2_e {n : Nat} (hn : n ≤ 4) : (1 : Int32) <<< (nI n &&& 31) = nI (2 ^ n) ∧ 2 ^ n ≤ 16 := by
  have : n = 0 ∨ n = 1 ∨ n = 2 ∨ n = 3 ∨ n = 4 := by omega
  rcases this with rfl | rfl | rfl | rfl | rfl <;> exact ⟨by decide, by decide⟩
def odL (M : MT) (Y : YT) (i j : Nat) (p : Int32) (n : Nat) : Nat → Int32
  | 0 => 0
  | k + 1 => odL M Y i j p n k + (if priceS M (farP M (nI k) n Y) i j < p then 0 else shS M (nI k) n)
theorem od_in {M : MT} (hc : CH M) (Y : YT) (i j : Nat) (p : Int32) {n : Nat} (hn : n ≤ 4) : ∀ k : Nat, k ≤ 16 → 0 ≤ (odL M Y i j p n k).toInt ∧ (odL M Y i j p n k).toInt ≤ k * 100000000 := by
  intro k
  induction k with
  | zero => intro _; exact ⟨by show (0 : Int) ≤ 0; omega, by show (0 : Int) ≤ _; omega⟩
  | succ k ih =>
    intro hk
    have h1 := ih (by omega)
    have hs := sh_in hc (nI k) n hn
    have hp : (100 : Int) ^ n ≤ 100000000 := by
      have : n = 0 ∨ n = 1 ∨ n = 2 ∨ n = 3 ∨ n = 4 := by omega
      rcases this with rfl | rfl | rfl | rfl | rfl <;> decide
    have h2 : 0 ≤ (if priceS M (farP M (nI k) n Y) i j < p then 0 else shS M (nI k) n).toInt ∧ (if priceS M (farP M (nI k) n Y) i j < p then 0 else shS M (nI k) n).toInt ≤ 100000000 := by
      split
      · exact ⟨by decide, by decide⟩
      · omega
    rw [odL, i_add (by omega) (by omega)]
    omega
def oddS (M : MT) (Y : YT) (a b p n part : Int32) : Int32 := if twoS (mN M) a b = true then (if 0 ≤ n ∧ n ≤ 4 then (if 0 ≤ part ∧ part ≤ 1 then partS (odL M Y (ix a) (ix b) p (ix n) (2 ^ ix n)).toInt.toNat (ix n) part else -1) else -1) else -1
theorem H_odds_ok {M : MT} {Y : YT} {u : Nat} {h : AH} (s : HS h M Y u) (b0 : BN M Y) (c0 : BC M Y) (hc : CH M) (a b p n part : Int32) : ∃ h1, f_H_odds a b p n part h = some (oddS M Y a b p n part, h1) ∧ Fr (scW u) plW h h1 := by
  have h6 := s.2.2.1.1.2.1
  rw [f_H_odds, H_areTwo_ok s, bI_s]
  unfold oddS
  by_cases hq : twoS (mN M) a b = true
  · rw [if_pos hq, if_neg (by decide), if_pos hq, within_e, bI_s]
    by_cases hn : 0 ≤ n ∧ n ≤ 4
    · rw [if_pos hn, if_neg (by decide), if_pos hn, within_e, bI_s]
      by_cases hp : 0 ≤ part ∧ part ≤ 1
      · rw [if_pos hp, if_pos (by decide), if_pos hp]
        obtain ⟨n, hk, rfl⟩ := inR_ix (n := 4) (by omega) hn
        obtain ⟨i, j, hi, hj, rfl, rfl⟩ := two_ix h6 hq
        obtain ⟨pe, pl⟩ := p2_e hk
        rw [ix_n (show i < 2 ^ 31 by omega), ix_n (show j < 2 ^ 31 by omega), ix_n (show n < 2 ^ 31 by omega)]
        refine lpc (fun fu k (z : Int32 × AH) => f_H_odds_l37 (nI i) (nI j) p (nI n) part fu z.1 (nI k) z.2) (fun k z => z.1 = odL M Y i j p n k ∧ Fr (scW u) plW h z.2) (fun r => r.1 = partS (odL M Y i j p n (2 ^ n)).toInt.toNat n part ∧ Fr (scW u) plW h r.2) (2 ^ n) (by omega) (0, h) ⟨rfl, Fr.rf _ _ _⟩ (fun r e q => ⟨r.2, by rw [← q.1]; exact e, q.2⟩) (fun k fu z hk p => Or.inl ?_) (fun fu z p => ?_)
        · obtain ⟨x, z⟩ := z
          obtain ⟨rfl, f1⟩ := p
          have s1 := s.fr f1
          obtain ⟨h2, e2, f2⟩ := H_behind_ok f1 s1 b0 c0 (nI k) (show n ≤ 4 by omega) hi hj
          have s2 := s.fr f2
          refine ⟨(odL M Y i j p n (k + 1), h2), ?_, rfl, f2⟩
          show f_H_odds_l37 (nI i) (nI j) p (nI n) part (fu + 1) (odL M Y i j p n k) (nI k) z = f_H_odds_l37 (nI i) (nI j) p (nI n) part fu (odL M Y i j p n k + (if priceS M (farP M (nI k) n Y) i j < p then 0 else shS M (nI k) n)) (nI (k + 1)) h2
          rw [f_H_odds_l37, pe, if_neg (nI_ge (by omega) (by omega)), e2, bI_s, H_weight_ok s2.1 s2.2.1 s2.2.2.1 (nI k) (show n ≤ 4 by omega), bI_s]
          simp only [lt_e, nI_1]
          by_cases hv : priceS M (farP M (nI k) n Y) i j < p
          · rw [if_pos hv, if_pos hv, Int32.add_zero]
          · rw [if_neg hv, if_neg hv]
        · obtain ⟨x, z⟩ := z
          obtain ⟨rfl, f1⟩ := p
          refine ⟨(partS (odL M Y i j p n (2 ^ n)).toInt.toNat n part, z), ?_, rfl, f1⟩
          show f_H_odds_l37 (nI i) (nI j) p (nI n) part (fu + 1) (odL M Y i j p n (2 ^ n)) (nI (2 ^ n)) z = _
          obtain ⟨ee, el⟩ := i_nat (od_in hc Y i j p hk (2 ^ n) pl).1
          rw [f_H_odds_l37, pe, if_pos (nI_le (by omega) (by omega)), ee, H_part_ok hk el, bI_s, ← ee]
      · rw [if_neg hp, if_neg (by decide), if_neg hp]
        exact ⟨h, rfl, Fr.rf _ _ _⟩
    · rw [if_neg hn, if_pos rfl, if_neg hn]
      exact ⟨h, rfl, Fr.rf _ _ _⟩
  · rw [if_neg hq, if_pos rfl, if_neg hq]
    exact ⟨h, rfl, Fr.rf _ _ _⟩
theorem M_canOdds_ok {M : MT} {h : AH} (hM : MM h M) (a b n part : Int32) : f_M_canOdds a b n part h = some (if twoS (mN M) a b = true ∧ (0 ≤ n ∧ n ≤ 4) ∧ (0 ≤ part ∧ part ≤ 1) then 1 else 0, h) := by
  rw [f_M_canOdds, M_areTwo_ok hM, bI_s]
  by_cases hq : twoS (mN M) a b = true
  · rw [if_pos hq, if_neg (by decide), isIn_e, bI_s]
    by_cases hn : 0 ≤ n ∧ n ≤ 4
    · rw [if_pos hn, if_neg (by decide), isIn_e, bI_s]
      by_cases hp : 0 ≤ part ∧ part ≤ 1
      · rw [if_pos hp, if_neg (by decide), if_pos ⟨hq, hn, hp⟩]
      · rw [if_neg hp, if_pos rfl, if_neg (fun q => hp q.2.2)]
    · rw [if_neg hn, if_pos rfl, if_neg (fun q => hn q.2.1)]
  · rw [if_neg hq, if_pos rfl, if_neg (fun q => hq q.1)]
theorem PA.rs {M : MT} {Y Z : YT} {h0 h h1 : AH} (s : MS h0 M Y) (p : PA M Z h h1) (f : Fr sca [] h0 h) : MS h1 M Y ∧ Fr sca [] h0 h1 := by
  have ff := f.t p.1
  exact ⟨⟨s.1.fr ff (by simp) (by simp), fun k hk => by rw [ff.i _ _ (by simp) (by simp)]; exact s.2 k hk⟩, ff⟩
theorem MS.fr {M : MT} {Y : YT} {h h1 : AH} (s : MS h M Y) (f : Fr sca [] h h1) : MS h1 M Y := ⟨s.1.fr f (by simp) (by simp), fun k hk => by rw [f.i _ _ (by simp) (by simp)]; exact s.2 k hk⟩
theorem M_odds_ok {M : MT} {Y : YT} {h : AH} (s : MS h M Y) (hc : CH M) (a b p n part : Int32) : ∃ h1, f_M_odds a b p n part h = some (oddS M Y a b p n part, h1) ∧ Fr sca [] h h1 := by
  have h6 := s.1.1.2.1
  rw [f_M_odds, M_canOdds_ok s.1, bI_s]
  unfold oddS
  by_cases hq : twoS (mN M) a b = true ∧ (0 ≤ n ∧ n ≤ 4) ∧ (0 ≤ part ∧ part ≤ 1)
  · rw [if_pos hq, if_pos (by decide)]
    obtain ⟨hq, hn, hp⟩ := hq
    rw [if_pos hq, if_pos hn, if_pos hp]
    obtain ⟨n, hk, rfl⟩ := inR_ix (n := 4) (by omega) hn
    obtain ⟨i, j, hi, hj, rfl, rfl⟩ := two_ix h6 hq
    obtain ⟨pe, pl⟩ := p2_e hk
    rw [ix_n (show i < 2 ^ 31 by omega), ix_n (show j < 2 ^ 31 by omega), ix_n (show n < 2 ^ 31 by omega)]
    refine lpc (fun fu k (z : Int32 × AH) => f_M_odds_l21 (nI i) (nI j) p (nI n) part fu z.1 (nI k) z.2) (fun k z => z.1 = odL M Y i j p n k ∧ Fr sca [] h z.2) (fun r => r.1 = partS (odL M Y i j p n (2 ^ n)).toInt.toNat n part ∧ Fr sca [] h r.2) (2 ^ n) (by omega) (0, h) ⟨rfl, Fr.rf _ _ _⟩ (fun r e q => ⟨r.2, by rw [← q.1]; exact e, q.2⟩) (fun k fu z hk p => Or.inl ?_) (fun fu z p => ?_)
    · obtain ⟨x, z⟩ := z
      obtain ⟨rfl, f1⟩ := p
      have s1 := s.fr f1
      obtain ⟨h2, e2, p2⟩ := M_share_ok s1 (nI k) (show n ≤ 4 by omega)
      obtain ⟨h3, e3, p3⟩ := p2.pr hi hj
      refine ⟨(odL M Y i j p n (k + 1), h3), ?_, rfl, f1.t p3.1⟩
      show f_M_odds_l21 (nI i) (nI j) p (nI n) part (fu + 1) (odL M Y i j p n k) (nI k) z = f_M_odds_l21 (nI i) (nI j) p (nI n) part fu (odL M Y i j p n k + (if priceS M (farP M (nI k) n Y) i j < p then 0 else shS M (nI k) n)) (nI (k + 1)) h3
      rw [f_M_odds_l21, pe, if_neg (nI_ge (by omega) (by omega)), e2, bI_s, e3, bI_s]
      simp only [lt_e, nI_1]
      by_cases hv : priceS M (farP M (nI k) n Y) i j < p
      · rw [if_pos hv, if_pos hv]
      · rw [if_neg hv, if_neg hv]
    · obtain ⟨x, z⟩ := z
      obtain ⟨rfl, f1⟩ := p
      refine ⟨(partS (odL M Y i j p n (2 ^ n)).toInt.toNat n part, z), ?_, rfl, f1⟩
      obtain ⟨ee, el⟩ := i_nat (od_in hc Y i j p hk (2 ^ n) pl).1
      obtain ⟨g0, g1⟩ := hund_in hk
      have gp : 0 < Nat.gcd (100 ^ n) (odL M Y i j p n (2 ^ n)).toInt.toNat := Nat.gcd_pos_of_pos_left _ g0
      have gl : Nat.gcd (100 ^ n) (odL M Y i j p n (2 ^ n)).toInt.toNat ≤ 100 ^ n := Nat.gcd_le_left _ g0
      have zz : ¬ nI (Nat.gcd (100 ^ n) (odL M Y i j p n (2 ^ n)).toInt.toNat) = 0 := fun q => by
        have := (n_inj (by omega) (by omega)).mp (q.trans (show (0 : Int32) = nI 0 from rfl))
        omega
      show f_M_odds_l21 (nI i) (nI j) p (nI n) part (fu + 1) (odL M Y i j p n (2 ^ n)) (nI (2 ^ n)) z = _
      rw [f_M_odds_l21, pe, if_pos (nI_le (by omega) (by omega)), M_hund_ok hk, bI_s]
      generalize odL M Y i j p n (2 ^ n) = W at ee el gp gl zz ⊢
      rw [show f_M_divisor (nI (100 ^ n)) W z = f_M_divisor (nI (100 ^ n)) (nI W.toInt.toNat) z by rw [← ee], M_gcd_ok g1 el, bI_s, gz_ok _ zz, gz_ok _ zz, n_dv g1 (by omega) gp]
      rw [show W / nI (Nat.gcd (100 ^ n) W.toInt.toNat) = nI (W.toInt.toNat / Nat.gcd (100 ^ n) W.toInt.toNat) by rw [← n_dv el (by omega) gp, ← ee]]
      unfold partS
      by_cases hp : part = 0
      · rw [if_neg (fun q => q hp), if_pos hp]
      · rw [if_pos hp, if_neg hp]
  · rw [if_neg hq, if_neg (by decide)]
    refine ⟨h, ?_, Fr.rf _ _ _⟩
    by_cases q1 : twoS (mN M) a b = true
    · rw [if_pos q1]
      by_cases q2 : 0 ≤ n ∧ n ≤ 4
      · rw [if_pos q2, if_neg (fun q3 => hq ⟨q1, q2, q3⟩)]
      · rw [if_neg q2]
    · rw [if_neg q1]
def meL (M : MT) (Y : YT) (i j n : Nat) : Nat → Int32
  | 0 => 0
  | k + 1 => meL M Y i j n k + shS M (nI k) n * priceS M (farP M (nI k) n Y) i j
theorem me_in {M : MT} (hc : CH M) (Y : YT) (i j : Nat) {n : Nat} (hn : n ≤ 3) : ∀ k : Nat, k ≤ 16 → 0 ≤ (meL M Y i j n k).toInt ∧ (meL M Y i j n k).toInt ≤ k * 99000000 := by
  intro k
  induction k with
  | zero => intro _; exact ⟨by show (0 : Int) ≤ 0; omega, by show (0 : Int) ≤ _; omega⟩
  | succ k ih =>
    intro hk
    have h1 := ih (by omega)
    have hs := sh_in hc (nI k) n (by omega)
    have hp : (100 : Int) ^ n ≤ 1000000 := by
      have : n = 0 ∨ n = 1 ∨ n = 2 ∨ n = 3 := by omega
      rcases this with rfl | rfl | rfl | rfl <;> decide
    have h2 := ml_in (a := 1000000) (b := 99) ⟨hs.1, by omega⟩ (price_in M (farP M (nI k) n Y) i j) (by decide)
    rw [meL, i_add (by omega) (by omega)]
    omega
def meanS (M : MT) (Y : YT) (a b n part : Int32) : Int32 := if twoS (mN M) a b = true then (if 0 ≤ n ∧ n ≤ 3 then (if 0 ≤ part ∧ part ≤ 1 then partS (meL M Y (ix a) (ix b) (ix n) (2 ^ ix n)).toInt.toNat (ix n) part else -1) else -1) else -1
theorem H_mean_ok {M : MT} {Y : YT} {u : Nat} {h : AH} (s : HS h M Y u) (b0 : BN M Y) (c0 : BC M Y) (hc : CH M) (a b n part : Int32) : ∃ h1, f_H_mean a b n part h = some (meanS M Y a b n part, h1) ∧ Fr (scW u) plW h h1 := by
  have h6 := s.2.2.1.1.2.1
  rw [f_H_mean, H_areTwo_ok s, bI_s]
  unfold meanS
  by_cases hq : twoS (mN M) a b = true
  · rw [if_pos hq, if_neg (by decide), if_pos hq, within_e, bI_s]
    by_cases hn : 0 ≤ n ∧ n ≤ 3
    · rw [if_pos hn, if_neg (by decide), if_pos hn, within_e, bI_s]
      by_cases hp : 0 ≤ part ∧ part ≤ 1
      · rw [if_pos hp, if_pos (by decide), if_pos hp]
        obtain ⟨n, hk, rfl⟩ := inR_ix (n := 3) (by omega) hn
        obtain ⟨i, j, hi, hj, rfl, rfl⟩ := two_ix h6 hq
        obtain ⟨pe, pl⟩ := p2_e (show n ≤ 4 by omega)
        rw [ix_n (show i < 2 ^ 31 by omega), ix_n (show j < 2 ^ 31 by omega), ix_n (show n < 2 ^ 31 by omega)]
        refine lpc (fun fu k (z : Int32 × AH) => f_H_mean_l36 (nI i) (nI j) (nI n) part fu z.1 (nI k) z.2) (fun k z => z.1 = meL M Y i j n k ∧ Fr (scW u) plW h z.2) (fun r => r.1 = partS (meL M Y i j n (2 ^ n)).toInt.toNat n part ∧ Fr (scW u) plW h r.2) (2 ^ n) (by omega) (0, h) ⟨rfl, Fr.rf _ _ _⟩ (fun r e q => ⟨r.2, by rw [← q.1]; exact e, q.2⟩) (fun k fu z hk p => Or.inl ?_) (fun fu z p => ?_)
        · obtain ⟨x, z⟩ := z
          obtain ⟨rfl, f1⟩ := p
          have s1 := s.fr f1
          obtain ⟨h2, e2, f2⟩ := H_behind_ok f1 s1 b0 c0 (nI k) (show n ≤ 4 by omega) hi hj
          refine ⟨(meL M Y i j n (k + 1), h2), ?_, rfl, f2⟩
          show f_H_mean_l36 (nI i) (nI j) (nI n) part (fu + 1) (meL M Y i j n k) (nI k) z = f_H_mean_l36 (nI i) (nI j) (nI n) part fu (meL M Y i j n k + shS M (nI k) n * priceS M (farP M (nI k) n Y) i j) (nI (k + 1)) h2
          rw [f_H_mean_l36, pe, if_neg (nI_ge (by omega) (by omega)), H_weight_ok s1.1 s1.2.1 s1.2.2.1 (nI k) (show n ≤ 4 by omega), bI_s, e2, bI_s, lt_e, lt_e, nI_1]
        · obtain ⟨x, z⟩ := z
          obtain ⟨rfl, f1⟩ := p
          refine ⟨(partS (meL M Y i j n (2 ^ n)).toInt.toNat n part, z), ?_, rfl, f1⟩
          show f_H_mean_l36 (nI i) (nI j) (nI n) part (fu + 1) (meL M Y i j n (2 ^ n)) (nI (2 ^ n)) z = _
          obtain ⟨ee, el⟩ := i_nat (me_in hc Y i j hk (2 ^ n) pl).1
          rw [f_H_mean_l36, pe, if_pos (nI_le (by omega) (by omega)), ee, H_part_ok (show n ≤ 4 by omega) el, bI_s, ← ee]
      · rw [if_neg hp, if_neg (by decide), if_neg hp]
        exact ⟨h, rfl, Fr.rf _ _ _⟩
    · rw [if_neg hn, if_pos rfl, if_neg hn]
      exact ⟨h, rfl, Fr.rf _ _ _⟩
  · rw [if_neg hq, if_pos rfl, if_neg hq]
    exact ⟨h, rfl, Fr.rf _ _ _⟩
theorem M_mean_ok {M : MT} {Y : YT} {h : AH} (s : MS h M Y) (hc : CH M) (a b n part : Int32) : ∃ h1, f_M_mean a b n part h = some (meanS M Y a b n part, h1) ∧ Fr sca [] h h1 := by
  have h6 := s.1.1.2.1
  rw [f_M_mean, M_canOdds_ok s.1, bI_s]
  unfold meanS
  by_cases q3 : 3 < n
  · rw [if_pos q3]
    refine ⟨h, ?_, Fr.rf _ _ _⟩
    rw [if_neg (fun q : 0 ≤ n ∧ n ≤ 3 => Int32.not_le.mpr q3 q.2)]
    split <;> rfl
  rw [if_neg q3]
  by_cases hq : twoS (mN M) a b = true ∧ (0 ≤ n ∧ n ≤ 4) ∧ (0 ≤ part ∧ part ≤ 1)
  · rw [if_pos hq, if_pos (by decide)]
    obtain ⟨hq, hn4, hp⟩ := hq
    have hn : 0 ≤ n ∧ n ≤ 3 := ⟨hn4.1, Int32.not_lt.mp q3⟩
    rw [if_pos hq, if_pos hn, if_pos hp]
    obtain ⟨n, hk, rfl⟩ := inR_ix (n := 3) (by omega) hn
    obtain ⟨i, j, hi, hj, rfl, rfl⟩ := two_ix h6 hq
    obtain ⟨pe, pl⟩ := p2_e (show n ≤ 4 by omega)
    rw [ix_n (show i < 2 ^ 31 by omega), ix_n (show j < 2 ^ 31 by omega), ix_n (show n < 2 ^ 31 by omega)]
    refine lpc (fun fu k (z : Int32 × AH) => f_M_mean_l25 (nI i) (nI j) (nI n) part fu z.1 (nI k) z.2) (fun k z => z.1 = meL M Y i j n k ∧ Fr sca [] h z.2) (fun r => r.1 = partS (meL M Y i j n (2 ^ n)).toInt.toNat n part ∧ Fr sca [] h r.2) (2 ^ n) (by omega) (0, h) ⟨rfl, Fr.rf _ _ _⟩ (fun r e q => ⟨r.2, by rw [← q.1]; exact e, q.2⟩) (fun k fu z hk p => Or.inl ?_) (fun fu z p => ?_)
    · obtain ⟨x, z⟩ := z
      obtain ⟨rfl, f1⟩ := p
      have s1 := s.fr f1
      obtain ⟨h2, e2, p2⟩ := M_share_ok s1 (nI k) (show n ≤ 4 by omega)
      obtain ⟨h3, e3, p3⟩ := p2.pr hi hj
      refine ⟨(meL M Y i j n (k + 1), h3), ?_, rfl, f1.t p3.1⟩
      show f_M_mean_l25 (nI i) (nI j) (nI n) part (fu + 1) (meL M Y i j n k) (nI k) z = f_M_mean_l25 (nI i) (nI j) (nI n) part fu (meL M Y i j n k + shS M (nI k) n * priceS M (farP M (nI k) n Y) i j) (nI (k + 1)) h3
      rw [f_M_mean_l25, pe, if_neg (nI_ge (by omega) (by omega)), e2, bI_s, e3, bI_s, lt_e, lt_e, nI_1]
    · obtain ⟨x, z⟩ := z
      obtain ⟨rfl, f1⟩ := p
      refine ⟨(partS (meL M Y i j n (2 ^ n)).toInt.toNat n part, z), ?_, rfl, f1⟩
      obtain ⟨ee, el⟩ := i_nat (me_in hc Y i j hk (2 ^ n) pl).1
      obtain ⟨g0, g1⟩ := hund_in (show n ≤ 4 by omega)
      have gp : 0 < Nat.gcd (100 ^ n) (meL M Y i j n (2 ^ n)).toInt.toNat := Nat.gcd_pos_of_pos_left _ g0
      have gl : Nat.gcd (100 ^ n) (meL M Y i j n (2 ^ n)).toInt.toNat ≤ 100 ^ n := Nat.gcd_le_left _ g0
      have zz : ¬ nI (Nat.gcd (100 ^ n) (meL M Y i j n (2 ^ n)).toInt.toNat) = 0 := fun q => by
        have := (n_inj (by omega) (by omega)).mp (q.trans (show (0 : Int32) = nI 0 from rfl))
        omega
      show f_M_mean_l25 (nI i) (nI j) (nI n) part (fu + 1) (meL M Y i j n (2 ^ n)) (nI (2 ^ n)) z = _
      rw [f_M_mean_l25, pe, if_pos (nI_le (by omega) (by omega)), M_hund_ok (show n ≤ 4 by omega), bI_s]
      generalize meL M Y i j n (2 ^ n) = W at ee el gp gl zz ⊢
      rw [show f_M_divisor (nI (100 ^ n)) W z = f_M_divisor (nI (100 ^ n)) (nI W.toInt.toNat) z by rw [← ee], M_gcd_ok g1 el, bI_s, gz_ok _ zz, gz_ok _ zz, n_dv g1 (by omega) gp]
      rw [show W / nI (Nat.gcd (100 ^ n) W.toInt.toNat) = nI (W.toInt.toNat / Nat.gcd (100 ^ n) W.toInt.toNat) by rw [← n_dv el (by omega) gp, ← ee]]
      unfold partS
      by_cases hp : part = 0
      · rw [if_neg (fun q => q hp), if_pos hp]
      · rw [if_pos hp, if_neg hp]
  · rw [if_neg hq, if_neg (by decide)]
    refine ⟨h, ?_, Fr.rf _ _ _⟩
    by_cases q1 : twoS (mN M) a b = true
    · rw [if_pos q1]
      by_cases q2 : 0 ≤ n ∧ n ≤ 3
      · rw [if_pos q2, if_neg (fun q3 => hq ⟨q1, ⟨q2.1, Int32.le_trans q2.2 (by decide)⟩, q3⟩)]
      · rw [if_neg q2]
    · rw [if_neg q1]
