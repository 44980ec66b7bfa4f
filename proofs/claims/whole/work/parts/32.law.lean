/-! ===== prices of all pairs, by a law ===== -/
def pB (a x y : Int32) : Int32 := if a = 1 then mx x y else if a = 2 then mn x y else if a = 3 then x + y else (x + y) / 2
def rowS (f : Nat → Nat → Int32) (i : Nat) : Nat → Int32 → Int32
  | 0, acc => acc
  | k + 1, acc => rowS f i k acc + f i k
def triL (f : Nat → Nat → Int32) : Nat → Int32 → Int32
  | 0, acc => acc
  | n + 1, acc => rowS f n n (triL f n acc)
def rowU (f : Nat → Nat → Int32) (i : Nat) : Nat → Nat → Int32 → Int32
  | 0, _, acc => acc
  | c + 1, s, acc => rowU f i c (s + 1) (acc + f i s)
def triU (f : Nat → Nat → Int32) (n : Nat) : Nat → Nat → Int32 → Int32
  | 0, _, acc => acc
  | c + 1, i, acc => triU f n c (i + 1) (rowU f i (n - (i + 1)) (i + 1) acc)
theorem tri_eq (f : Nat → Nat → Int32) (hs : ∀ i j, f i j = f j i) {n : Nat} (hn : n ≤ 6) (acc : Int32) : triU f n n 0 acc = triL f n acc := by
  have s10 := hs 1 0
  have s20 := hs 2 0
  have s21 := hs 2 1
  have s30 := hs 3 0
  have s31 := hs 3 1
  have s32 := hs 3 2
  have s40 := hs 4 0
  have s41 := hs 4 1
  have s42 := hs 4 2
  have s43 := hs 4 3
  have s50 := hs 5 0
  have s51 := hs 5 1
  have s52 := hs 5 2
  have s53 := hs 5 3
  have s54 := hs 5 4
  rcases (show n = 0 ∨ n = 1 ∨ n = 2 ∨ n = 3 ∨ n = 4 ∨ n = 5 ∨ n = 6 by omega) with rfl | rfl | rfl | rfl | rfl | rfl | rfl <;>
    simp only [triU, rowU, triL, rowS, Nat.reduceSub, Nat.reduceAdd, Nat.zero_add, s10, s20, s21, s30, s31, s32, s40, s41, s42, s43, s50, s51, s52, s53, s54] <;> ac_rfl
theorem mx_c (x y : Int32) : mx x y = mx y x := by
  unfold mx
  by_cases h1 : x < y
  · rw [if_pos h1, if_neg (Int32.not_lt.mpr (Int32.le_of_lt h1))]
  · rw [if_neg h1]
    by_cases h2 : y < x
    · rw [if_pos h2]
    · rw [if_neg h2]
      exact Int32.le_antisymm (Int32.not_lt.mp h2) (Int32.not_lt.mp h1)
theorem mn_c (x y : Int32) : mn x y = mn y x := by
  by_cases h1 : x ≤ y
  · rw [mn_le h1, mn_ge h1]
  · have h2 : y ≤ x := Int32.le_of_lt (Int32.not_le.mp h1)
    rw [mn_le h2, mn_ge h2]
theorem pB_c (a x y : Int32) : pB a x y = pB a y x := by
  unfold pB
  rw [mx_c, mn_c, Int32.add_comm]
theorem M_priceBy_ok {M : MT} {Y : YT} {h : AH} (hM : MM h M) (hY : AY h Y) {a : Int32} (ha : a = 1 ∨ a = 2 ∨ a = 3) {i j : Nat} (hi : i < mN M) (hj : j < mN M) : ∃ h1, f_M_priceBy a (nI i) (nI j) h = some (pB a (chirpS M Y i) (chirpS M Y j), h1) ∧ Fr sc [] h h1 := by
  obtain ⟨h1, e1, f1⟩ := M_chirpsOf_ok hM hY hi
  obtain ⟨h2, e2, f2⟩ := M_chirpsOf_ok (hM.fr f1 (by simp) (by simp)) (hY.fr f1 (by simp) (by simp)) hj
  refine ⟨h2, ?_, f1.t f2⟩
  rw [f_M_priceBy, e1, bI_s, e2, bI_s]
  generalize chirpS M Y i = x
  generalize chirpS M Y j = y
  unfold pB
  rcases ha with rfl | rfl | rfl
  · rw [if_neg (by decide), if_pos rfl, mx_c]
    unfold mx
    by_cases hq : x ≤ y
    · rw [if_pos hq, if_neg (Int32.not_lt.mpr hq)]
    · rw [if_neg hq, if_pos (Int32.not_le.mp hq)]
  · rw [if_pos (show ¬ (2 : Int32) = 1 by decide), if_neg (show ¬ ¬ (2 : Int32) = 2 by decide), if_neg (show ¬ (2 : Int32) = 1 by decide), if_pos (show (2 : Int32) = 2 from rfl)]
    by_cases hq : y ≤ x
    · rw [if_pos hq, mn_ge hq]
    · rw [if_neg hq, mn_le (Int32.le_of_lt (Int32.not_le.mp hq))]
  · rw [if_pos (by decide), if_pos (by decide), if_neg (by decide), if_neg (by decide), if_pos rfl]
/-- the choir's sum over all pairs -/
def pF (M : MT) (Y : YT) (a : Int32) : Nat → Nat → Int32 := fun i j => pB a (chirpS M Y i) (chirpS M Y j)
theorem byLaw_ok {M : MT} {Y : YT} {h : AH} (h6 : mN M ≤ 6) (a1 : ∀ j, j < mN M → hI h 52 j = chirpS M Y j) (a : Int32) {i j : Nat} (hi : i < mN M) (hj : j < mN M) : f_Choir_byLaw a (nI i) (nI j) h = some (pF M Y a i j, h) := by
  have gi : ∀ K : Option (Int32 × AH), gx (nI i) 6 K = K := fun K => gx_n K (by omega) (by omega)
  have gj : ∀ K : Option (Int32 × AH), gx (nI j) 6 K = K := fun K => gx_n K (by omega) (by omega)
  rw [f_Choir_byLaw, f_Choir_half]
  simp only [gi, gj, ix_n (show i < 2 ^ 31 by omega), ix_n (show j < 2 ^ 31 by omega), a1 i hi, a1 j hj, bI_s]
  unfold pF pB
  split
  · rfl
  · split
    · rfl
    · split <;> rfl
theorem allP_in {M : MT} {Y : YT} {h : AH} (h6 : mN M ≤ 6) (d1 : hI h 51 1 = nI (mN M)) (a1 : ∀ j, j < mN M → hI h 52 j = chirpS M Y j) (a : Int32) (K : Int32 → Int32 → AH → Option (Int32 × AH)) {i : Nat} (hi : i < mN M) : ∀ (m k fu : Nat) (acc : Int32), m + k = mN M → m < fu → f_Choir_allPrices_l17 a K fu acc (nI i) (nI k) h = K (rowU (pF M Y a) i m k acc) (nI (i + 1)) h := by
  intro m
  induction m with
  | zero =>
    intro k fu acc hk hf
    obtain ⟨fu, rfl⟩ : ∃ q, fu = q + 1 := ⟨fu - 1, by omega⟩
    rw [f_Choir_allPrices_l17, d1, if_pos (nI_le (by omega) (by omega)), lt_e, nI_1]
    rfl
  | succ m ih =>
    intro k fu acc hk hf
    obtain ⟨fu, rfl⟩ : ∃ q, fu = q + 1 := ⟨fu - 1, by omega⟩
    rw [f_Choir_allPrices_l17, d1, if_neg (nI_ge (show k < mN M by omega) (by omega)), byLaw_ok h6 a1 a hi (by omega), bI_s, lt_e, lt_e, nI_1, ih (k + 1) fu _ (by omega) (by omega)]
    rfl
theorem allP_out {M : MT} {Y : YT} {h : AH} (h6 : mN M ≤ 6) (d1 : hI h 51 1 = nI (mN M)) (a1 : ∀ j, j < mN M → hI h 52 j = chirpS M Y j) (a : Int32) : ∀ (m k fu : Nat) (acc : Int32), m + k = mN M → m < fu → f_Choir_allPrices_l4 a fu acc (nI k) h = some (triU (pF M Y a) (mN M) m k acc, h) := by
  intro m
  induction m with
  | zero =>
    intro k fu acc hk hf
    obtain ⟨fu, rfl⟩ : ∃ q, fu = q + 1 := ⟨fu - 1, by omega⟩
    rw [f_Choir_allPrices_l4, d1, if_pos (nI_le (by omega) (by omega))]
    rfl
  | succ m ih =>
    intro k fu acc hk hf
    obtain ⟨fu, rfl⟩ : ∃ q, fu = q + 1 := ⟨fu - 1, by omega⟩
    rw [f_Choir_allPrices_l4, d1, if_neg (nI_ge (show k < mN M by omega) (by omega)), lt_e, nI_1, allP_in h6 d1 a1 a _ (show k < mN M by omega) (mN M - (k + 1)) (k + 1) FU acc (by omega) (by show _ < 1000000; omega), ih (k + 1) fu _ (by omega) (by omega)]
    rfl
theorem pF_c (M : MT) (Y : YT) (a : Int32) (i j : Nat) : pF M Y a i j = pF M Y a j i := pB_c _ _ _
theorem allP_ok {M : MT} {Y : YT} {h : AH} (h6 : mN M ≤ 6) (d1 : hI h 51 1 = nI (mN M)) (a1 : ∀ j, j < mN M → hI h 52 j = chirpS M Y j) (a : Int32) : f_Choir_allPrices a h = some (triL (pF M Y a) (mN M) 0, h) := by
  rw [f_Choir_allPrices, ← tri_eq _ (pF_c M Y a) h6]
  exact allP_out h6 d1 a1 a (mN M) 0 FU 0 (by omega) (by show mN M < 1000000; omega)
def lawS (M : MT) (Y : YT) (a : Int32) : Int32 := if 1 ≤ a ∧ a ≤ 3 then triL (pF M Y a) (mN M) 0 - triL (pF M Y 0) (mN M) 0 else -1000000
theorem within_e (a lo hi : Int32) (h : AH) : f_H_within a lo hi h = some (if lo ≤ a ∧ a ≤ hi then 1 else 0, h) := by
  unfold f_H_within
  by_cases h1 : a < lo
  · rw [if_pos h1, if_neg (fun q => Int32.not_le.mpr h1 q.1)]
  · rw [if_neg h1]
    by_cases h2 : hi < a
    · rw [if_pos h2, if_neg (fun q => Int32.not_le.mpr h2 q.2)]
    · rw [if_neg h2, if_pos ⟨Int32.not_lt.mp h1, Int32.not_lt.mp h2⟩]
theorem H_law_ok {M : MT} {Y : YT} {u : Nat} {h : AH} (s : HS h M Y u) (a : Int32) : ∃ h1, f_H_law a h = some (lawS M Y a, h1) ∧ Fr (scU u) [(51, 1)] h h1 := by
  have h6 := s.2.2.1.1.2.1
  obtain ⟨hu, hr, hM, hY⟩ := s
  rw [f_H_law, within_e, bI_s]
  unfold lawS
  by_cases hq : 1 ≤ a ∧ a ≤ 3
  · rw [if_pos hq, if_pos (by decide), if_pos hq, gd_ok _ hr (kd_u hu)]
    obtain ⟨h1, e1, f1, d1, a1⟩ := tune_ok (t := 37) (by omega) hu (by omega) hM hY
    refine ⟨h1, ?_, f1⟩
    rw [e1, bV_s, allP_ok h6 d1 a1, bI_s, allP_ok h6 d1 a1, bI_s]
  · rw [if_neg hq, if_neg (by decide), if_neg hq]
    exact ⟨h, rfl, Fr.rf _ _ _⟩
