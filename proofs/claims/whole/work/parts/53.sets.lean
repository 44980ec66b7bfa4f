/-! ===== sets of songs, as bits ===== -/
theorem nI_b {s i : Nat} (hi : i < 32) : (nI s).toBitVec.getLsbD i = s.testBit i := by
  show (BitVec.ofNat 32 s).getLsbD i = _
  rw [BitVec.getLsbD_ofNat]
  simp [hi]
theorem bit_n {s i : Nat} (hi : i < 32) : ((nI s >>> (nI i &&& 31)) &&& 1) = if s.testBit i = true then 1 else 0 := by
  rw [bit_v _ hi, nI_b hi]
theorem i_ext {x y : Int32} (h : ∀ i, i < 32 → x.toBitVec.getLsbD i = y.toBitVec.getLsbD i) : x = y := by
  apply Int32.toBitVec_inj.mp
  exact BitVec.eq_of_getLsbD_eq h
def addS (s c : Nat) : Nat := s ||| (1 <<< c)
theorem tb_1 (c i : Nat) : (1 <<< c).testBit i = decide (i = c) := by
  rw [Nat.testBit_shiftLeft]
  by_cases h : i = c
  · subst h; simp
  · by_cases h2 : c ≤ i
    · have h3 : ¬ i - c = 0 := by omega
      have h4 : Nat.testBit 1 (i - c) = false := by
        cases hb : Nat.testBit 1 (i - c) with
        | false => rfl
        | true => exact absurd (Nat.testBit_one_eq_true_iff_self_eq_zero.mp hb) h3
      simp [h, h4]
    · simp [h, h2]
theorem addS_b (s c i : Nat) : (addS s c).testBit i = (s.testBit i || decide (i = c)) := by
  unfold addS
  rw [Nat.testBit_or, tb_1]
theorem addS_i {s c : Nat} (hc : c < 32) : nI s ||| ((1 : Int32) <<< (nI c &&& 31)) = nI (addS s c) := by
  apply i_ext
  intro i hi
  rw [bit_o _ hc hi, nI_b hi, nI_b hi, addS_b]
theorem addS_lt {s c : Nat} (hs : s < 1024) (hc : c < 10) : addS s c < 1024 := by
  unfold addS
  apply Nat.or_lt_two_pow (n := 10) hs
  rw [Nat.one_shiftLeft]
  exact Nat.pow_lt_pow_right (by omega) hc
theorem addS_ge (s c : Nat) : s ≤ addS s c := Nat.left_le_or
theorem addS_self {s c : Nat} (h : s.testBit c = true) : addS s c = s := by
  apply Nat.eq_of_testBit_eq
  intro i
  rw [addS_b]
  by_cases e : i = c
  · subst e; simp [h]
  · simp [e]
def pcN (s : Nat) : Nat := cntS (fun i => s.testBit i) 10
theorem cntS_c {p q : Nat → Bool} : ∀ n, (∀ i, i < n → p i = q i) → cntS p n = cntS q n := by
  intro n
  induction n with
  | zero => intro _; rfl
  | succ n ih =>
    intro h
    rw [cntS, cntS, ih (fun i hi => h i (by omega)), h n (by omega)]
theorem cntS_u {p q : Nat → Bool} {c : Nat} (hp : p c = false) (hq : ∀ i, q i = (p i || decide (i = c))) : ∀ n, c < n → cntS q n = cntS p n + 1 := by
  intro n
  induction n with
  | zero => intro h; omega
  | succ n ih =>
    intro h
    by_cases e : c = n
    · subst e
      have e1 : cntS q c = cntS p c := cntS_c c (fun i hi => by
        have : ¬ i = c := by omega
        rw [hq]
        simp [this])
      simp [cntS, e1, hq, hp]
    · have := ih (by omega)
      have e2 : q n = p n := by
        have : ¬ n = c := by omega
        rw [hq]
        simp [this]
      simp only [cntS, this, e2]
      split <;> omega
theorem pcN_a {s c : Nat} (hc : c < 10) (h : s.testBit c = false) : pcN (addS s c) = pcN s + 1 := cntS_u (p := fun i => s.testBit i) (q := fun i => (addS s c).testBit i) h (fun i => addS_b s c i) 10 hc
theorem pcN_le (s : Nat) : pcN s ≤ 10 := cntS_le _ 10
theorem bc_ok {s : Nat} (hs : s < 1024) (h : AH) : f_JInteger_bitCount (nI s) h = some (nI (pcN s), h) := by
  have k : ∀ s : Fin 1024, (((((nI s.val - ((ushr (nI s.val) 1) &&& 1431655765)) &&& 858993459) + ((ushr (nI s.val - ((ushr (nI s.val) 1) &&& 1431655765)) 2) &&& 858993459)) + ushr (((nI s.val - ((ushr (nI s.val) 1) &&& 1431655765)) &&& 858993459) + ((ushr (nI s.val - ((ushr (nI s.val) 1) &&& 1431655765)) 2) &&& 858993459)) 4 &&& 252645135) + ushr ((((nI s.val - ((ushr (nI s.val) 1) &&& 1431655765)) &&& 858993459) + ((ushr (nI s.val - ((ushr (nI s.val) 1) &&& 1431655765)) 2) &&& 858993459)) + ushr (((nI s.val - ((ushr (nI s.val) 1) &&& 1431655765)) &&& 858993459) + ((ushr (nI s.val - ((ushr (nI s.val) 1) &&& 1431655765)) 2) &&& 858993459)) 4 &&& 252645135) 8 + ushr (((((nI s.val - ((ushr (nI s.val) 1) &&& 1431655765)) &&& 858993459) + ((ushr (nI s.val - ((ushr (nI s.val) 1) &&& 1431655765)) 2) &&& 858993459)) + ushr (((nI s.val - ((ushr (nI s.val) 1) &&& 1431655765)) &&& 858993459) + ((ushr (nI s.val - ((ushr (nI s.val) 1) &&& 1431655765)) 2) &&& 858993459)) 4 &&& 252645135) + ushr ((((nI s.val - ((ushr (nI s.val) 1) &&& 1431655765)) &&& 858993459) + ((ushr (nI s.val - ((ushr (nI s.val) 1) &&& 1431655765)) 2) &&& 858993459)) + ushr (((nI s.val - ((ushr (nI s.val) 1) &&& 1431655765)) &&& 858993459) + ((ushr (nI s.val - ((ushr (nI s.val) 1) &&& 1431655765)) 2) &&& 858993459)) 4 &&& 252645135) 8) 16) &&& 63 = nI (pcN s.val) := by decide +kernel
  have := k ⟨s, hs⟩
  rw [f_JInteger_bitCount]
  simp only [lt_e]
  exact congrArg (fun x => some (x, h)) this
/-- what two songs of s give -/
def chB (s c : Nat) : Prop := ∃ a b, a < 10 ∧ b < 10 ∧ s.testBit a = true ∧ s.testBit b = true ∧ (a + b) % 10 = c
theorem rot_b {s i c : Nat} (hs : s < 1024) (hi : i < 10) (hc : c < 32) : (((nI s <<< (nI i &&& 31)) ||| (nI s >>> ((10 - nI i) &&& 31))) &&& 1023).toBitVec.getLsbD c = (decide (c < 10) && ((decide (i ≤ c) && s.testBit (c - i)) || s.testBit (c + 10 - i))) := by
  have e10 : (10 : Int32) - nI i = nI (10 - i) := n_sb (a := 10) (by omega) (by omega)
  have hb : ∀ k, 10 ≤ k → s.testBit k = false := fun k hk => Nat.testBit_lt_two_pow (Nat.lt_of_lt_of_le hs (show 1024 ≤ 2 ^ k from Nat.pow_le_pow_right (n := 2) (i := 10) (by omega) hk))
  rw [e10, Int32.toBitVec_and, BitVec.getLsbD_and, Int32.toBitVec_or, BitVec.getLsbD_or]
  rw [Int32.toBitVec_shiftLeft, show ((nI i &&& 31).toBitVec.smod 32) = BitVec.ofNat 32 i from sh_am (by omega), BitVec.shiftLeft_eq', show (BitVec.ofNat 32 i).toNat = i by rw [BitVec.toNat_ofNat]; omega]
  rw [Int32.toBitVec_shiftRight, show ((nI (10 - i) &&& 31).toBitVec.smod 32) = BitVec.ofNat 32 (10 - i) from sh_am (by omega), BitVec.sshiftRight_eq', show (BitVec.ofNat 32 (10 - i)).toNat = 10 - i by rw [BitVec.toNat_ofNat]; omega]
  rw [BitVec.getLsbD_shiftLeft, BitVec.getLsbD_sshiftRight]
  have e1023 : (1023 : Int32).toBitVec.getLsbD c = decide (c < 10) := by
    show (nI 1023).toBitVec.getLsbD c = _
    rw [nI_b hc]
    have : ∀ c : Fin 32, (1023 : Nat).testBit c.val = decide (c.val < 10) := by decide
    exact this ⟨c, hc⟩
  rw [e1023]
  by_cases h10 : c < 10
  · have m : (nI s).toBitVec.msb = false := by
      rw [BitVec.msb_eq_getLsbD_last, nI_b (by omega), hb _ (by omega)]
    rw [if_pos (show 10 - i + c < 32 by omega), nI_b (show 10 - i + c < 32 by omega), nI_b (show c - i < 32 by omega), show 10 - i + c = c + 10 - i by omega]
    by_cases hic : i ≤ c
    · simp [h10, hic, hc, show ¬ c < i by omega, show ¬ 32 ≤ c by omega]
    · simp [h10, hic, hc, show c < i by omega, show ¬ 32 ≤ c by omega]
  · simp [h10]
def suL (s : Nat) : Nat → Int32
  | 0 => 0
  | k + 1 => if s.testBit k = true then suL s k ||| (((nI s <<< (nI k &&& 31)) ||| (nI s >>> ((10 - nI k) &&& 31))) &&& 1023) else suL s k
theorem suL_b {s : Nat} (hs : s < 1024) {c : Nat} (hc : c < 10) : ∀ k, k ≤ 10 → ((suL s k).toBitVec.getLsbD c = true ↔ ∃ i, i < k ∧ s.testBit i = true ∧ ((i ≤ c ∧ s.testBit (c - i) = true) ∨ s.testBit (c + 10 - i) = true)) := by
  intro k
  induction k with
  | zero =>
    intro _
    constructor
    · intro h
      have : (0 : Int32).toBitVec.getLsbD c = true := h
      rw [show (0 : Int32) = nI 0 from rfl, nI_b (by omega), Nat.zero_testBit] at this
      cases this
    · rintro ⟨i, hi, _⟩; omega
  | succ k ih =>
    intro hk
    have ih' := ih (by omega)
    rw [suL]
    by_cases hb : s.testBit k = true
    · rw [if_pos hb, Int32.toBitVec_or, BitVec.getLsbD_or, rot_b hs (by omega) (by omega)]
      simp only [Bool.or_eq_true, Bool.and_eq_true, decide_eq_true_eq]
      rw [ih']
      constructor
      · rintro (⟨i, hi, h⟩ | ⟨_, h⟩)
        · exact ⟨i, by omega, h⟩
        · exact ⟨k, by omega, hb, h⟩
      · rintro ⟨i, hi, h1, h2⟩
        by_cases e : i = k
        · subst e; exact Or.inr ⟨by omega, h2⟩
        · exact Or.inl ⟨i, by omega, h1, h2⟩
    · rw [if_neg hb, ih']
      constructor
      · rintro ⟨i, hi, h⟩; exact ⟨i, by omega, h⟩
      · rintro ⟨i, hi, h1, h2⟩
        by_cases e : i = k
        · subst e; exact absurd h1 hb
        · exact ⟨i, by omega, h1, h2⟩
theorem suL_c {s : Nat} (hs : s < 1024) {c : Nat} (hc : c < 10) : (suL s 10).toBitVec.getLsbD c = true ↔ chB s c := by
  have hb : ∀ k, 10 ≤ k → s.testBit k = false := fun k hk => Nat.testBit_lt_two_pow (Nat.lt_of_lt_of_le hs (show 1024 ≤ 2 ^ k from Nat.pow_le_pow_right (n := 2) (i := 10) (by omega) hk))
  rw [suL_b hs hc 10 (by omega)]
  constructor
  · rintro ⟨i, hi, h1, h2 | h2⟩
    · exact ⟨i, c - i, hi, by omega, h1, h2.2, by omega⟩
    · have : c + 10 - i < 10 := by
        by_cases w : c + 10 - i < 10
        · exact w
        · rw [hb _ (by omega)] at h2; cases h2
      exact ⟨i, c + 10 - i, hi, this, h1, h2, by omega⟩
  · rintro ⟨a, b, ha, hb', h1, h2, h3⟩
    refine ⟨a, ha, h1, ?_⟩
    by_cases w : a ≤ c
    · left
      refine ⟨w, ?_⟩
      rw [show c - a = b by omega]; exact h2
    · right
      rw [show c + 10 - a = b by omega]; exact h2
theorem sums_ok {s : Nat} (hs : s < 1024) (h : AH) : f_Mating_sums (nI s) h = some (suL s 10, h) := by
  rw [f_Mating_sums]
  refine lqc (fun fu k (x : Int32) => f_Mating_sums_l4 (nI s) fu x (nI k) h) (fun k x => x = suL s k) (fun x => some (x, h)) 10 (by omega) 0 rfl (fun r e q => ?_) (fun k fu x hk p => ⟨_, ?_, rfl⟩) (fun fu x p => ?_)
  · rw [← q]; exact e
  · subst p
    show f_Mating_sums_l4 (nI s) (fu + 1) (suL s k) (nI k) h = f_Mating_sums_l4 (nI s) fu (suL s (k + 1)) (nI (k + 1)) h
    rw [f_Mating_sums_l4, if_neg (show ¬ (10 : Int32) ≤ nI k from nI_ge (a := k) (b := 10) hk (by omega)), bit_n (by omega), suL]
    simp only [lt_e, nI_1]
    by_cases hb : s.testBit k = true
    · rw [if_pos hb, if_neg (by decide), if_pos hb]
    · rw [if_neg hb, if_pos rfl, if_neg hb]
  · show f_Mating_sums_l4 (nI s) (fu + 1) x (nI 10) h = _
    rw [f_Mating_sums_l4, if_pos (by decide)]
