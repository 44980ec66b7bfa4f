/-! ===== the tape ===== -/
def TH (h : AH) (T : Nat → Int32) (L : Nat) : Prop := hI h 1 9 = nI L ∧ ∀ k, k < L → hI h 2 k = T k
def TM (h : AH) (T : Nat → Int32) (L : Nat) : Prop := hI h 383 1 = nI L ∧ ∀ k, k < L → hI h 384 k = T k
def TW (T : Nat → Int32) (L : Nat) : Prop := L ≤ 1600 ∧ ∀ k, k < L → ∃ b, b < 256 ∧ T k = nI b
def shv (k : Nat) : Int32 := 24 - nI (8 * k)
theorem shv_s {k : Nat} (hk : k < 4) : shv k + -8 = shv (k + 1) := by
  have : k = 0 ∨ k = 1 ∨ k = 2 ∨ k = 3 := by omega
  rcases this with rfl | rfl | rfl | rfl <;> decide
theorem shv_n {k : Nat} (hk : k < 4) : ¬ shv k < 0 := by
  have : k = 0 ∨ k = 1 ∨ k = 2 ∨ k = 3 := by omega
  rcases this with rfl | rfl | rfl | rfl <;> decide
theorem shv_e {k : Nat} (hk : k < 4) : shv k = nI (24 - 8 * k) := by
  have : k = 0 ∨ k = 1 ∨ k = 2 ∨ k = 3 := by omega
  rcases this with rfl | rfl | rfl | rfl <;> decide
def byS (a : Int32) (k : Nat) : Int32 := (a >>> (shv k &&& 31)) &&& 255
theorem b255 {i : Nat} (hi : i < 32) : (255 : Int32).toBitVec.getLsbD i = decide (i < 8) := by
  have : ∀ i : Fin 32, (255 : Int32).toBitVec.getLsbD i.val = decide (i.val < 8) := by decide
  exact this ⟨i, hi⟩
theorem ush_e (a : Int32) {k : Nat} (hk : k < 4) : ushr a (shv k) &&& 255 = byS a k := by
  unfold byS
  rw [shv_e hk]
  apply i_ext
  intro i hi
  rw [Int32.toBitVec_and, BitVec.getLsbD_and, Int32.toBitVec_and, BitVec.getLsbD_and, b255 hi]
  by_cases h8 : i < 8
  · rw [Int32.toBitVec_shiftRight, show ((nI (24 - 8 * k) &&& 31).toBitVec.smod 32) = BitVec.ofNat 32 (24 - 8 * k) from sh_am (by omega), BitVec.sshiftRight_eq', show (BitVec.ofNat 32 (24 - 8 * k)).toNat = 24 - 8 * k by rw [BitVec.toNat_ofNat]; omega, BitVec.getLsbD_sshiftRight, if_pos (show 24 - 8 * k + i < 32 by omega)]
    have hu : (ushr a (nI (24 - 8 * k))).toBitVec = a.toBitVec >>> (24 - 8 * k) := by
      unfold ushr
      have e : ∀ k : Fin 4, ((nI (24 - 8 * k.val)).toUInt32 &&& Int32.toUInt32 31) = UInt32.ofNat (24 - 8 * k.val) := by decide
      rw [e ⟨k, hk⟩]
      show (a.toUInt32 >>> UInt32.ofNat (24 - 8 * k)).toBitVec = _
      rw [UInt32.toBitVec_shiftRight]
      show a.toBitVec >>> ((BitVec.ofNat 32 (24 - 8 * k)) % 32#32) = _
      have e2 : (BitVec.ofNat 32 (24 - 8 * k)) % 32#32 = BitVec.ofNat 32 (24 - 8 * k) := by
        have e3 : ∀ k : Fin 4, (BitVec.ofNat 32 (24 - 8 * k.val)) % 32#32 = BitVec.ofNat 32 (24 - 8 * k.val) := by decide
        exact e3 ⟨k, hk⟩
      rw [e2, BitVec.ushiftRight_eq', show (BitVec.ofNat 32 (24 - 8 * k)).toNat = 24 - 8 * k by rw [BitVec.toNat_ofNat]; omega]
    rw [hu, BitVec.getLsbD_ushiftRight]
    simp [h8, show ¬ 32 ≤ i by omega]
  · simp [h8]
theorem byS_b (a : Int32) (k : Nat) : ∃ b, b < 256 ∧ byS a k = nI b := by
  unfold byS
  generalize a >>> (shv k &&& 31) = x
  refine ⟨(x &&& 255).toBitVec.toNat, ?_, ?_⟩
  · rw [Int32.toBitVec_and, BitVec.toNat_and]
    have h1 : x.toBitVec.toNat &&& (255 : Int32).toBitVec.toNat ≤ (255 : Int32).toBitVec.toNat := Nat.and_le_right
    have h2 : (255 : Int32).toBitVec.toNat = 255 := by decide
    omega
  · apply Int32.toBitVec_inj.mp
    show _ = BitVec.ofNat 32 (x &&& 255).toBitVec.toNat
    rw [BitVec.ofNat_toNat, BitVec.setWidth_eq]
def putT (T : Nat → Int32) (L : Nat) (a : Int32) : Nat → Int32 := fun k => if L ≤ k ∧ k < L + 4 then byS a (k - L) else T k
theorem putT_w {T : Nat → Int32} {L : Nat} (w : TW T L) (h : L + 4 ≤ 1600) (a : Int32) : TW (putT T L a) (L + 4) := by
  refine ⟨h, fun k hk => ?_⟩
  unfold putT
  by_cases e : L ≤ k ∧ k < L + 4
  · rw [if_pos e]; exact byS_b a _
  · rw [if_neg e]; exact w.2 k (by omega)
theorem put_ok {h : AH} {T : Nat → Int32} {L : Nat} (t : TH h T L) (hL : L + 4 ≤ 1600) (a : Int32) : ∃ h1, f_Reader_put a h = some h1 ∧ Fr [2] [(1, 9)] h h1 ∧ TH h1 (putT T L a) (L + 4) := by
  rw [f_Reader_put]
  refine lqc (fun fu k (z : AH) => f_Reader_put_l3 a fu (shv k) z) (fun k z => Fr [2] [(1, 9)] h z ∧ hI z 1 9 = nI (L + k) ∧ (∀ x, x < L → hI z 2 x = T x) ∧ ∀ x, x < k → hI z 2 (L + x) = byS a x) (fun z => some z) 4 (by omega) h ⟨Fr.rf _ _ _, t.1, t.2, fun x hx => by omega⟩ (fun z e q => ⟨z, e, q.1, q.2.1, fun k hk => ?_⟩) (fun k fu z hk q => ?_) (fun fu z q => ?_)
  · unfold putT
    by_cases c : L ≤ k ∧ k < L + 4
    · rw [if_pos c]
      have := q.2.2.2 (k - L) (by omega)
      rw [show L + (k - L) = k by omega] at this
      exact this
    · rw [if_neg c]; exact q.2.2.1 k (by omega)
  · obtain ⟨f1, n1, o1, b1⟩ := q
    refine ⟨sI (sI z 2 (L + k) (byS a k)) 1 9 (nI (L + k + 1)), ?_, (f1.s (by simp) _ _).p (by simp) _, hI_sI_s _ _ _ _, fun x hx => ?_, fun x hx => ?_⟩
    · show f_Reader_put_l3 a (fu + 1) (shv k) z = f_Reader_put_l3 a fu (shv (k + 1)) _
      rw [f_Reader_put_l3, if_neg (shv_n hk), n1, if_neg (nI_ge (by omega) (by omega)), gx_n _ (show L + k < 1600 by omega) (by omega), ix_n (show L + k < 2 ^ 31 by omega), ush_e a hk, lt_e, hI_sI_c _ _ _ _ 1 (by decide), n1, nI_1, lt_e, lt_e, shv_s hk]
    · rw [hI_sI_c _ _ _ _ _ (by decide), hI_sI, if_neg (fun q => by have := q.2; omega)]; exact o1 x hx
    · rw [hI_sI_c _ _ _ _ _ (by decide), hI_sI]
      by_cases e : x = k
      · rw [if_pos ⟨rfl, by rw [e]⟩, e]
      · rw [if_neg (fun q => e (by have := q.2; omega))]; exact b1 x (by omega)
  · show f_Reader_put_l3 a (fu + 1) (shv 4) z = _
    rw [f_Reader_put_l3, if_pos (by decide)]
theorem four_ok {h : AH} {T : Nat → Int32} {L : Nat} (t : TM h T L) (hL : L + 4 ≤ 1600) (a : Int32) : ∃ h1, f_M_four a h = some h1 ∧ Fr [384] [(383, 1)] h h1 ∧ TM h1 (putT T L a) (L + 4) := by
  rw [f_M_four]
  refine lqc (fun fu k (z : AH) => f_M_four_l3 a fu (shv k) z) (fun k z => Fr [384] [(383, 1)] h z ∧ hI z 383 1 = nI (L + k) ∧ (∀ x, x < L → hI z 384 x = T x) ∧ ∀ x, x < k → hI z 384 (L + x) = byS a x) (fun z => some z) 4 (by omega) h ⟨Fr.rf _ _ _, t.1, t.2, fun x hx => by omega⟩ (fun z e q => ⟨z, e, q.1, q.2.1, fun k hk => ?_⟩) (fun k fu z hk q => ?_) (fun fu z q => ?_)
  · unfold putT
    by_cases c : L ≤ k ∧ k < L + 4
    · rw [if_pos c]
      have := q.2.2.2 (k - L) (by omega)
      rw [show L + (k - L) = k by omega] at this
      exact this
    · rw [if_neg c]; exact q.2.2.1 k (by omega)
  · obtain ⟨f1, n1, o1, b1⟩ := q
    refine ⟨sI (sI z 384 (L + k) (byS a k)) 383 1 (nI (L + k + 1)), ?_, (f1.s (by simp) _ _).p (by simp) _, hI_sI_s _ _ _ _, fun x hx => ?_, fun x hx => ?_⟩
    · show f_M_four_l3 a (fu + 1) (shv k) z = f_M_four_l3 a fu (shv (k + 1)) _
      rw [f_M_four_l3, if_neg (shv_n hk), n1, gx_n _ (show L + k < 1600 by omega) (by omega), ix_n (show L + k < 2 ^ 31 by omega), lt_e, hI_sI_c _ _ _ _ 383 (by decide), n1, nI_1, lt_e, lt_e, shv_s hk]
      rfl
    · rw [hI_sI_c _ _ _ _ _ (by decide), hI_sI, if_neg (fun q => by have := q.2; omega)]; exact o1 x hx
    · rw [hI_sI_c _ _ _ _ _ (by decide), hI_sI]
      by_cases e : x = k
      · rw [if_pos ⟨rfl, by rw [e]⟩, e]
      · rw [if_neg (fun q => e (by have := q.2; omega))]; exact b1 x (by omega)
  · show f_M_four_l3 a (fu + 1) (shv 4) z = _
    rw [f_M_four_l3, if_pos (by decide)]
def feedT (T : Nat → Int32) (L : Nat) (a b c d e : Int32) : Nat → Int32 := putT (putT (putT (putT (putT T L a) (L + 4) b) (L + 8) c) (L + 12) d) (L + 16) e
def feedS (L : Nat) : Int32 := if L ≤ 1580 then nI (L + 20) else -1
theorem feedT_w {T : Nat → Int32} {L : Nat} (w : TW T L) (h : L ≤ 1580) (a b c d e : Int32) : TW (feedT T L a b c d e) (L + 20) := putT_w (putT_w (putT_w (putT_w (putT_w w (by omega) a) (by omega) b) (by omega) c) (by omega) d) (by omega) e
theorem H_feed_ok {h : AH} {T : Nat → Int32} {L : Nat} (w : TW T L) (t : TH h T L) (a b c d e : Int32) : ∃ h1, f_H_feed a b c d e h = some (feedS L, h1) ∧ Fr [2] [(1, 9)] h h1 ∧ (L ≤ 1580 → TH h1 (feedT T L a b c d e) (L + 20)) ∧ (¬ L ≤ 1580 → TH h1 T L) := by
  have w1 := w.1
  rw [f_H_feed, t.1]
  unfold feedS
  by_cases hL : L ≤ 1580
  · rw [if_pos (show nI L ≤ 1580 from nI_le (b := 1580) hL (by omega)), if_pos hL]
    obtain ⟨h1, e1, f1, t1⟩ := put_ok t (by omega) a
    obtain ⟨h2, e2, f2, t2⟩ := put_ok t1 (by omega) b
    obtain ⟨h3, e3, f3, t3⟩ := put_ok t2 (by omega) c
    obtain ⟨h4, e4, f4, t4⟩ := put_ok t3 (by omega) d
    obtain ⟨h5, e5, f5, t5⟩ := put_ok t4 (by omega) e
    rw [e1, bV_s, e2, bV_s, e3, bV_s, e4, bV_s, e5, bV_s, t5.1]
    exact ⟨h5, rfl, (((f1.t f2).t f3).t f4).t f5, fun _ => t5, fun q => absurd hL q⟩
  · rw [if_neg (show ¬ nI L ≤ 1580 from nI_ge (b := L) (a := 1580) (by omega) (by omega)), if_neg hL]
    exact ⟨h, rfl, Fr.rf _ _ _, fun q => absurd q hL, fun _ => t⟩
theorem M_feed_ok {h : AH} {T : Nat → Int32} {L : Nat} (w : TW T L) (t : TM h T L) (a b c d e : Int32) : ∃ h1, f_M_feed a b c d e h = some (feedS L, h1) ∧ Fr [384] [(383, 1)] h h1 ∧ (L ≤ 1580 → TM h1 (feedT T L a b c d e) (L + 20)) ∧ (¬ L ≤ 1580 → TM h1 T L) := by
  have w1 := w.1
  rw [f_M_feed, t.1, show nI L + 20 = nI (L + 20) from n_add L 20]
  unfold feedS
  by_cases hL : L ≤ 1580
  · rw [if_pos (show nI (L + 20) ≤ 1600 from nI_le (b := 1600) (by omega) (by omega)), if_pos hL]
    obtain ⟨h1, e1, f1, t1⟩ := four_ok t (by omega) a
    obtain ⟨h2, e2, f2, t2⟩ := four_ok t1 (by omega) b
    obtain ⟨h3, e3, f3, t3⟩ := four_ok t2 (by omega) c
    obtain ⟨h4, e4, f4, t4⟩ := four_ok t3 (by omega) d
    obtain ⟨h5, e5, f5, t5⟩ := four_ok t4 (by omega) e
    rw [e1, bV_s, e2, bV_s, e3, bV_s, e4, bV_s, e5, bV_s, t5.1]
    exact ⟨h5, rfl, (((f1.t f2).t f3).t f4).t f5, fun _ => t5, fun q => absurd hL q⟩
  · rw [if_neg (show ¬ nI (L + 20) ≤ 1600 from nI_ge (b := L + 20) (a := 1600) (by omega) (by omega)), if_neg hL]
    exact ⟨h, rfl, Fr.rf _ _ _, fun q => absurd q hL, fun _ => t⟩
def endS (L : Nat) (a : Int32) : Int32 := if 0 ≤ a ∧ a ≤ nI L then a else -1
def endL (L : Nat) (a : Int32) : Nat := if 0 ≤ a ∧ a ≤ nI L then ix a else L
theorem endL_w {T : Nat → Int32} {L : Nat} (w : TW T L) (a : Int32) : TW T (endL L a) := by
  unfold endL
  by_cases ha : 0 ≤ a ∧ a ≤ nI L
  · rw [if_pos ha]
    have w1 := w.1
    obtain ⟨k, hk, rfl⟩ := inR_ix (by omega) ha
    rw [ix_n (by omega)]
    exact ⟨by omega, fun j hj => w.2 j (by omega)⟩
  · rw [if_neg ha]; exact w
theorem H_end_ok {h : AH} {T : Nat → Int32} {L : Nat} (w : TW T L) (t : TH h T L) (a : Int32) : ∃ h1, f_H_end a h = some (endS L a, h1) ∧ Fr [] [(1, 9)] h h1 ∧ TH h1 T (endL L a) := by
  have w1 := w.1
  rw [f_H_end, t.1]
  unfold endS endL
  by_cases h0 : a < 0
  · rw [if_pos h0, if_neg (fun q => Int32.not_le.mpr h0 q.1), if_neg (fun q => Int32.not_le.mpr h0 q.1)]
    exact ⟨h, rfl, Fr.rf _ _ _, t⟩
  · rw [if_neg h0]
    by_cases h1 : a ≤ nI L
    · have ha : 0 ≤ a ∧ a ≤ nI L := ⟨Int32.not_lt.mp h0, h1⟩
      rw [if_pos h1, if_pos ha, if_pos ha, lt_e]
      obtain ⟨k, hk, rfl⟩ := inR_ix (by omega) ha
      rw [ix_n (by omega)]
      exact ⟨_, rfl, (Fr.rf _ _ _).p (by simp) _, hI_sI_s _ _ _ _, fun j hj => by rw [hI_sI_c _ _ _ _ _ (by decide)]; exact t.2 j (by omega)⟩
    · rw [if_neg h1, if_neg (fun q => h1 q.2), if_neg (fun q => h1 q.2)]
      exact ⟨h, rfl, Fr.rf _ _ _, t⟩
theorem M_end_ok {h : AH} {T : Nat → Int32} {L : Nat} (w : TW T L) (t : TM h T L) (a : Int32) : ∃ h1, f_M_end a h = some (endS L a, h1) ∧ Fr [] [(383, 1)] h h1 ∧ TM h1 T (endL L a) := by
  have w1 := w.1
  rw [f_M_end, t.1]
  unfold endS endL
  by_cases h0 : a < 0
  · rw [if_pos h0, if_neg (fun q => Int32.not_le.mpr h0 q.1), if_neg (fun q => Int32.not_le.mpr h0 q.1)]
    exact ⟨h, rfl, Fr.rf _ _ _, t⟩
  · rw [if_neg h0]
    by_cases h1 : a ≤ nI L
    · have ha : 0 ≤ a ∧ a ≤ nI L := ⟨Int32.not_lt.mp h0, h1⟩
      rw [if_pos h1, if_pos ha, if_pos ha, lt_e]
      obtain ⟨k, hk, rfl⟩ := inR_ix (by omega) ha
      rw [ix_n (by omega)]
      exact ⟨_, rfl, (Fr.rf _ _ _).p (by simp) _, hI_sI_s _ _ _ _, fun j hj => by rw [hI_sI_c _ _ _ _ _ (by decide)]; exact t.2 j (by omega)⟩
    · rw [if_neg h1, if_neg (fun q => h1 q.2), if_neg (fun q => h1 q.2)]
      exact ⟨h, rfl, Fr.rf _ _ _, t⟩
