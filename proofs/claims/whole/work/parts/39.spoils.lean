/-! ===== bits; spoils ===== -/
theorem sh_am {i : Nat} (hi : i < 32) : ((nI i &&& 31).toBitVec.smod 32#32) = BitVec.ofNat 32 i := by
  have : ∀ i : Fin 32, ((nI i.val &&& 31).toBitVec.smod 32#32) = BitVec.ofNat 32 i.val := by decide +kernel
  exact this ⟨i, hi⟩
theorem bit_v (x : Int32) {i : Nat} (hi : i < 32) : ((x >>> (nI i &&& 31)) &&& 1) = if x.toBitVec.getLsbD i = true then 1 else 0 := by
  apply Int32.toBitVec_inj.mp
  rw [Int32.toBitVec_and, Int32.toBitVec_shiftRight]
  have hs := sh_am hi
  rw [show ((nI i &&& 31).toBitVec.smod 32) = BitVec.ofNat 32 i from hs, BitVec.sshiftRight_eq']
  rw [show (BitVec.ofNat 32 i).toNat = i by rw [BitVec.toNat_ofNat]; omega]
  apply BitVec.eq_of_getLsbD_eq
  intro k hk
  rw [BitVec.getLsbD_and, BitVec.getLsbD_sshiftRight]
  by_cases hb : x.toBitVec.getLsbD i = true
  · rw [if_pos hb]
    by_cases h0 : k = 0
    · subst h0
      rw [if_pos (by omega), show i + 0 = i from rfl, hb]
      rfl
    · have : (1 : Int32).toBitVec.getLsbD k = false := by
        show (1#32).getLsbD k = false
        simp [BitVec.getLsbD_one]; omega
      rw [this, Bool.and_false]
  · rw [if_neg hb]
    by_cases h0 : k = 0
    · subst h0
      rw [if_pos (by omega), show i + 0 = i from rfl, Bool.eq_false_iff.mpr hb]
      rfl
    · have : (1 : Int32).toBitVec.getLsbD k = false := by
        show (1#32).getLsbD k = false
        simp [BitVec.getLsbD_one]; omega
      rw [this, Bool.and_false]
      simp
theorem bit_s {d i : Nat} (hd : d < 32) (hi : i < 32) : ((1 : Int32) <<< (nI d &&& 31)).toBitVec.getLsbD i = decide (i = d) := by
  rw [Int32.toBitVec_shiftLeft, show ((nI d &&& 31).toBitVec.smod 32) = BitVec.ofNat 32 d from sh_am hd, BitVec.shiftLeft_eq']
  rw [show (BitVec.ofNat 32 d).toNat = d by rw [BitVec.toNat_ofNat]; omega]
  show (1#32 <<< d).getLsbD i = _
  rw [BitVec.getLsbD_shiftLeft, BitVec.getLsbD_one]
  by_cases h : i = d
  · subst h; simp; omega
  · rw [decide_eq_false h]
    by_cases h2 : i < d
    · simp [h2]
    · have : ¬ i - d = 0 := by omega
      simp [this]
theorem bit_o (x : Int32) {d i : Nat} (hd : d < 32) (hi : i < 32) : (x ||| ((1 : Int32) <<< (nI d &&& 31))).toBitVec.getLsbD i = (x.toBitVec.getLsbD i || decide (i = d)) := by
  rw [Int32.toBitVec_or, BitVec.getLsbD_or, bit_s hd hi]
theorem free_b (Y : YT) {i : Nat} (hi : i < 32) : freeS Y i = (Y 30).toBitVec.getLsbD i := by
  unfold freeS
  rw [bit_v _ hi]
  by_cases hb : (Y 30).toBitVec.getLsbD i = true
  · rw [if_pos hb, hb]; rfl
  · rw [if_neg hb, Bool.eq_false_iff.mpr hb]; rfl
/-- Y with d set free -/
def freN (d : Nat) (Y : YT) : YT := upd Y 30 (Y 30 ||| ((1 : Int32) <<< (nI d &&& 31)))
theorem freN_f (Y : YT) {d i : Nat} (hd : d < 32) (hi : i < 32) : freeS (freN d Y) i = (freeS Y i || decide (i = d)) := by
  rw [free_b _ hi, free_b _ hi, ← bit_o _ hd hi]
  rfl
theorem freN_o (Y : YT) (d k : Nat) (hk : ¬ k = 30) : freN d Y k = Y k := by
  unfold freN; rw [upd_a, if_neg hk]
theorem YR.fre {n : Nat} {h : AH} {t : Nat} {Y : YT} (m : YR n h t Y) (hn : n ≤ 6) {d : Nat} (hd : d < 6) : YR n (sI h (t + 6) d 1) t (freN d Y) := by
  refine ⟨fun i hi => ?_, ?_⟩
  · obtain ⟨y1, y2, y3, y4, y5, y6⟩ := m.1 i hi
    rw [hI_sI_c _ _ _ _ (t + 1) (by omega), hI_sI_c _ _ _ _ (t + 2) (by omega), hI_sI_c _ _ _ _ (t + 3) (by omega), hI_sI_c _ _ _ _ (t + 4) (by omega), hI_sI_c _ _ _ _ (t + 5) (by omega)]
    rw [freN_o _ _ _ (by omega), freN_o _ _ _ (by omega), freN_o _ _ _ (by omega), freN_o _ _ _ (by omega), freN_o _ _ _ (by omega), freN_f _ (show d < 32 by omega) (show i < 32 by omega)]
    refine ⟨y1, y2, y3, y4, y5, ?_⟩
    rw [hI_sI]
    by_cases h : i = d
    · subst h
      rw [if_pos ⟨rfl, rfl⟩, if_pos (by simp)]
    · rw [if_neg (fun q => h q.2), y6]
      simp [h]
  · rw [hI_sI_c _ _ _ _ t (by omega), freN_o _ _ _ (by omega), freN_o _ _ _ (by omega), freN_o _ _ _ (by omega), freN_o _ _ _ (by omega)]
    exact m.2
theorem BN.fre {M : MT} {Y : YT} (b : BN M Y) (hn : mN M ≤ 6) (d : Nat) : BN M (freN d Y) := b.o hn (fun k hk => freN_o _ _ _ (by omega))
theorem BC.fre {M : MT} {Y : YT} (c : BC M Y) (d : Nat) : BC M (freN d Y) := by
  unfold BC
  rw [freN_o _ _ _ (by omega)]
  exact c
def thereS (M : MT) (Y : YT) (a : Int32) : Bool := hasS (mN M) a && !freeS Y (ix a)
theorem M_isThere_ok {M : MT} {Y : YT} {h : AH} (s : MS h M Y) (a : Int32) : f_M_isThere a h = some (if thereS M Y a = true then 1 else 0, h) := by
  have h6 := s.1.1.2.1
  rw [f_M_isThere, M_isDealer_ok s.1, bI_s]
  unfold thereS
  by_cases hq : hasS (mN M) a = true
  · obtain ⟨i, hi, rfl⟩ := has_ix h6 hq
    rw [if_pos hq, if_neg (by decide), s.2 30 (by omega), bit_v _ (show i < 32 by omega), hq, ix_n (show i < 2 ^ 31 by omega), free_b _ (show i < 32 by omega)]
    cases (Y 30).toBitVec.getLsbD i <;> rfl
  · rw [if_neg hq, if_pos rfl, if_neg (by simp [hq])]
def spoilS (M : MT) (Y : YT) (a : Int32) : Int32 := if thereS M Y a = true then triL (priceS M Y) (mN M) 0 - triL (priceS M (freN (ix a) Y)) (mN M) 0 else -1000000
theorem M_spoils_ok {M : MT} {Y : YT} {h : AH} (s : MS h M Y) (a : Int32) : ∃ h1, f_M_spoils a h = some (spoilS M Y a, h1) ∧ Fr sca [] h h1 := by
  have h6 := s.1.1.2.1
  rw [f_M_spoils, M_isThere_ok s, bI_s]
  unfold spoilS
  by_cases hq : thereS M Y a = true
  · rw [if_pos hq, if_pos (by decide), if_pos hq]
    obtain ⟨i, hi, rfl⟩ := has_ix h6 (show hasS (mN M) a = true by unfold thereS at hq; simp only [Bool.and_eq_true] at hq; exact hq.1)
    obtain ⟨h1, e1, p1⟩ := PA.ld s
    obtain ⟨h2, e2, p2⟩ := p1.al
    have e30 : hI h2 406 30 = Y 30 := p2.2.2 30 (by omega)
    have p3 : PA M (freN i Y) h (sI h2 406 30 (Y 30 ||| ((1 : Int32) <<< (nI i &&& 31)))) :=
      ⟨p2.1.s (by simp) _ _, p2.2.1.fr ((Fr.rf [406] [] h2).s (by simp) _ _) (by simp) (by simp), p2.2.2.s 30 _⟩
    obtain ⟨h4, e4, p4⟩ := p3.al
    refine ⟨h4, ?_, p4.1⟩
    rw [e1, bV_s, e2, bI_s, e30, lt_e, e4, bI_s, ix_n (show i < 2 ^ 31 by omega)]
  · rw [if_neg hq, if_neg (by decide), if_neg hq]
    exact ⟨h, rfl, Fr.rf _ _ _⟩
theorem H_spoils_ok {M : MT} {Y : YT} {u : Nat} {h : AH} (s : HS h M Y u) (b0 : BN M Y) (c0 : BC M Y) (a : Int32) : ∃ h1, f_H_spoils a h = some (spoilS M Y a, h1) ∧ Fr (scW u) plW h h1 := by
  have h6 := s.2.2.1.1.2.1
  rw [f_H_spoils, gd_ok _ s.2.1 (kd_u s.1), K_has_ok s.2.2.1, bI_s]
  unfold spoilS thereS
  by_cases hq : hasS (mN M) a = true
  · obtain ⟨i, hi, rfl⟩ := has_ix h6 hq
    have y6 : hI h 43 i = (if freeS Y i = true then 1 else 0) := (s.2.2.2.1 i hi).2.2.2.2.2
    rw [if_pos hq, if_neg (by decide), gx_n _ (show i < 6 by omega) (by omega), ix_n (show i < 2 ^ 31 by omega), y6, hq]
    by_cases hf : freeS Y i = true
    · rw [if_pos hf, if_neg (by decide), if_neg (by simp [hf])]
      exact ⟨h, rfl, Fr.rf _ _ _⟩
    · rw [if_neg hf, if_pos rfl, if_pos (by simp [hf]), gd_ok _ s.2.1 (kd_u s.1)]
      obtain ⟨h1, e1, f1, s1, t1⟩ := HT.tn s
      obtain ⟨h2, e2, p2⟩ := PK.cp (f1.mn (by simp) (by simp)) s1 b0 c0
      have y3 := p2.2.2.2.1.fre h6 (show i < 6 by omega)
      have p3 : PK M (freN i Y) u h (sI h2 50 i 1) := ⟨p2.1.s (by simp) _ _, p2.2.1, p2.2.2.1.fr ((Fr.rf [50] [] h2).s (by simp) _ _) (fun q hq => by
        have := p2.2.1.1
        simp only [List.mem_cons, List.not_mem_nil, or_false] at hq; omega) (by simp), y3, p2.2.2.2.2.1.fre h6 i, p2.2.2.2.2.2.fre i⟩
      obtain ⟨h4, e4, p4, t4⟩ := p3.tn
      refine ⟨h4, ?_, p4.1⟩
      rw [e1, bV_s, t1.all h6, bI_s, e2, bV_s, gx_n _ (show i < 6 by omega) (by omega), lt_e, gd_ok _ p3.2.1.2 (kd_u p3.2.1.1), e4, bV_s, t4.all h6, bI_s]
      rfl
  · rw [if_neg hq, if_pos rfl, if_neg (by simp [hq])]
    exact ⟨h, rfl, Fr.rf _ _ _⟩
