/-! ===== snaps by their odds ===== -/
theorem BN.pass {M : MT} {Y : YT} (hn : mN M ≤ 6) (b : BN M Y) (sn : Bool) : BN M (passS M sn Y) := by
  unfold passS
  have b1 : BN M (brN (mN M) (upd Y 31 (coldS M sn (Y 31)))) := b.o hn (fun k hk => by
    unfold brN
    rw [if_neg (by omega), upd_a, if_neg (by omega)])
  generalize brN (mN M) (upd Y 31 (coldS M sn (Y 31))) = Z at b1 ⊢
  unfold hrS
  split
  · exact BN.eat hn (b1.o hn (fun k hk => by rw [upd_a, if_neg (by omega), upd_a, if_neg (by omega)]))
  · exact b1.o hn (fun k hk => by rw [upd_a, if_neg (by omega)])
theorem BC.pass {M : MT} {Y : YT} (hn : mN M ≤ 6) (b : BC M Y) (sn : Bool) : BC M (passS M sn Y) := by
  obtain ⟨⟨c1, c2⟩, c3⟩ := b
  refine ⟨?_, c3⟩
  have e31 : passS M sn Y 31 = coldS M sn (Y 31) := by
    unfold passS hrS
    split
    · rw [eatN_o _ _ _ _ (by omega) hn, upd_a, if_neg (by omega), upd_a, if_neg (by omega)]
      unfold brN
      rw [if_neg (by omega), upd_a, if_pos rfl]
    · rw [upd_a, if_neg (by omega)]
      unfold brN
      rw [if_neg (by omega), upd_a, if_pos rfl]
  rw [e31]
  have e1 : (Y 31 - 1).toInt = (Y 31).toInt - 1 := i_sub (by show _ ≤ _ - (1 : Int); omega) (by show _ - (1 : Int) ≤ _; omega)
  unfold coldS
  split
  · exact cl_in _ 40 (by decide)
  · split
    · exact ⟨c1, c2⟩
    · rename_i q
      have : ¬ (Y 31).toInt ≤ 0 := fun w => q (i_le.mpr w)
      omega
theorem PA.ps {M : MT} {Y : YT} {h0 h : AH} (p : PA M Y h0 h) (sn : Bool) : ∃ h1, f_M_pass (if sn = true then 1 else 0) h = some h1 ∧ PA M (passS M sn Y) h0 h1 := by
  obtain ⟨h1, e1, f1, a1⟩ := M_pass_ok p.2.1 p.2.2 sn
  exact ⟨h1, e1, p.1.t f1, p.2.1.fr f1 (by simp) (by simp), a1⟩
theorem PK.ps {M : MT} {Y : YT} {u : Nat} {h0 h : AH} (p : PK M Y u h0 h) (sn : Bool) : ∃ h1, f_Yard_pass2 44 u (if sn = true then 1 else 0) h = some h1 ∧ PK M (passS M sn Y) u h0 h1 := by
  obtain ⟨f, ⟨hu, hr⟩, hM, hY, b, c⟩ := p
  have h6 := hM.1.2.1
  obtain ⟨h2, e2, f2, y2⟩ := K_pass_ok (t := 44) rfl (by omega) hM b c hY sn
  refine ⟨h2, e2, f.t (f2.mn (by simp) (by simp)), ⟨hu, by rw [f2.2.2.2]; exact hr⟩, hM.fr f2 (fun q hq => by simp only [scP, List.mem_cons, List.not_mem_nil, or_false] at hq; omega) (fun q hq => by
      simp only [plP, List.mem_cons, List.not_mem_nil, or_false] at hq
      rcases hq with rfl | rfl | rfl | rfl <;> simp only <;> omega), y2, b.pass h6 sn, c.pass h6 sn⟩
def snB (v : Int32) (k : Nat) : Bool := v.toBitVec.getLsbD k
def farP (M : MT) (v : Int32) : Nat → YT → YT
  | 0, Y => Y
  | k + 1, Y => passS M (snB v k) (farP M v k Y)
def shS (M : MT) (v : Int32) : Nat → Int32
  | 0 => 1
  | k + 1 => shS M v k * (if snB v k = true then mCh M else 100 - mCh M)
theorem M_share_ok {M : MT} {Y : YT} {h : AH} (s : MS h M Y) (v : Int32) {n : Nat} (hn : n ≤ 4) : ∃ h1, f_M_shareOf (nI n) v h = some (shS M v n, h1) ∧ PA M (farP M v n Y) h h1 := by
  obtain ⟨h1, e1, p1⟩ := PA.ld s
  rw [f_M_shareOf, e1, bV_s]
  refine lqc (fun fu k (s : AH) => f_M_shareOf_l9 (nI n) v fu (shS M v k) (nI k) s) (fun k z => PA M (farP M v k Y) h z) (fun z => some (shS M v n, z)) n (by omega) h1 p1 (fun r e q => ⟨r, e, q⟩) (fun k fu z hk p => ?_) (fun fu z p => ?_)
  · obtain ⟨h2, e2, p2⟩ := p.ps (snB v k)
    refine ⟨h2, ?_, p2⟩
    show f_M_shareOf_l9 (nI n) v (fu + 1) (shS M v k) (nI k) z = f_M_shareOf_l9 (nI n) v fu (shS M v k * (if snB v k = true then mCh M else 100 - mCh M)) (nI (k + 1)) h2
    rw [f_M_shareOf_l9, if_neg (nI_ge hk (by omega)), bit_v _ (show k < 32 by omega)]
    have eb : v.toBitVec.getLsbD k = snB v k := rfl
    rw [eb]
    cases hs : snB v k with
    | true =>
      rw [hs] at e2
      have e2' : f_M_pass 1 z = some h2 := e2
      rw [if_pos rfl, if_neg (fun q => q rfl), f_M_shareOf_b30, if_neg (by decide), f_M_shareOf_b52, lt_e, e2', bV_s, lt_e, nI_1, p.2.1.2.2.2.1, if_pos rfl]
    | false =>
      rw [hs] at e2
      have e2' : f_M_pass 0 z = some h2 := e2
      rw [show (if false = true then (1 : Int32) else 0) = 0 from rfl, if_pos (by decide), f_M_shareOf_b30, if_pos rfl, f_M_shareOf_b52, lt_e, e2', bV_s, lt_e, nI_1, p.2.1.2.2.2.1, if_neg (show ¬ false = true by decide)]
  · show f_M_shareOf_l9 (nI n) v (fu + 1) _ (nI n) z = _
    rw [f_M_shareOf_l9, if_pos (nI_le (by omega) (by omega))]
theorem H_weight_ok {M : MT} {u : Nat} {h : AH} (hu : u = 3 ∨ u = 20) (hr : hR h 0 1 = some u) (hM : MK h u M) (v : Int32) {n : Nat} (hn : n ≤ 4) : f_H_weight (nI n) v h = some (shS M v n, h) := by
  rw [f_H_weight]
  refine lqc (fun fu k (s : Int32) => f_H_weight_l5 (nI n) v fu s (nI k) h) (fun k s => s = shS M v k) (fun s => some (s, h)) n (by omega) 1 rfl (fun r e q => ?_) (fun k fu z hk p => ?_) (fun fu z p => ?_)
  · rw [← q]; exact e
  · subst p
    refine ⟨_, ?_, rfl⟩
    show f_H_weight_l5 (nI n) v (fu + 1) (shS M v k) (nI k) h = f_H_weight_l5 (nI n) v fu (shS M v k * (if snB v k = true then mCh M else 100 - mCh M)) (nI (k + 1)) h
    rw [f_H_weight_l5, if_neg (nI_ge hk (by omega)), bit_v _ (show k < 32 by omega), gd_ok _ hr (kd_u hu), gd_ok _ hr (kd_u hu), hM.2.2.2.1]
    have eb : v.toBitVec.getLsbD k = snB v k := rfl
    rw [eb]
    cases hs : snB v k with
    | true => rw [if_pos rfl, if_neg (by decide), if_pos rfl, lt_e, lt_e, nI_1]
    | false => rw [show (if false = true then (1 : Int32) else 0) = 0 from rfl, if_pos rfl, if_neg (show ¬ false = true by decide), lt_e, lt_e, nI_1]
  · show f_H_weight_l5 (nI n) v (fu + 1) z (nI n) h = _
    rw [f_H_weight_l5, if_pos (nI_le (by omega) (by omega))]
theorem H_behind_ok {M : MT} {Y : YT} {u : Nat} {h0 h : AH} (f : Fr (scW u) plW h0 h) (s : HS h M Y u) (b0 : BN M Y) (c0 : BC M Y) (v : Int32) {n i j : Nat} (hn : n ≤ 4) (hi : i < mN M) (hj : j < mN M) : ∃ h1, f_H_priceBehind (nI i) (nI j) (nI n) v h = some (priceS M (farP M v n Y) i j, h1) ∧ Fr (scW u) plW h0 h1 := by
  have h6 := s.2.2.1.1.2.1
  obtain ⟨h1, e1, p1⟩ := PK.cp f s b0 c0
  rw [f_H_priceBehind, e1, bV_s]
  refine lpc (fun fu k (s : AH) => f_H_priceBehind_l14 (nI i) (nI j) (nI n) v fu (nI k) s) (fun k z => PK M (farP M v k Y) u h0 z) (fun r => r.1 = priceS M (farP M v n Y) i j ∧ Fr (scW u) plW h0 r.2) n (by omega) h1 p1 (fun r e q => ⟨r.2, by rw [← q.1]; exact e, q.2⟩) (fun k fu z hk p => Or.inl ?_) (fun fu z p => ?_)
  · obtain ⟨h2, e2, p2⟩ := p.ps (snB v k)
    refine ⟨h2, ?_, p2⟩
    show f_H_priceBehind_l14 (nI i) (nI j) (nI n) v (fu + 1) (nI k) z = f_H_priceBehind_l14 (nI i) (nI j) (nI n) v fu (nI (k + 1)) h2
    rw [f_H_priceBehind_l14, if_neg (nI_ge hk (by omega)), bit_v _ (show k < 32 by omega), gd_ok _ p.2.1.2 (kd_u p.2.1.1)]
    have eb : v.toBitVec.getLsbD k = snB v k := rfl
    rw [eb]
    cases hs : snB v k with
    | true =>
      rw [hs] at e2
      have e2' : f_Yard_pass2 44 u 1 z = some h2 := e2
      rw [if_pos rfl, if_neg (by decide), f_H_priceBehind_b43, e2', bV_s, lt_e, nI_1]
    | false =>
      rw [hs] at e2
      have e2' : f_Yard_pass2 44 u 0 z = some h2 := e2
      rw [show (if false = true then (1 : Int32) else 0) = 0 from rfl, if_pos rfl, f_H_priceBehind_b43, e2', bV_s, lt_e, nI_1]
  · obtain ⟨h2, e2, p2, t2⟩ := p.tn
    refine ⟨(priceS M (farP M v n Y) i j, h2), ?_, rfl, p2.1⟩
    show f_H_priceBehind_l14 (nI i) (nI j) (nI n) v (fu + 1) (nI n) z = _
    rw [f_H_priceBehind_l14, if_pos (nI_le (by omega) (by omega)), gd_ok _ p.2.1.2 (kd_u p.2.1.1), e2, bV_s, t2.half h6 hi hj, bI_s]
/-! the greatest common divisor -/
theorem n_dv {a b : Nat} (ha : a < 2 ^ 31) (hb : b < 2 ^ 31) (h0 : 0 < b) : nI a / nI b = nI (a / b) := by
  have l : a / b ≤ a := Nat.div_le_self _ _
  rw [i_eq, Int32.toInt_div, nI_toInt ha, nI_toInt hb, nI_toInt (by omega), Int.tdiv_eq_ediv_of_nonneg (by omega)]
  rw [← Int.natCast_ediv]
  generalize a / b = q at l ⊢
  exact Int.bmod_eq_of_le (by omega) (by omega)
theorem n_ml {a b : Nat} (h : a * b < 2 ^ 31) (ha : a < 2 ^ 31) (hb : b < 2 ^ 31) : nI a * nI b = nI (a * b) := by
  rw [i_eq, Int32.toInt_mul, nI_toInt ha, nI_toInt hb, nI_toInt h, ← Int.natCast_mul]
  exact Int.bmod_eq_of_le (by omega) (by omega)
theorem n_sb {a b : Nat} (h : b ≤ a) (ha : a < 2 ^ 31) : nI a - nI b = nI (a - b) := by
  rw [i_eq, i_sub (by rw [nI_toInt ha, nI_toInt (by omega)]; omega) (by rw [nI_toInt ha, nI_toInt (by omega)]; omega), nI_toInt ha, nI_toInt (by omega), nI_toInt (by omega)]
  omega
theorem n_md {a b : Nat} (ha : a < 2 ^ 31) (hb : b < 2 ^ 31) (h0 : 0 < b) : nI a - nI a / nI b * nI b = nI (a % b) := by
  have l : a / b ≤ a := Nat.div_le_self _ _
  have m : a / b * b ≤ a := Nat.div_mul_le_self _ _
  rw [n_dv ha hb h0, n_ml (by omega) (by omega) hb, n_sb m ha]
  have := Nat.div_add_mod a b
  rw [Nat.mul_comm] at this
  rw [show a - a / b * b = a % b by omega]
theorem md_half {a b : Nat} (h : b ≤ a) (h0 : 0 < b) : 2 * (a % b) ≤ a := by
  have h1 := Nat.mod_lt a h0
  have h2 := Nat.div_add_mod a b
  have h3 : 1 ≤ a / b := Nat.div_pos h h0
  have h4 : b * 1 ≤ b * (a / b) := Nat.mul_le_mul_left _ h3
  omega
theorem M_gcd_l (x y : Int32) (h : AH) : ∀ (t a b fu : Nat), a < 2 ^ 31 → b < 2 ^ 31 → b < 2 ^ t → 2 * t + 1 ≤ fu → f_M_divisor_l4 x y fu (nI a) (nI b) h = some (nI (Nat.gcd a b), h) := by
  intro t
  induction t with
  | zero =>
    intro a b fu ha hb ht hf
    obtain ⟨fu, rfl⟩ : ∃ q, fu = q + 1 := ⟨fu - 1, by omega⟩
    have : b = 0 := by simp at ht; omega
    subst this
    rw [f_M_divisor_l4, if_pos (by decide), Nat.gcd_zero_right]
  | succ t ih =>
    intro a b fu ha hb ht hf
    obtain ⟨fu, rfl⟩ : ∃ q, fu = q + 1 + 1 := ⟨fu - 2, by omega⟩
    by_cases h0 : b = 0
    · subst h0
      rw [f_M_divisor_l4, if_pos (by decide), Nat.gcd_zero_right]
    · have z : ¬ nI b ≤ 0 := nI_ge (a := 0) (b := b) (by omega) hb
      have r1 := Nat.mod_lt a (show 0 < b by omega)
      rw [f_M_divisor_l4, if_neg z, gz_ok _ (fun q => z (by rw [q]; exact Int32.le_refl _)), lt_e, n_md ha hb (by omega)]
      by_cases h1 : a % b = 0
      · rw [h1, f_M_divisor_l4, if_pos (by decide), Nat.gcd_comm, Nat.gcd_rec, h1, Nat.gcd_zero_left]
      · have z1 : ¬ nI (a % b) ≤ 0 := nI_ge (a := 0) (b := a % b) (by omega) (by omega)
        rw [f_M_divisor_l4, if_neg z1, gz_ok _ (fun q => z1 (by rw [q]; exact Int32.le_refl _)), lt_e, n_md hb (by omega) (by omega)]
        have hh := md_half (a := b) (b := a % b) (by omega) (by omega)
        rw [ih (a % b) (b % (a % b)) fu (by omega) (by omega) (by rw [Nat.pow_succ] at ht; omega) (by omega)]
        rw [Nat.gcd_comm a b, Nat.gcd_rec b a, Nat.gcd_comm (a % b) (b % (a % b)), ← Nat.gcd_rec]
theorem M_gcd_ok {a b : Nat} (ha : a < 2 ^ 31) (hb : b < 2 ^ 31) (h : AH) : f_M_divisor (nI a) (nI b) h = some (nI (Nat.gcd a b), h) := by
  rw [f_M_divisor]
  exact M_gcd_l _ _ h 31 a b FU ha hb hb (by show _ ≤ 1000000; omega)
theorem H_gcd_l (x y : Int32) (h : AH) : ∀ (t a b i fu : Nat), a < 2 ^ 31 → b < 2 ^ 31 → b < 2 ^ t → 2 * t + 1 ≤ fu → 2 * t + i < 100 → f_H_commonDivisor_l7 x y fu (nI a) (nI b) (nI i) h = some (nI (Nat.gcd a b), h) := by
  intro t
  induction t with
  | zero =>
    intro a b i fu ha hb ht hf hi
    obtain ⟨fu, rfl⟩ : ∃ q, fu = q + 1 := ⟨fu - 1, by omega⟩
    have : b = 0 := by simp at ht; omega
    subst this
    rw [f_H_commonDivisor_l7, if_neg (show ¬ (100 : Int32) ≤ nI i from nI_ge (a := i) (b := 100) (by omega) (by omega)), if_pos (show nI 0 = 0 from rfl), Nat.gcd_zero_right]
  | succ t ih =>
    intro a b i fu ha hb ht hf hi
    obtain ⟨fu, rfl⟩ : ∃ q, fu = q + 1 + 1 := ⟨fu - 2, by omega⟩
    rw [f_H_commonDivisor_l7, if_neg (show ¬ (100 : Int32) ≤ nI i from nI_ge (a := i) (b := 100) (by omega) (by omega))]
    by_cases h0 : b = 0
    · subst h0
      rw [if_pos (show nI 0 = 0 from rfl), Nat.gcd_zero_right]
    · have z : ¬ nI b = 0 := fun q => h0 ((n_inj hb (by omega)).mp (q.trans (show (0 : Int32) = nI 0 from rfl)))
      have r1 := Nat.mod_lt a (show 0 < b by omega)
      rw [if_neg z, gz_ok _ z, lt_e, lt_e, n_md ha hb (by omega), nI_1, f_H_commonDivisor_l7, if_neg (show ¬ (100 : Int32) ≤ nI (i + 1) from nI_ge (a := i + 1) (b := 100) (by omega) (by omega))]
      by_cases h1 : a % b = 0
      · rw [h1, if_pos (show nI 0 = 0 from rfl), Nat.gcd_comm, Nat.gcd_rec, h1, Nat.gcd_zero_left]
      · have z1 : ¬ nI (a % b) = 0 := fun q => h1 ((n_inj (by omega) (by omega)).mp (q.trans (show (0 : Int32) = nI 0 from rfl)))
        rw [if_neg z1, gz_ok _ z1, lt_e, lt_e, n_md hb (by omega) (by omega), nI_1]
        have hh := md_half (a := b) (b := a % b) (by omega) (by omega)
        rw [ih (a % b) (b % (a % b)) (i + 1 + 1) fu (by omega) (by omega) (by rw [Nat.pow_succ] at ht; omega) (by omega) (by omega)]
        rw [Nat.gcd_comm a b, Nat.gcd_rec b a, Nat.gcd_comm (a % b) (b % (a % b)), ← Nat.gcd_rec]
theorem H_gcd_ok {a b : Nat} (ha : a < 2 ^ 31) (hb : b < 2 ^ 31) (h : AH) : f_H_commonDivisor (nI a) (nI b) h = some (nI (Nat.gcd a b), h) := by
  rw [f_H_commonDivisor]
  exact H_gcd_l _ _ h 31 a b 0 FU ha hb hb (by show _ ≤ 1000000; omega) (by omega)
theorem M_hund_ok {n : Nat} (hn : n ≤ 4) (h : AH) : f_M_hundreds (nI n) h = some (nI (100 ^ n), h) := by
  rw [f_M_hundreds]
  refine lqc (fun fu k (s : Int32) => f_M_hundreds_l4 (nI n) fu s (nI k) h) (fun k s => s = nI (100 ^ k)) (fun s => some (s, h)) n (by omega) 1 rfl (fun r e q => ?_) (fun k fu z hk p => ?_) (fun fu z p => ?_)
  · rw [← q]; exact e
  · subst p
    refine ⟨_, ?_, rfl⟩
    show f_M_hundreds_l4 (nI n) (fu + 1) (nI (100 ^ k)) (nI k) h = f_M_hundreds_l4 (nI n) fu (nI (100 ^ (k + 1))) (nI (k + 1)) h
    have : k = 0 ∨ k = 1 ∨ k = 2 ∨ k = 3 := by omega
    rw [f_M_hundreds_l4, if_neg (nI_ge hk (by omega)), lt_e, lt_e, nI_1]
    rcases this with rfl | rfl | rfl | rfl <;> rfl
  · show f_M_hundreds_l4 (nI n) (fu + 1) z (nI n) h = _
    rw [f_M_hundreds_l4, if_pos (nI_le (by omega) (by omega))]
def partS (own n : Nat) (part : Int32) : Int32 := if part = 0 then nI (own / Nat.gcd (100 ^ n) own) else nI (100 ^ n / Nat.gcd (100 ^ n) own)
theorem hund_in {n : Nat} (hn : n ≤ 4) : 0 < 100 ^ n ∧ 100 ^ n < 2 ^ 31 := by
  have : n = 0 ∨ n = 1 ∨ n = 2 ∨ n = 3 ∨ n = 4 := by omega
  rcases this with rfl | rfl | rfl | rfl | rfl <;> decide
theorem H_part_ok {own n : Nat} (hn : n ≤ 4) (ho : own < 2 ^ 31) (part : Int32) (h : AH) : f_H_partOf (nI own) (nI n) part h = some (partS own n part, h) := by
  obtain ⟨g0, g1⟩ := hund_in hn
  rw [f_H_partOf]
  refine lpc (fun fu k (s : Int32) => f_H_partOf_l5 (nI own) (nI n) part fu s (nI k) h) (fun k s => s = nI (100 ^ k)) (fun r => r = (partS own n part, h)) n (by omega) 1 rfl (fun r e q => ?_) (fun k fu z hk p => Or.inl ?_) (fun fu z p => ⟨_, ?_, rfl⟩)
  · rw [← q]; exact e
  · subst p
    refine ⟨_, ?_, rfl⟩
    show f_H_partOf_l5 (nI own) (nI n) part (fu + 1) (nI (100 ^ k)) (nI k) h = f_H_partOf_l5 (nI own) (nI n) part fu (nI (100 ^ (k + 1))) (nI (k + 1)) h
    have : k = 0 ∨ k = 1 ∨ k = 2 ∨ k = 3 := by omega
    rw [f_H_partOf_l5, if_neg (nI_ge hk (by omega)), lt_e, lt_e, nI_1]
    rcases this with rfl | rfl | rfl | rfl <;> rfl
  · subst p
    have gp : 0 < Nat.gcd (100 ^ n) own := Nat.gcd_pos_of_pos_left _ g0
    have gl : Nat.gcd (100 ^ n) own ≤ 100 ^ n := Nat.gcd_le_left _ g0
    have z : ¬ nI (Nat.gcd (100 ^ n) own) = 0 := fun q => by
      have := (n_inj (by omega) (by omega)).mp (q.trans (show (0 : Int32) = nI 0 from rfl))
      omega
    show f_H_partOf_l5 (nI own) (nI n) part (fu + 1) (nI (100 ^ n)) (nI n) h = _
    rw [f_H_partOf_l5, if_pos (nI_le (by omega) (by omega)), H_gcd_ok g1 ho, bI_s, if_pos (show (0 : Int32) < nI (Nat.gcd (100 ^ n) own) from n_lt (a := 0) gp (by omega)), gz_ok _ z, gz_ok _ z, n_dv g1 (by omega) gp, n_dv ho (by omega) gp]
    unfold partS
    by_cases hp : part = 0
    · rw [if_neg (fun q => q hp), if_pos hp]
    · rw [if_pos hp, if_neg hp]
