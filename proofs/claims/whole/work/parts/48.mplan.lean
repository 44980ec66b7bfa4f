/-! ===== plan on both sides ===== -/
abbrev scN (u : Nat) : List Nat := [382, 45, 46, 47, 48, 49, 50, 52, u + 12, u + 16]
theorem hearP_ok {M : MT} {Y : YT} {u : Nat} {h : AH} {i j H : Nat} (s : HS h M Y u) (b0 : BN M Y) (c0 : BC M Y) (hi : i < mN M) (hj : j < mN M) (hH : H ≤ 12) : ∃ h1, f_H_hearPrices (nI i) (nI j) (nI H) h = some h1 ∧ Fr (scR u) plW h h1 ∧ ∀ k, k < H → hI h1 382 k = pxS M Y i j k := by
  have h6 := s.2.2.1.1.2.1
  obtain ⟨h1, e1, p1⟩ := PK.cp (Fr.rf _ _ _) s b0 c0
  rw [f_H_hearPrices, e1, bV_s]
  refine lqc (fun fu k (z : AH) => f_H_hearPrices_l14 (nI i) (nI j) (nI H) fu (nI k) z) (fun k z => PK M (farS M k Y) u z z ∧ Fr (scR u) plW h z ∧ ∀ x, x < k → hI z 382 x = pxS M Y i j x) (fun z => some z) H (by omega) h1 ⟨p1.rb, p1.1.mn (by simp) (by simp), fun x hx => by omega⟩ (fun r e q => ⟨r, e, q.2.1, q.2.2⟩) (fun k fu z hk p => ?_) (fun fu z p => ?_)
  · obtain ⟨p2, f2, r2⟩ := p
    obtain ⟨h3, e3, p3, t3⟩ := p2.tn
    have ff : Fr [382] [] h3 (sI h3 382 k (priceS M (farS M k Y) i j)) := (Fr.rf _ _ _).s (by simp) _ _
    have p4 := p3.pp ff (by simp) (by simp)
    obtain ⟨h5, e5, p5⟩ := p4.hr
    rw [← farS_s] at p5
    refine ⟨h5, ?_, p5.rb, ((f2.t (p3.1.mn (by simp) (by simp))).t (ff.mn (by simp) (by simp))).t (p5.1.mn (by simp) (by simp)), fun x hx => ?_⟩
    · show f_H_hearPrices_l14 (nI i) (nI j) (nI H) (fu + 1) (nI k) z = f_H_hearPrices_l14 (nI i) (nI j) (nI H) fu (nI (k + 1)) h5
      rw [f_H_hearPrices_l14, if_neg (nI_ge hk (by omega)), gd_ok _ p2.2.1.2 (kd_u p2.2.1.1), e3, bV_s, t3.half h6 hi hj, bI_s, gx_n _ (show k < 25 by omega) (by omega), lt_e, ix_n (show k < 2 ^ 31 by omega), gd_ok _ p4.2.1.2 (kd_u p4.2.1.1), e5, bV_s, lt_e, nI_1]
    · rw [p5.1.i _ _ (by have := p2.2.1.1; simp; omega) (by simp), hI_sI]
      by_cases e : x = k
      · rw [if_pos ⟨rfl, e⟩, e]; rfl
      · rw [if_neg (fun q => e q.2), p3.1.i _ _ (by have := p2.2.1.1; simp; omega) (by simp)]
        exact r2 x (by omega)
  · obtain ⟨p2, f2, r2⟩ := p
    show f_H_hearPrices_l14 (nI i) (nI j) (nI H) (fu + 1) (nI H) z = _
    rw [f_H_hearPrices_l14, if_pos (nI_le (by omega) (by omega))]
/-- the cart's bounds -/
def CB (M : MT) : Prop := ∃ c, mCt M = nI c ∧ 1 ≤ c ∧ c ≤ 9
abbrev planP (M : MT) (a b L H : Int32) : Prop := twoS (mN M) a b = true ∧ (1 ≤ L ∧ L ≤ 20) ∧ (1 ≤ H ∧ H ≤ 12) ∧ L ≤ mCt M * H
theorem rng_ix {a : Int32} {lo n : Nat} (hn : n < 1000000) (hl : lo ≤ n) (h : nI lo ≤ a ∧ a ≤ nI n) : ∃ k, lo ≤ k ∧ k ≤ n ∧ a = nI k := by
  have h0 : (0 : Int32) ≤ nI lo := nI_le (a := 0) (b := lo) (by omega) (by omega)
  obtain ⟨k, hk, rfl⟩ := inR_ix hn ⟨Int32.le_trans h0 h.1, h.2⟩
  refine ⟨k, ?_, hk, rfl⟩
  have := i_le.mp h.1
  rw [nI_toInt (by omega), nI_toInt (by omega)] at this
  omega
def plR (M : MT) (Y : YT) (a b L H : Int32) : PT := plF (ix (mCt M)) (ix H) (pxS M Y (ix a) (ix b)) (ix H) (fun _ => 0, ix L, 0)
theorem H_plan_ok {M : MT} {Y : YT} {u : Nat} {h : AH} (s : HS h M Y u) (b0 : BN M Y) (c0 : BC M Y) (cb : CB M) (a b L H : Int32) : ∃ h1, f_H_plan a b L H h = some (if planP M a b L H then (plR M Y a b L H).2.2 else -1, h1) ∧ Fr (scT u) plT h h1 ∧ LH h1 (if planP M a b L H then ix H else 0) (fun k => nI ((plR M Y a b L H).1 k)) := by
  have h6 := s.2.2.1.1.2.1
  obtain ⟨h1, e1, f1, l1⟩ := wipe_ok h (fun k => nI ((plR M Y a b L H).1 k))
  have s1 := s.f f1 (by simp) (by simp)
  have f1' : Fr (scT u) plT h h1 := f1.mn (by simp) (by simp)
  rw [f_H_plan, e1, bV_s, H_areTwo_ok s1, bI_s]
  have no : ∀ (q : ¬ planP M a b L H), ∃ h2, some ((-1 : Int32), h1) = some (if planP M a b L H then (plR M Y a b L H).2.2 else -1, h2) ∧ Fr (scT u) plT h h2 ∧ LH h2 (if planP M a b L H then ix H else 0) (fun k => nI ((plR M Y a b L H).1 k)) := fun q => by
    rw [if_neg q, if_neg q]
    exact ⟨h1, rfl, f1', l1⟩
  by_cases hq : twoS (mN M) a b = true
  · rw [if_pos hq, if_neg (by decide), within_e, bI_s]
    by_cases hL : 1 ≤ L ∧ L ≤ 20
    · rw [if_pos hL, if_neg (by decide), within_e, bI_s]
      by_cases hH : 1 ≤ H ∧ H ≤ 12
      · rw [if_pos hH, if_neg (by decide), gd_ok _ s1.2.1 (kd_u s1.1), s1.2.2.1.2.2.2.2.2]
        by_cases hLc : L ≤ mCt M * H
        · have hp : planP M a b L H := ⟨hq, hL, hH, hLc⟩
          rw [if_pos hLc, if_pos hp, if_pos hp]
          obtain ⟨c, ec, c1, c9⟩ := cb
          obtain ⟨i, j, hi, hj, rfl, rfl⟩ := two_ix h6 hq
          obtain ⟨L, L1, L2, rfl⟩ := rng_ix (lo := 1) (n := 20) (by omega) (by omega) hL
          obtain ⟨H, H1, H2, rfl⟩ := rng_ix (lo := 1) (n := 12) (by omega) (by omega) hH
          have cH : c * H ≤ 9 * 12 := Nat.mul_le_mul c9 H2
          have hLn : L ≤ c * H := by
            rw [ec, n_ml (by omega) (by omega) (by omega), i_le, nI_toInt (by omega), nI_toInt (by omega)] at hLc
            omega
          have eR : plR M Y (nI i) (nI j) (nI L) (nI H) = plF c H (pxS M Y i j) H (fun _ => 0, L, 0) := by
            unfold plR
            rw [ec, ix_n (show i < 2 ^ 31 by omega), ix_n (show j < 2 ^ 31 by omega), ix_n (show L < 2 ^ 31 by omega), ix_n (show H < 2 ^ 31 by omega), ix_n (show c < 2 ^ 31 by omega)]
          rw [eR, ix_n (show H < 2 ^ 31 by omega)]
          obtain ⟨h2, e2, f2, r2⟩ := hearP_ok s1 b0 c0 (H := H) hi hj H2
          rw [e2, bV_s]
          have s2 := s1.f f2 (fun q hq => by simp only [scR, List.mem_cons, List.not_mem_nil, or_false] at hq; omega) (by simp)
          have l2 : LH h2 0 (fun _ => 0) := (l1.fr f2 (by have := s1.1; simp; omega) (by simp)).v (fun i hi => by omega)
          refine lqc (fun fu k (z : AH) => f_H_plan_l64 (nI i) (nI j) (nI L) (nI H) fu (nI k) z) (fun k z => Fr [381] [(380, 1)] h2 z ∧ LH z k (fun _ => 0)) (fun z => f_H_plan_l94 (nI i) (nI j) (nI L) (nI H) FU 0 (nI L) 0 z) H (by omega) h2 ⟨Fr.rf _ _ _, l2⟩ (fun r e q => ?_) (fun k fu z hk p => ?_) (fun fu z p => ?_)
          · obtain ⟨f3, l3⟩ := q
            have s3 := s2.f f3 (by simp) (by simp)
            obtain ⟨h4, e4, f4, l4⟩ := H_plan_l (p := pxS M Y i j) (u := u) (nI i) (nI j) (nI L) ⟨c1, c9⟩ ⟨H1, H2⟩ L2 hLn (z := r) ⟨⟨s3.1, s3.2.1, by rw [s3.2.2.1.2.2.2.2.2, ec]⟩, fun k hk => by rw [f3.i _ _ (by simp) (by simp)]; exact r2 k hk, l3.v (fun i hi => rfl)⟩
            refine ⟨h4, ?_, ((f1'.t (f2.mn (by simp) (by simp))).t (f3.mn (by simp) (by simp))).t (f4.mn (by simp) (by simp)), l4⟩
            exact e.trans e4
          · obtain ⟨f3, l3⟩ := p
            obtain ⟨h4, e4, f4, l4⟩ := add_ok l3 (by omega) 0
            refine ⟨h4, ?_, f3.t f4, l4.v (fun i hi => by rw [upd_a]; split <;> rfl)⟩
            show f_H_plan_l64 (nI i) (nI j) (nI L) (nI H) (fu + 1) (nI k) z = f_H_plan_l64 (nI i) (nI j) (nI L) (nI H) fu (nI (k + 1)) h4
            rw [f_H_plan_l64, if_neg (nI_ge hk (by omega)), e4, bV_s, lt_e, nI_1]
          · show f_H_plan_l64 (nI i) (nI j) (nI L) (nI H) (fu + 1) (nI H) z = _
            rw [f_H_plan_l64, if_pos (nI_le (by omega) (by omega))]
        · rw [if_neg hLc]
          exact no (fun q => hLc q.2.2.2)
      · rw [if_neg hH, if_pos rfl]
        exact no (fun q => hH q.2.2.1)
    · rw [if_neg hL, if_pos rfl]
      exact no (fun q => hL q.2.1)
  · rw [if_neg hq, if_pos rfl]
    exact no (fun q => hq q.1)
/-! the reference: one load after another -/
def ML (c H : Nat) (p : Nat → Int32) (v : Nat → Nat) (z : AH) : Prop := hI z 383 46 = nI c ∧ ∀ k, k < H → hI z 408 k = p k ∧ hI z 409 k = nI (v k)
theorem plan_in {c H : Nat} {p : Nat → Int32} {v : Nat → Nat} {z : AH} (a b x left paid : Int32) (K : Int32 → Int32 → AH → Option (Int32 × AH)) (hH : H ≤ 12) (hc : c < 1000) (hv : ∀ k, k < H → v k < 1000) (q : ML c H p v z) {bb : Nat} (hb : amS (fun k => decide (v k < c)) p H = some bb) : f_M_plan_l110 a b x (nI H) K FU left paid (-1) 0 z = K (left + -1) (paid + p bb) (sI z 409 bb (nI (v bb + 1))) := by
  have hbb := (amS_in _ _ _ _ hb).1
  refine lqc (fun fu k (s : Int32) => f_M_plan_l110 a b x (nI H) K fu left paid s (nI k) z) (fun k s => s = oI (amS (fun k => decide (v k < c)) p k)) (fun s => K (left + -1) (paid + p bb) (sI z 409 bb (nI (v bb + 1)))) H (by omega) (-1) rfl (fun r e w => e) (fun k fu s hk w => ⟨_, ?_, rfl⟩) (fun fu s w => ?_)
  · subst w
    show f_M_plan_l110 a b x (nI H) K (fu + 1) left paid (oI (amS (fun k => decide (v k < c)) p k)) (nI k) z = f_M_plan_l110 a b x (nI H) K fu left paid (oI (amS (fun k => decide (v k < c)) p (k + 1))) (nI (k + 1)) z
    have hvk := hv k hk
    rw [f_M_plan_l110, if_neg (nI_ge hk (by omega)), gx_n _ (show k < 12 by omega) (by omega), ix_n (show k < 2 ^ 31 by omega), q.1, (q.2 k hk).2, amS]
    simp only [lt_e, nI_1]
    by_cases h0 : v k < c
    · rw [if_neg (nI_ge h0 (by omega)), if_pos (show decide (v k < c) = true by simp [h0])]
      cases hc : amS (fun k => decide (v k < c)) p k with
      | none =>
        rw [if_pos (show oI none < 0 by decide)]
        rfl
      | some d =>
        have hd := (amS_in _ _ _ _ hc).1
        rw [if_neg (show ¬ oI (some d) < 0 from oI_p (by omega)), gx_n _ (show k < 12 by omega) (by omega)]
        show gx (nI d) 12 _ = _
        rw [gx_n _ (show d < 12 by omega) (by omega)]
        have xd : ix (oI (some d)) = d := ix_n (show d < 2 ^ 31 by omega)
        rw [xd, (q.2 d (by omega)).1, (q.2 k hk).1]
        by_cases hp : p k < p d
        · rw [if_neg (Int32.not_le.mpr hp)]
          simp only [hp, if_true]
          rfl
        · rw [if_pos (Int32.not_lt.mp hp)]
          simp only [hp, if_false]
    · rw [if_pos (nI_le (by omega) (by omega)), if_neg (show ¬ decide (v k < c) = true by simp [h0])]
  · subst w
    show f_M_plan_l110 a b x (nI H) K (fu + 1) left paid (oI (amS (fun k => decide (v k < c)) p H)) (nI H) z = _
    rw [hb, f_M_plan_l110, if_pos (nI_le (by omega) (by omega))]
    show gx (nI bb) 12 _ = _
    rw [gx_n _ (show bb < 12 by omega) (by omega)]
    show gx (nI bb) 12 _ = _
    have xd : ix (oI (some bb)) = bb := ix_n (show bb < 2 ^ 31 by omega)
    rw [gx_n _ (show bb < 12 by omega) (by omega), lt_e, xd, (q.2 bb hbb).2, nI_1]
    show gx (nI bb) 12 _ = _
    rw [gx_n _ (show bb < 12 by omega) (by omega), lt_e, lt_e, hI_sI_c _ _ _ _ _ (by decide), (q.2 bb hbb).1]
theorem ML.s {c H : Nat} {p : Nat → Int32} {v : Nat → Nat} {z : AH} (q : ML c H p v z) (b x : Nat) : ML c H p (updN v b x) (sI z 409 b (nI x)) := by
  refine ⟨by rw [hI_sI_c _ _ _ _ _ (by decide)]; exact q.1, fun k hk => ⟨by rw [hI_sI_c _ _ _ _ _ (by decide)]; exact (q.2 k hk).1, ?_⟩⟩
  rw [hI_sI]
  unfold updN
  by_cases e : k = b
  · rw [if_pos ⟨rfl, e⟩, if_pos e]
  · rw [if_neg (fun w => e w.2), if_neg e]
    exact (q.2 k hk).2
theorem updN_2 (v : Nat → Nat) (b x y : Nat) : updN (updN v b x) b y = updN v b y := by
  funext k
  unfold updN
  split <;> rfl
theorem nI_m (m : Nat) : nI (m + 1) + -1 = nI m := pk_m1 m
/-- m loads at the same hour -/
theorem plan_ms {c H : Nat} {p : Nat → Int32} (a b x : Int32) (hH : H ≤ 12) (hc : c < 500) {bb : Nat} {v : Nat → Nat} (hv : ∀ k, k < H → v k ≤ c) (hz : v bb = 0) (hb : amS (fun k => decide (v k < c)) p H = some bb) : ∀ (m left fu : Nat) (paid : Int32) (z : AH), m ≤ c → m ≤ left → left < 1000 → ML c H p v z → ∃ z1, f_M_plan_l99 a b x (nI H) (fu + m) (nI left) paid z = f_M_plan_l99 a b x (nI H) fu (nI (left - m)) (paid + nI m * p bb) z1 ∧ ML c H p (updN v bb m) z1 ∧ Fr [409] [] z z1 := by
  have hbb := (amS_in _ _ _ _ hb).1
  intro m
  induction m with
  | zero =>
    intro left fu paid z _ _ _ q
    refine ⟨z, ?_, ?_, Fr.rf _ _ _⟩
    · rw [show nI 0 * p bb = 0 from Int32.zero_mul, Int32.add_zero]
      rfl
    · rw [show updN v bb 0 = v by funext k; unfold updN; split; (rename_i e; rw [e, hz]); rfl]
      exact q
  | succ m ih =>
    intro left fu paid z h1 h2 h3 q
    obtain ⟨z1, e1, q1, f1⟩ := ih left (fu + 1) paid z (by omega) (by omega) h3 q
    have ok1 : amS (fun k => decide (updN v bb m k < c)) p H = some bb := by
      rw [← hb]
      refine amS_c _ _ _ _ (fun k hk => ?_)
      unfold updN
      by_cases e : k = bb
      · subst e
        rw [if_pos rfl, hz]
        simp; omega
      · rw [if_neg e]
    have hv1 : ∀ k, k < H → updN v bb m k < 1000 := fun k hk => by
      unfold updN
      split
      · omega
      · have := hv k hk; omega
    obtain ⟨l, el⟩ : ∃ l, left - m = l + 1 := ⟨left - m - 1, by omega⟩
    refine ⟨sI z1 409 bb (nI (updN v bb m bb + 1)), ?_, ?_, f1.s (by simp) _ _⟩
    · rw [show fu + (m + 1) = fu + 1 + m by omega, e1, el, f_M_plan_l99, if_neg (show ¬ nI (l + 1) ≤ 0 from nI_ge (a := 0) (b := l + 1) (by omega) (by omega)), plan_in a b x _ _ _ hH (by omega) hv1 q1 ok1, nI_m, show left - (m + 1) = l by omega]
      rw [show paid + nI m * p bb + p bb = paid + nI (m + 1) * p bb by
        rw [← nI_1, Int32.add_mul, Int32.one_mul, Int32.add_assoc]]
    · have e0 : updN v bb m bb = m := by unfold updN; rw [if_pos rfl]
      rw [e0]
      have := q1.s bb (m + 1)
      rw [updN_2] at this
      exact this
/-- all turns -/
theorem plan_all {c H L : Nat} {p : Nat → Int32} (a b x : Int32) (hc : 1 ≤ c ∧ c ≤ 9) (hH : H ≤ 12) (hL : L ≤ 20) (hLc : L ≤ c * H) : ∀ (n t : Nat) (st : PT) (fu : Nat) (z : AH), t + n = H → PL c H L t st → st.2.1 < fu → ML c H p st.1 z → ∃ z1, f_M_plan_l99 a b x (nI H) fu (nI st.2.1) st.2.2 z = some ((plF c H p n st).2.2, sI z1 383 57 (nI H)) ∧ ML c H p (plF c H p n st).1 z1 ∧ Fr [409] [] z z1 := by
  have fin : ∀ (st : PT) (fu : Nat) (z : AH), st.2.1 = 0 → st.2.1 < fu → f_M_plan_l99 a b x (nI H) fu (nI st.2.1) st.2.2 z = some (st.2.2, sI z 383 57 (nI H)) := fun st fu z h0 hf => by
    obtain ⟨fu, rfl⟩ : ∃ q, fu = q + 1 := ⟨fu - 1, by omega⟩
    rw [h0, f_M_plan_l99, if_pos (show nI 0 ≤ 0 from nI_le (b := 0) (by omega) (by omega)), lt_e]
  intro n
  induction n with
  | zero =>
    intro t st fu z ht q hf m
    have : t = H := by omega
    subst this
    exact ⟨z, fin st fu z (q.en hLc) hf, m, Fr.rf _ _ _⟩
  | succ n ih =>
    intro t st fu z ht q hf m
    by_cases h0 : st.2.1 = 0
    · have e : plF c H p (n + 1) st = st := if_pos h0
      rw [e]
      exact ⟨z, fin st fu z h0 hf, m, Fr.rf _ _ _⟩
    · obtain ⟨bb, eb, hb, hz⟩ := q.ex p hc.1 hLc (by omega)
      have e : plF c H p (n + 1) st = plF c H p n (plT1 c p st bb) := by
        rw [plF, if_neg h0, eb]
      rw [e]
      have ok : amS (fun k => decide (st.1 k < c)) p H = some bb := by
        rw [← eb]
        refine amS_c _ _ _ _ (fun k hk => ?_)
        rcases (q.2.1 (by omega)).2 k hk with w | w
        · rw [w]; simp; omega
        · rw [w]; simp; omega
      have m1 : min st.2.1 c ≤ st.2.1 := Nat.min_le_left _ _
      have m2 : min st.2.1 c ≤ c := Nat.min_le_right _ _
      have pl1 := q.1
      obtain ⟨z1, e1, q1, f1⟩ := plan_ms (p := p) a b x hH (by omega) q.2.2 hz ok (min st.2.1 c) st.2.1 (fu - min st.2.1 c) st.2.2 z m2 m1 (by omega) m
      obtain ⟨z2, e2, q2, f2⟩ := ih (t + 1) (plT1 c p st bb) (fu - min st.2.1 c) z1 (by omega) (q.nx (by omega) hb hz) (by show st.2.1 - min st.2.1 c < _; omega) q1
      refine ⟨z2, ?_, q2, f1.t f2⟩
      rw [show fu = fu - min st.2.1 c + min st.2.1 c by omega, e1]
      exact e2
abbrev scV : List Nat := [393, 395, 406, 408, 409]
theorem M_plan_ok {M : MT} {Y : YT} {h : AH} (s : MS h M Y) (cb : CB M) (a b L H : Int32) : ∃ h1, f_M_plan a b L H h = some (if planP M a b L H then (plR M Y a b L H).2.2 else -1, h1) ∧ Fr scV plL h h1 ∧ LM h1 (if planP M a b L H then ix H else 0) (fun k => nI ((plR M Y a b L H).1 k)) := by
  have h6 := s.1.1.2.1
  have f1 : Fr [] plL h (sI h 383 57 0) := (Fr.rf _ _ _).p (by simp) _
  have l1 : LM (sI h 383 57 0) 0 (fun k => nI ((plR M Y a b L H).1 k)) := ⟨hI_sI_s _ _ _ _, by omega, fun i hi => by omega⟩
  rw [f_M_plan, lt_e]
  generalize sI h 383 57 0 = h1 at f1 l1 ⊢
  have f1' : Fr scV plL h h1 := f1.mn (by simp) (by simp)
  have s1 : MS h1 M Y := ⟨s.1.fr f1 (by simp) (by simp), fun k hk => by rw [f1.i _ _ (by simp) (by simp)]; exact s.2 k hk⟩
  rw [M_areTwo_ok s1.1, bI_s]
  have no : ∀ (q : ¬ planP M a b L H), ∃ h2, some ((-1 : Int32), h1) = some (if planP M a b L H then (plR M Y a b L H).2.2 else -1, h2) ∧ Fr scV plL h h2 ∧ LM h2 (if planP M a b L H then ix H else 0) (fun k => nI ((plR M Y a b L H).1 k)) := fun q => by
    rw [if_neg q, if_neg q]
    exact ⟨h1, rfl, f1', l1⟩
  by_cases hq : twoS (mN M) a b = true
  · rw [if_pos hq, if_neg (by decide), isIn_e, bI_s]
    by_cases hL : 1 ≤ L ∧ L ≤ 20
    · rw [if_pos hL, if_neg (by decide), isIn_e, bI_s]
      by_cases hH : 1 ≤ H ∧ H ≤ 12
      · rw [if_pos hH, if_neg (by decide), s1.1.2.2.2.2.2]
        by_cases hLc : L ≤ mCt M * H
        · have hp : planP M a b L H := ⟨hq, hL, hH, hLc⟩
          rw [if_pos hLc, if_pos hp, if_pos hp]
          obtain ⟨c, ec, c1, c9⟩ := cb
          obtain ⟨i, j, hi, hj, rfl, rfl⟩ := two_ix h6 hq
          obtain ⟨L, L1, L2, rfl⟩ := rng_ix (lo := 1) (n := 20) (by omega) (by omega) hL
          obtain ⟨H, H1, H2, rfl⟩ := rng_ix (lo := 1) (n := 12) (by omega) (by omega) hH
          have cH : c * H ≤ 9 * 12 := Nat.mul_le_mul c9 H2
          have hLn : L ≤ c * H := by
            rw [ec, n_ml (by omega) (by omega) (by omega), i_le, nI_toInt (by omega), nI_toInt (by omega)] at hLc
            omega
          have eR : plR M Y (nI i) (nI j) (nI L) (nI H) = plF c H (pxS M Y i j) H (fun _ => 0, L, 0) := by
            unfold plR
            rw [ec, ix_n (show i < 2 ^ 31 by omega), ix_n (show j < 2 ^ 31 by omega), ix_n (show L < 2 ^ 31 by omega), ix_n (show H < 2 ^ 31 by omega), ix_n (show c < 2 ^ 31 by omega)]
          rw [eR, ix_n (show H < 2 ^ 31 by omega)]
          obtain ⟨h2, e2, p2⟩ := PA.ld s1
          rw [e2, bV_s]
          refine lqc (fun fu k (z : AH) => f_M_plan_l55 (nI i) (nI j) (nI L) (nI H) fu (nI k) z) (fun k z => Fr scV plL h z ∧ MM z M ∧ AY z (farS M k Y) ∧ ∀ x, x < k → hI z 408 x = pxS M Y i j x ∧ hI z 409 x = 0) (fun z => f_M_plan_l99 (nI i) (nI j) (nI L) (nI H) FU (nI L) 0 z) H (by omega) h2 ⟨f1'.t (p2.1.mn (by simp) (by simp)), p2.2.1, p2.2.2, fun x hx => by omega⟩ (fun r e q => ?_) (fun k fu z hk p => ?_) (fun fu z p => ?_)
          · obtain ⟨f3, m3, -, r3⟩ := q
            obtain ⟨z1, e4, m4, f4⟩ := plan_all (p := pxS M Y i j) (nI i) (nI j) (nI L) ⟨c1, c9⟩ H2 L2 hLn H 0 (fun _ => 0, L, 0) FU r (by omega) ⟨by show smN (fun _ => 0) H + L = L; rw [smN_z]; omega, fun _ => ⟨smN_z _, fun k hk => Or.inl rfl⟩, fun k hk => by show 0 ≤ c; omega⟩ (by show L < 1000000; omega) ⟨by rw [m3.2.2.2.2.2, ec], r3⟩
            refine ⟨_, e.trans e4, (f3.t (f4.mn (by simp) (by simp))).p (by simp) _, hI_sI_s _ _ _ _, by omega, fun k hk => ?_⟩
            rw [hI_sI_c _ _ _ _ _ (by decide)]
            exact (m4.2 k hk).2
          · obtain ⟨f3, m3, a3, r3⟩ := p
            have pz : PA M (farS M k Y) z z := ⟨Fr.rf _ _ _, m3, a3⟩
            obtain ⟨h4, e4, p4⟩ := pz.pr hi hj
            have ff : Fr [408, 409] [] h4 (sI (sI h4 408 k (priceS M (farS M k Y) i j)) 409 k 0) := ((Fr.rf _ _ _).s (by simp) _ _).s (by simp) _ _
            have p5 : PA M (farS M k Y) (sI (sI h4 408 k (priceS M (farS M k Y) i j)) 409 k 0) (sI (sI h4 408 k (priceS M (farS M k Y) i j)) 409 k 0) := ⟨Fr.rf _ _ _, p4.2.1.fr ff (by simp) (by simp), p4.2.2.fr ff (by simp) (by simp)⟩
            obtain ⟨h6', e6, p6⟩ := p5.hr
            rw [← farS_s] at p6
            refine ⟨h6', ?_, ((f3.t (p4.1.mn (by simp) (by simp))).t (ff.mn (by simp) (by simp))).t (p6.1.mn (by simp) (by simp)), p6.2.1, p6.2.2, fun x hx => ?_⟩
            · show f_M_plan_l55 (nI i) (nI j) (nI L) (nI H) (fu + 1) (nI k) z = f_M_plan_l55 (nI i) (nI j) (nI L) (nI H) fu (nI (k + 1)) h6'
              rw [f_M_plan_l55, if_neg (nI_ge hk (by omega)), e4, bI_s, gx_n _ (show k < 12 by omega) (by omega), lt_e, gx_n _ (show k < 12 by omega) (by omega), lt_e, ix_n (show k < 2 ^ 31 by omega), e6, bV_s, lt_e, nI_1]
            · rw [p6.1.i 408 x (by simp) (by simp), p6.1.i 409 x (by simp) (by simp), hI_sI_c _ _ _ _ 408 (by decide), hI_sI, hI_sI]
              by_cases e : x = k
              · rw [if_pos ⟨rfl, e⟩, if_pos ⟨rfl, e⟩, e]
                exact ⟨rfl, rfl⟩
              · rw [if_neg (fun q => e q.2), if_neg (fun q => e q.2), hI_sI_c _ _ _ _ 409 (by decide), p4.1.i 408 x (by simp) (by simp), p4.1.i 409 x (by simp) (by simp)]
                exact r3 x (by omega)
          · show f_M_plan_l55 (nI i) (nI j) (nI L) (nI H) (fu + 1) (nI H) z = _
            rw [f_M_plan_l55, if_pos (nI_le (by omega) (by omega))]
        · rw [if_neg hLc]
          exact no (fun q => hLc q.2.2.2)
      · rw [if_neg hH, if_pos rfl]
        exact no (fun q => hH q.2.2.1)
    · rw [if_neg hL, if_pos rfl]
      exact no (fun q => hL q.2.1)
  · rw [if_neg hq, if_pos rfl]
    exact no (fun q => hq q.1)
