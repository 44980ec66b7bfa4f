/-! ===== loops, and both sides' looks ahead ===== -/
theorem lp {σ R : Type} (G : Nat → Nat → σ → Option R) (P : Nat → σ → Prop) (Q : R → Prop) (n : Nat) (hn : n < 999999) (st : ∀ k fu s, k < n → P k s → (∃ s', G (fu + 1) k s = G fu (k + 1) s' ∧ P (k + 1) s') ∨ (∃ r, G (fu + 1) k s = some r ∧ Q r)) (en : ∀ fu s, P n s → ∃ r, G (fu + 1) n s = some r ∧ Q r) (s : σ) (p : P 0 s) : ∃ r, G FU 0 s = some r ∧ Q r := by
  have go : ∀ m k fu s, m + k = n → m < fu → P k s → ∃ r, G fu k s = some r ∧ Q r := by
    intro m
    induction m with
    | zero =>
      intro k fu s hk hf p
      obtain ⟨fu, rfl⟩ : ∃ q, fu = q + 1 := ⟨fu - 1, by omega⟩
      have : k = n := by omega
      subst this
      exact en fu s p
    | succ m ih =>
      intro k fu s hk hf p
      obtain ⟨fu, rfl⟩ : ∃ q, fu = q + 1 := ⟨fu - 1, by omega⟩
      rcases st k fu s (by omega) p with ⟨s', e, p'⟩ | ⟨r, e, q⟩
      · rw [e]
        exact ih (k + 1) fu s' (by omega) (by omega) p'
      · exact ⟨r, e, q⟩
  exact go n 0 FU s (by omega) (by show n < 1000000; omega) p
theorem lq {σ R : Type} (G : Nat → Nat → σ → Option R) (P : Nat → σ → Prop) (E : σ → Option R) (n : Nat) (hn : n < 999999) (st : ∀ k fu s, k < n → P k s → ∃ s', G (fu + 1) k s = G fu (k + 1) s' ∧ P (k + 1) s') (en : ∀ fu s, P n s → G (fu + 1) n s = E s) (s : σ) (p : P 0 s) : ∃ s', G FU 0 s = E s' ∧ P n s' := by
  have go : ∀ m k fu s, m + k = n → m < fu → P k s → ∃ s', G fu k s = E s' ∧ P n s' := by
    intro m
    induction m with
    | zero =>
      intro k fu s hk hf p
      obtain ⟨fu, rfl⟩ : ∃ q, fu = q + 1 := ⟨fu - 1, by omega⟩
      have : k = n := by omega
      subst this
      exact ⟨s, en fu s p, p⟩
    | succ m ih =>
      intro k fu s hk hf p
      obtain ⟨fu, rfl⟩ : ∃ q, fu = q + 1 := ⟨fu - 1, by omega⟩
      obtain ⟨s', e, p'⟩ := st k fu s (by omega) p
      rw [e]
      exact ih (k + 1) fu s' (by omega) (by omega) p'
  exact go n 0 FU s (by omega) (by show n < 1000000; omega) p
theorem lpc {σ R : Type} {C : Prop} (G : Nat → Nat → σ → Option R) (P : Nat → σ → Prop) (Q : R → Prop) (n : Nat) (hn : n < 999999) (s : σ) (p : P 0 s) (K : ∀ r, G FU 0 s = some r → Q r → C) (st : ∀ k fu s, k < n → P k s → (∃ s', G (fu + 1) k s = G fu (k + 1) s' ∧ P (k + 1) s') ∨ (∃ r, G (fu + 1) k s = some r ∧ Q r)) (en : ∀ fu s, P n s → ∃ r, G (fu + 1) n s = some r ∧ Q r) : C := by
  obtain ⟨r, e, q⟩ := lp G P Q n hn st en s p
  exact K r e q
theorem lqc {σ R : Type} {C : Prop} (G : Nat → Nat → σ → Option R) (P : Nat → σ → Prop) (E : σ → Option R) (n : Nat) (hn : n < 999999) (s : σ) (p : P 0 s) (K : ∀ s', G FU 0 s = E s' → P n s' → C) (st : ∀ k fu s, k < n → P k s → ∃ s', G (fu + 1) k s = G fu (k + 1) s' ∧ P (k + 1) s') (en : ∀ fu s, P n s → G (fu + 1) n s = E s) : C := by
  obtain ⟨r, e, q⟩ := lq G P E n hn st en s p
  exact K r e q
/-- the reference's air holds Y, some time behind h0 -/
def PA (M : MT) (Y : YT) (h0 h : AH) : Prop := Fr sca [] h0 h ∧ MM h M ∧ AY h Y
theorem PA.ld {M : MT} {Y : YT} {h : AH} (s : MS h M Y) : ∃ h1, f_M_load h = some h1 ∧ PA M Y h h1 := by
  obtain ⟨h1, e1, f1, a1⟩ := M_load_ok s.2
  exact ⟨h1, e1, f1, s.1.fr f1 (by simp) (by simp), a1⟩
theorem PA.sc {M : MT} {Y : YT} {h0 h h1 : AH} (p : PA M Y h0 h) (f : Fr sc [] h h1) : PA M Y h0 h1 :=
  ⟨p.1.t (f.mn (by simp) (by simp)), p.2.1.fr f (by simp) (by simp), p.2.2.fr f (by simp) (by simp)⟩
theorem PA.hr {M : MT} {Y : YT} {h0 h : AH} (p : PA M Y h0 h) : ∃ h1, f_M_goHour h = some h1 ∧ PA M (hourS M Y) h0 h1 := by
  obtain ⟨h1, e1, f1, a1⟩ := M_goHour_ok p.2.1 p.2.2
  exact ⟨h1, e1, p.1.t f1, p.2.1.fr f1 (by simp) (by simp), a1⟩
theorem PA.pr {M : MT} {Y : YT} {h0 h : AH} (p : PA M Y h0 h) {i j : Nat} (hi : i < mN M) (hj : j < mN M) : ∃ h1, f_M_priceOf (nI i) (nI j) h = some (priceS M Y i j, h1) ∧ PA M Y h0 h1 := by
  obtain ⟨h1, e1, f1⟩ := M_priceOf_ok p.2.1 p.2.2 hi hj
  exact ⟨h1, e1, p.sc f1⟩
theorem PA.ch {M : MT} {Y : YT} {h0 h : AH} (p : PA M Y h0 h) {i : Nat} (hi : i < mN M) : ∃ h1, f_M_chirpsOf (nI i) h = some (chirpS M Y i, h1) ∧ PA M Y h0 h1 := by
  obtain ⟨h1, e1, f1⟩ := M_chirpsOf_ok p.2.1 p.2.2 hi
  exact ⟨h1, e1, p.sc f1⟩
theorem PA.cr {M : MT} {Y : YT} {h0 h : AH} (p : PA M Y h0 h) : ∃ h1, f_M_chorusHere h = some (smS (chirpS M Y) (mN M), h1) ∧ PA M Y h0 h1 := by
  have h6 := p.2.1.1.2.1
  obtain ⟨h1, e1, f1⟩ := M_chorus_l p.2.1 p.2.2 (mN M) 0 FU h (by omega) (by show mN M < 1000000; omega) (Fr.rf _ _ _)
  exact ⟨h1, e1, p.sc f1⟩
theorem PA.al {M : MT} {Y : YT} {h0 h : AH} (p : PA M Y h0 h) : ∃ h1, f_M_allPrices h = some (triL (priceS M Y) (mN M) 0, h1) ∧ PA M Y h0 h1 := by
  have h6 := p.2.1.1.2.1
  obtain ⟨h1, e1, f1⟩ := M_all_out p.2.1 p.2.2 0 (mN M) 0 FU h (by omega) (by show mN M < 1000000; omega) (Fr.rf _ _ _)
  exact ⟨h1, e1, p.sc f1⟩
theorem PA.fr {M : MT} {Y : YT} {h0 h : AH} (p : PA M Y h0 h) : Fr sca [] h0 h := p.1
theorem PA.go {M : MT} {Y : YT} {h : AH} (s : MS h M Y) {n : Nat} (hn : n < 999999) : ∃ h1, f_M_goFar (nI n) h = some h1 ∧ PA M (farS M n Y) h h1 := by
  obtain ⟨h1, e1, p1⟩ := PA.ld s
  rw [f_M_goFar, e1, bV_s]
  refine lp (fun fu k s => f_M_goFar_l6 (nI n) fu (nI k) s) (fun k s => PA M (farS M k Y) h s) (fun r => PA M (farS M n Y) h r) n hn (fun k fu s hk p => Or.inl ?_) (fun fu s p => ⟨s, ?_, p⟩) h1 p1
  · obtain ⟨h2, e2, p2⟩ := p.hr
    refine ⟨h2, ?_, by rw [farS_s]; exact p2⟩
    show f_M_goFar_l6 (nI n) (fu + 1) (nI k) s = f_M_goFar_l6 (nI n) fu (nI (k + 1)) h2
    rw [f_M_goFar_l6, if_neg (nI_ge hk (by omega)), e2, bV_s, lt_e, nI_1]
  · show f_M_goFar_l6 (nI n) (fu + 1) (nI n) s = some s
    rw [f_M_goFar_l6, if_pos (nI_le (by omega) (by omega))]
/-! the class's yard ahead -/
abbrev scW (u : Nat) : List Nat := [45, 46, 47, 48, 49, 50, 52, u + 12, u + 16]
abbrev plW : List (Nat × Nat) := [(51, 1), (44, 6), (44, 7), (44, 8), (44, 9)]
def PK (M : MT) (Y : YT) (u : Nat) (h0 h : AH) : Prop := Fr (scW u) plW h0 h ∧ ((u = 3 ∨ u = 20) ∧ hR h 0 1 = some u) ∧ MK h u M ∧ YR (mN M) h 44 Y ∧ BN M Y ∧ BC M Y
/-- the choir sings what Y's crickets sing -/
def TU (M : MT) (Y : YT) (h : AH) : Prop := hI h 51 1 = nI (mN M) ∧ ∀ j, j < mN M → hI h 52 j = chirpS M Y j
theorem PK.cp {M : MT} {Y : YT} {u : Nat} {h0 h : AH} (f : Fr (scW u) plW h0 h) (s : HS h M Y u) (b : BN M Y) (c : BC M Y) : ∃ h1, f_Yard_copy 44 37 h = some h1 ∧ PK M Y u h0 h1 := by
  have h6 := s.2.2.1.1.2.1
  obtain ⟨hu, hr, hM, hY⟩ := s
  obtain ⟨h1, e1, f1, y1⟩ := copy_ok (t := 44) (s := 37) h6 (by omega) hY
  refine ⟨h1, e1, f.t (f1.mn (by simp) (by simp)), ⟨hu, by rw [f1.2.2.2]; exact hr⟩, hM.fr f1 (fun q hq => by simp only [scK, List.mem_cons, List.not_mem_nil, or_false] at hq; omega) (fun q hq => by
      simp only [plP, List.mem_cons, List.not_mem_nil, or_false] at hq
      rcases hq with rfl | rfl | rfl | rfl <;> simp only <;> omega), y1, b, c⟩
theorem PK.hr {M : MT} {Y : YT} {u : Nat} {h0 h : AH} (p : PK M Y u h0 h) : ∃ h1, f_Yard_pass1 44 u h = some h1 ∧ PK M (hourS M Y) u h0 h1 := by
  obtain ⟨f, ⟨hu, hr⟩, hM, hY, b, c⟩ := p
  have h6 := hM.1.2.1
  obtain ⟨h2, e2, f2, y2⟩ := K_hour_ok (t := 44) rfl (by omega) hM b c hY
  refine ⟨h2, e2, f.t (f2.mn (by simp) (by simp)), ⟨hu, by rw [f2.2.2.2]; exact hr⟩, hM.fr f2 (fun q hq => by simp only [scP, List.mem_cons, List.not_mem_nil, or_false] at hq; omega) (fun q hq => by
      simp only [plP, List.mem_cons, List.not_mem_nil, or_false] at hq
      rcases hq with rfl | rfl | rfl | rfl <;> simp only <;> omega), y2, b.hour h6, c.hour h6⟩
theorem scU_m {u : Nat} (hu : u = 3 ∨ u = 20) : (∀ q ∈ scU u, q = u + 12 ∨ q = u + 16 ∨ q < u ∨ u + 16 < q) ∧ (∀ q ∈ [((51 : Nat), (1 : Nat))], q.1 < u ∨ u + 16 < q.1) := by
  refine ⟨fun q hq => ?_, fun q hq => ?_⟩
  · simp only [scU, List.mem_cons, List.not_mem_nil, or_false] at hq; omega
  · simp only [List.mem_cons, List.not_mem_nil, or_false] at hq; subst hq; simp only; omega
theorem scU_y {u t : Nat} (hu : u = 3 ∨ u = 20) (ht : t + 6 < 51 ∨ 53 ≤ t) (htu : t + 6 < u ∨ u + 16 < t) : (∀ q ∈ scU u, q < t ∨ t + 6 < q) ∧ (∀ q ∈ [((51 : Nat), (1 : Nat))], q.1 < t ∨ t + 6 < q.1) := by
  refine ⟨fun q hq => ?_, fun q hq => ?_⟩
  · simp only [scU, List.mem_cons, List.not_mem_nil, or_false] at hq; omega
  · simp only [List.mem_cons, List.not_mem_nil, or_false] at hq; subst hq; simp only; omega
theorem PK.tn {M : MT} {Y : YT} {u : Nat} {h0 h : AH} (p : PK M Y u h0 h) : ∃ h1, f_Choir_tune u 44 h = some h1 ∧ PK M Y u h0 h1 ∧ TU M Y h1 := by
  obtain ⟨f, ⟨hu, hr⟩, hM, hY, b, c⟩ := p
  obtain ⟨h1, e1, f1, d1, a1⟩ := tune_ok (t := 44) (by omega) hu (by omega) hM hY
  have yy := scU_y (t := 44) hu (by omega) (by omega)
  exact ⟨h1, e1, ⟨f.t (f1.mn (by simp) (by simp)), ⟨hu, by rw [f1.2.2.2]; exact hr⟩, hM.fr f1 (scU_m hu).1 (scU_m hu).2, hY.fr f1 yy.1 yy.2, b, c⟩, d1, a1⟩
/-- the choir tuned to what is now -/
def HT (M : MT) (Y : YT) (u : Nat) (h0 h : AH) : Prop := Fr (scU u) [(51, 1)] h0 h ∧ HS h M Y u ∧ TU M Y h
theorem HT.tn {M : MT} {Y : YT} {u : Nat} {h : AH} (s : HS h M Y u) : ∃ h1, f_Choir_tune u 37 h = some h1 ∧ HT M Y u h h1 := by
  obtain ⟨hu, hr, hM, hY⟩ := s
  obtain ⟨h1, e1, f1, d1, a1⟩ := tune_ok (t := 37) (by omega) hu (by omega) hM hY
  have yy := scU_y (t := 37) hu (by omega) (by omega)
  exact ⟨h1, e1, f1, ⟨hu, by rw [f1.2.2.2]; exact hr, hM.fr f1 (scU_m hu).1 (scU_m hu).2, hY.fr f1 yy.1 yy.2⟩, d1, a1⟩
theorem TU.half {M : MT} {Y : YT} {h : AH} (t : TU M Y h) (h6 : mN M ≤ 6) {i j : Nat} (hi : i < mN M) (hj : j < mN M) : f_Choir_half (nI i) (nI j) h = some (priceS M Y i j, h) := by
  rw [f_Choir_half, gx_n _ (show i < 6 by omega) (by omega), gx_n _ (show j < 6 by omega) (by omega), ix_n (show i < 2 ^ 31 by omega), ix_n (show j < 2 ^ 31 by omega), t.2 i hi, t.2 j hj]
  rfl
theorem HS.f {M : MT} {Y : YT} {u : Nat} {h h1 : AH} {S : List Nat} {P : List (Nat × Nat)} (s : HS h M Y u) (f : Fr S P h h1) (a : ∀ q ∈ S, q = u + 12 ∨ q = u + 16 ∨ 44 ≤ q) (b : ∀ q ∈ P, 44 ≤ q.1) : HS h1 M Y u := by
  obtain ⟨hu, hr, hM, hY⟩ := s
  refine ⟨hu, by rw [f.2.2.2]; exact hr, hM.fr f (fun q hq => ?_) (fun q hq => ?_), hY.fr f (fun q hq => ?_) (fun q hq => ?_)⟩
  · have := a q hq; omega
  · have := b q hq; omega
  · have := a q hq; omega
  · have := b q hq; omega
theorem HS.fr {M : MT} {Y : YT} {u : Nat} {h h1 : AH} (s : HS h M Y u) (f : Fr (scW u) plW h h1) : HS h1 M Y u := s.f f (by simp) (by simp)
theorem PK.lk {M : MT} {Y : YT} {u : Nat} {h : AH} (s : HS h M Y u) (b : BN M Y) (c : BC M Y) {n : Nat} (hn : n < 999999) : ∃ h1, f_H_lookAhead (nI n) h = some h1 ∧ PK M (farS M n Y) u h h1 := by
  have h6 := s.2.2.1.1.2.1
  obtain ⟨h2, e2, f2, y2⟩ := look_ok hn s b c
  have s2 := s.fr (f2.mn (by simp) (by simp))
  exact ⟨h2, e2, f2.mn (by simp) (by simp), ⟨s.1, s2.2.1⟩, s2.2.2.1, y2, (far_keep h6 n Y b c).1, (far_keep h6 n Y b c).2⟩
/-! will -/
def inR (a : Int32) (n : Nat) : Prop := 0 ≤ a ∧ a ≤ nI n
theorem inR_ix {a : Int32} {n : Nat} (hn : n < 1000000) (h : 0 ≤ a ∧ a ≤ nI n) : ∃ k, k ≤ n ∧ a = nI k := by
  rcases i_pl a (show n + 1 < 2 ^ 31 by omega) with q | q | ⟨j, hj, e⟩
  · exact absurd h.1 (Int32.not_le.mpr q)
  · have q1 := i_le.mp q
    have q2 := i_le.mp h.2
    rw [nI_toInt (by omega)] at q1 q2
    omega
  · exact ⟨j, by omega, e⟩
def willS (M : MT) (Y : YT) (a b n : Int32) : Int32 := if twoS (mN M) a b = true then (if 0 ≤ n ∧ n ≤ 60 then priceS M (farS M (ix n) Y) (ix a) (ix b) else -1) else -1
theorem M_will_ok {M : MT} {Y : YT} {h : AH} (s : MS h M Y) (a b n : Int32) : ∃ h1, f_M_will a b n h = some (willS M Y a b n, h1) ∧ Fr sca [] h h1 := by
  have h6 := s.1.1.2.1
  rw [f_M_will, M_areTwo_ok s.1, bI_s]
  unfold willS
  by_cases hq : twoS (mN M) a b = true
  · rw [if_pos hq, if_neg (by decide), if_pos hq, isIn_e, bI_s]
    by_cases hn : 0 ≤ n ∧ n ≤ 60
    · rw [if_pos hn, if_pos (by decide), if_pos hn]
      obtain ⟨k, hk, rfl⟩ := inR_ix (n := 60) (by omega) hn
      obtain ⟨i, j, hi, hj, rfl, rfl⟩ := two_ix h6 hq
      obtain ⟨h1, e1, p1⟩ := PA.go s (show k < 999999 by omega)
      obtain ⟨h2, e2, p2⟩ := p1.pr hi hj
      refine ⟨h2, ?_, p2.1⟩
      rw [e1, bV_s, e2, bI_s, ix_n (show i < 2 ^ 31 by omega), ix_n (show j < 2 ^ 31 by omega), ix_n (show k < 2 ^ 31 by omega)]
    · rw [if_neg hn, if_neg (by decide), if_neg hn]
      exact ⟨h, rfl, Fr.rf _ _ _⟩
  · rw [if_neg hq, if_pos rfl, if_neg hq]
    exact ⟨h, rfl, Fr.rf _ _ _⟩
theorem H_will_ok {M : MT} {Y : YT} {u : Nat} {h : AH} (s : HS h M Y u) (b0 : BN M Y) (c0 : BC M Y) (a b n : Int32) : ∃ h1, f_H_will a b n h = some (willS M Y a b n, h1) ∧ Fr (scW u) plW h h1 := by
  have h6 := s.2.2.1.1.2.1
  rw [f_H_will, H_areTwo_ok s, bI_s]
  unfold willS
  by_cases hq : twoS (mN M) a b = true
  · rw [if_pos hq, if_neg (by decide), if_pos hq, within_e, bI_s]
    by_cases hn : 0 ≤ n ∧ n ≤ 60
    · rw [if_pos hn, if_pos (by decide), if_pos hn]
      obtain ⟨k, hk, rfl⟩ := inR_ix (n := 60) (by omega) hn
      obtain ⟨i, j, hi, hj, rfl, rfl⟩ := two_ix h6 hq
      obtain ⟨h1, e1, p1⟩ := PK.lk s b0 c0 (show k < 999999 by omega)
      obtain ⟨h2, e2, p2, t2⟩ := p1.tn
      refine ⟨h2, ?_, p2.1⟩
      rw [e1, bV_s, gd_ok _ p1.2.1.2 (kd_u p1.2.1.1), e2, bV_s, t2.half h6 hi hj, bI_s, ix_n (show i < 2 ^ 31 by omega), ix_n (show j < 2 ^ 31 by omega), ix_n (show k < 2 ^ 31 by omega)]
    · rw [if_neg hn, if_neg (by decide), if_neg hn]
      exact ⟨h, rfl, Fr.rf _ _ _⟩
  · rw [if_neg hq, if_pos rfl, if_neg hq]
    exact ⟨h, rfl, Fr.rf _ _ _⟩
