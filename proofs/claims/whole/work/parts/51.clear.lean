/-! ===== clear, the class's ===== -/
/-- as Fr, but the references of R's cells may change -/
def FrR (S : List Nat) (P : List (Nat × Nat)) (R : List Nat) (h h' : AH) : Prop := h'.1 = h.1 ∧ (∀ c k, c ∉ S → (c, k) ∉ P → hI h' c k = hI h c k) ∧ hL h' = hL h ∧ ∀ c, c ∉ R → hR h' c = hR h c
theorem Fr.r {S : List Nat} {P : List (Nat × Nat)} {R : List Nat} {h h' : AH} (f : Fr S P h h') : FrR S P R h h' := ⟨f.1, f.2.1, f.2.2.1, fun c _ => congrFun f.2.2.2 c⟩
theorem FrR.mn {S U : List Nat} {P Q : List (Nat × Nat)} {R T : List Nat} {h h1 : AH} (f : FrR S P R h h1) (hS : ∀ c ∈ S, c ∈ U) (hP : ∀ c ∈ P, c ∈ Q) (hR' : ∀ c ∈ R, c ∈ T) : FrR U Q T h h1 := ⟨f.1, fun c k hc hp => f.2.1 c k (fun q => hc (hS c q)) (fun q => hp (hP _ q)), f.2.2.1, fun c hc => f.2.2.2 c (fun q => hc (hR' c q))⟩
theorem FrR.t {S : List Nat} {P : List (Nat × Nat)} {R : List Nat} {h h1 h2 : AH} (f : FrR S P R h h1) (g : FrR S P R h1 h2) : FrR S P R h h2 := ⟨g.1.trans f.1, fun c k hc hp => (g.2.1 c k hc hp).trans (f.2.1 c k hc hp), g.2.2.1.trans f.2.2.1, fun c hc => (g.2.2.2 c hc).trans (f.2.2.2 c hc)⟩
theorem Fr.rr {S U : List Nat} {P Q : List (Nat × Nat)} {T : List Nat} {h h1 : AH} (f : Fr S P h h1) (hS : ∀ c ∈ S, c ∈ U) (hP : ∀ c ∈ P, c ∈ Q) : FrR U Q T h h1 := (f.mn hS hP).r
theorem FrR.i {S : List Nat} {P : List (Nat × Nat)} {R : List Nat} {h h' : AH} (f : FrR S P R h h') (c k : Nat) (hc : c ∉ S) (hp : (c, k) ∉ P) : hI h' c k = hI h c k := f.2.1 c k hc hp
theorem FrR.sr {S : List Nat} {P : List (Nat × Nat)} {R : List Nat} {h h1 : AH} (f : FrR S P R h h1) {c : Nat} (hc : c ∈ R) (k : Nat) (v : Option Nat) : FrR S P R h (sR h1 c k v) := ⟨f.1, f.2.1, f.2.2.1, fun c' hc' => by
  funext k'
  rw [hR_sR, if_neg (fun (e : c' = c ∧ k' = k) => hc' (e.1 ▸ hc))]
  exact congrFun (f.2.2.2 c' hc') k'⟩
theorem rows_ind (q : QT) (A : Nat → Nat) (f g : Nat → Int32) : rowsC q q.1 A (-1, 0, f) = rowsC q q.1 A (-1, 0, g) := by
  unfold rowsC
  obtain ⟨m, hm⟩ : ∃ m, (q.1 + 1) ^ q.1 = 1 + m := ⟨(q.1 + 1) ^ q.1 - 1, by have : 0 < (q.1 + 1) ^ q.1 := Nat.pow_pos (by omega); omega⟩
  rw [hm, fdN_a, fdN_a]
  have e : ∀ f, fdN (fun v => stC q (extA q.1 q.1 A v)) 1 (-1, 0, f) = (0, 0, lA (fun _ => 0)) := fun f => by
    show stC q (extA q.1 q.1 A 0) (-1, 0, f) = _
    have hA : ∀ d, d < q.1 → extA q.1 q.1 A 0 d = (fun _ => 0) d := fun d hd => by unfold extA; rw [if_neg (by omega), Nat.zero_div, Nat.zero_mod]
    rw [stC_c q hA]
    have pz : ∀ s m, preC (fun _ => 0) s m = 0 := fun s m => by
      induction m with
      | zero => rfl
      | succ m ih => show preC _ s m + (if 0 = s + 1 then 1 else 0) = 0; rw [ih, if_neg (by omega)]
    have mz : ∀ m, manyA (fun _ => 0) m = 0 := fun m => by
      induction m with
      | zero => rfl
      | succ m ih => show manyA _ m + 0 = 0; rw [ih]
    have qz : ∀ m, paidA q.2.2.2.2 (fun _ => 0) m = 0 := fun m => by
      induction m with
      | zero => rfl
      | succ m ih => show paidA q.2.2.2.2 (fun _ => 0) m + 0 = 0; rw [ih]; rfl
    have v : valC q (fun _ => 0) := ⟨fun d hd => by unfold okD; simp, fun s hs => by rw [pz]; omega⟩
    unfold stC
    rw [if_pos v, mz, qz]
    unfold cmpC
    rw [if_pos (show (-1 : Int32) < nI 0 by decide)]
    have ec : cutA q.1 (fun _ => 0) = fun _ => 0 := by funext d; unfold cutA; split <;> rfl
    rw [ec]
    rfl
  rw [e, e]
def clearF (M : MT) (Y : YT) : CS := DF (qC M Y) (mN M) (fun _ => 0) (-1, 0, fun _ => 0)
theorem pre0 (q : QT) (A : Nat → Nat) : preV q A (q.1 - q.1) := by
  rw [Nat.sub_self]
  exact ⟨fun x hx => by omega, fun s hs => by show 0 ≤ _; omega⟩
theorem clearF_e (M : MT) (Y : YT) (A : Nat → Nat) (f : Nat → Int32) : rowsC (qC M Y) (mN M) A (-1, 0, f) = rowsC (qC M Y) (mN M) (fun _ => 0) (-1, 0, fun _ => 0) := by
  rw [show rowsC (qC M Y) (mN M) A (-1, 0, f) = rowsC (qC M Y) (mN M) A (-1, 0, fun _ => 0) from rows_ind (qC M Y) A f (fun _ => 0)]
  unfold rowsC
  refine fdN_c _ _ _ _ (fun v t hv => stC_c _ (fun d hd => ?_) t)
  have hd' : d < mN M := hd
  unfold extA
  show (if d < mN M - mN M then _ else _) = (if d < mN M - mN M then _ else _)
  rw [if_neg (by omega), if_neg (by omega)]
theorem clearF_r (M : MT) (Y : YT) (A : Nat → Nat) (f : Nat → Int32) : rowsC (qC M Y) (mN M) A (-1, 0, f) = clearF M Y := by
  rw [clearF_e]
  exact DF_eq (qC M Y) (mN M) (Nat.le_refl _) _ _ (pre0 _ _)
theorem clearF_d (M : MT) (Y : YT) (f : Nat → Int32) : DF (qC M Y) (mN M) (fun _ => 0) (-1, 0, f) = clearF M Y := by
  rw [← clearF_r M Y (fun _ => 0) f]
  exact (DF_eq (qC M Y) (mN M) (Nat.le_refl _) _ _ (pre0 _ _)).symm
abbrev scE (u : Nat) : List Nat := [377, 378, 379, 381, 52, u + 12, u + 16]
abbrev plE : List (Nat × Nat) := [(376, 6), (376, 7), (380, 1), (51, 1)]
theorem settle_ok {M : MT} {Y : YT} {u : Nat} {h : AH} (s : HS h M Y u) (t : TU M Y h) (b : BN M Y) : ∃ h1, f_Clearing_settle u 37 h = some h1 ∧ FrR scC plC [376] h h1 ∧ SX M Y u h1 ∧ SH (mN M) (clearF M Y) h1 := by
  have h6 := s.2.2.1.1.2.1
  rw [f_Clearing_settle, lt_e, lt_e, lt_e, lt_e, lt_e]
  have f0 : FrR scC plC [376] h (sR (sR (sR h 376 3 (some u)) 376 4 (some 37)) 376 5 (some 51)) := (((Fr.rf scC plC h).r.sr (by simp) 3 _).sr (by simp) 4 _).sr (by simp) 5 _
  have x0 : SX M Y u (sR (sR (sR h 376 3 (some u)) 376 4 (some 37)) 376 5 (some 51)) := ⟨s.1, s.2.2.1, s.2.2.2, t, by rw [hR_sR, if_neg (by decide), hR_sR, if_neg (by decide), hR_sR, if_pos ⟨rfl, rfl⟩], by rw [hR_sR, if_neg (by decide), hR_sR, if_pos ⟨rfl, rfl⟩], by rw [hR_sR, if_pos ⟨rfl, rfl⟩]⟩
  generalize sR (sR (sR h 376 3 (some u)) 376 4 (some 37)) 376 5 (some 51) = h0 at f0 x0 ⊢
  have f1 : Fr scC plC h0 (sI (sI h0 376 6 (-1)) 376 7 0) := ((Fr.rf _ _ _).p (by simp) _).p (by simp) _
  have s1 : SH (mN M) (-1, 0, hI h0 379) (sI (sI h0 376 6 (-1)) 376 7 0) := ⟨by rw [hI_sI, if_neg (by decide), hI_sI_s], by rw [hI_sI_s], fun i hi => by rw [hI_sI_c _ _ _ _ _ (by decide), hI_sI_c _ _ _ _ _ (by decide)]⟩
  have x1 := x0.fr f1
  have f01 := f0.t f1.r
  generalize sI (sI h0 376 6 (-1)) 376 7 0 = h1 at s1 x1 f01 ⊢
  refine lqc (fun fu k (z : AH) => f_Clearing_settle_l28 u 37 fu (nI k) z) (fun k z => Fr scC plC h1 z ∧ SH (mN M) (-1, 0, hI h0 379) z ∧ ∀ y, y < k → hI z 377 y = Y (6 + y) - mNd M y) (fun z => bV (f_Clearing_choose 8 0 0 0 z) fun hq2 => some hq2) (mN M) (by omega) h1 ⟨Fr.rf _ _ _, s1, fun y hy => by omega⟩ (fun r e q => ?_) (fun k fu z hk p => ?_) (fun fu z p => ?_)
  · obtain ⟨f2, s2, o2⟩ := q
    obtain ⟨z1, e3, f3, -, -, s3⟩ := choose_ok b h6 (mN M) 8 (fun _ => 0) (-1, 0, hI h0 379) r (Nat.le_refl _) (by omega) (x1.fr f2) (fun y hy => by
      rw [Nat.sub_self, o2 y hy]
      show _ = _ - nI 0
      exact (Int32.sub_zero _).symm) (fun i hi => by omega) s2 (fun x => by rw [Nat.sub_self]; show 0 ≤ 0; omega)
    rw [Nat.sub_self] at e3
    rw [clearF_d] at s3
    refine ⟨z1, ?_, f01.t (f2.t f3).r, x1.fr (f2.t f3), s3⟩
    refine Eq.trans e ?_
    rw [show f_Clearing_choose 8 0 0 0 r = some z1 from e3, bV_s]
  · obtain ⟨f2, s2, o2⟩ := p
    have x2 := x1.fr f2
    have gk6 : ∀ K : Option AH, gx (nI k) 6 K = K := fun K => gx_n K (by omega) (by omega)
    refine ⟨sI z 377 k (Y (6 + k) - mNd M k), ?_, f2.s (by simp) _ _, ⟨by rw [hI_sI_c _ _ _ _ _ (by decide)]; exact s2.1, by rw [hI_sI_c _ _ _ _ _ (by decide)]; exact s2.2.1, fun i hi => by rw [hI_sI_c _ _ _ _ _ (by decide)]; exact s2.2.2 i hi⟩, fun y hy => ?_⟩
    · show f_Clearing_settle_l28 u 37 (fu + 1) (nI k) z = f_Clearing_settle_l28 u 37 fu (nI (k + 1)) (sI z 377 k (Y (6 + k) - mNd M k))
      rw [f_Clearing_settle_l28, gd_ok _ x2.2.2.2.2.1 (kd_u x2.1), x2.2.1.1.1, if_neg (nI_ge hk (by omega)), gd_ok _ x2.2.2.2.2.2.1 (show kdF 37 = .inr 10 from rfl), gk6, gd_ok _ x2.2.2.2.2.1 (kd_u x2.1), gk6, gk6, lt_e, lt_e, nI_1, ix_n (show k < 2 ^ 31 by omega), show hI z (37 + 2) k = Y (6 + k) from (x2.2.2.1.1 k hk).2.1, (x2.2.1.1.2.2 k hk).2.2]
    · rw [hI_sI]
      by_cases e : y = k
      · subst e; rw [if_pos ⟨rfl, rfl⟩]
      · rw [if_neg (fun q => e q.2)]; exact o2 y (by omega)
  · have x2 := x1.fr p.1
    show f_Clearing_settle_l28 u 37 (fu + 1) (nI (mN M)) z = _
    rw [f_Clearing_settle_l28, gd_ok _ x2.2.2.2.2.1 (kd_u x2.1), x2.2.1.1.1, if_pos (nI_le (by omega) (by omega))]
def clearS (M : MT) (Y : YT) (a : Int32) : Int32 := if a = 0 then (clearF M Y).1 else if a = 1 then (clearF M Y).2.1 else -1
def clearN (M : MT) (a : Int32) : Nat := if a = 0 ∨ a = 1 then mN M else 0
theorem H_clear_ok {M : MT} {Y : YT} {u : Nat} {h : AH} (s : HS h M Y u) (b : BN M Y) (a : Int32) : ∃ h1, f_H_clear a h = some (clearS M Y a, h1) ∧ FrR (scE u) plE [376] h h1 ∧ LH h1 (clearN M a) (clearF M Y).2.2 := by
  have h6 := s.2.2.1.1.2.1
  obtain ⟨h1, e1, f1, l1⟩ := wipe_ok h (clearF M Y).2.2
  have s1 := s.f f1 (by simp) (by simp)
  rw [f_H_clear, e1, bV_s]
  have yes : a = 0 ∨ a = 1 → ∃ h2, f_H_clear_b18 a h1 = some (clearS M Y a, h2) ∧ FrR (scE u) plE [376] h h2 ∧ LH h2 (mN M) (clearF M Y).2.2 := fun ha => by
    obtain ⟨h2, e2, f2, s2, t2⟩ := HT.tn s1
    obtain ⟨h3, e3, f3, x3, sh3⟩ := settle_ok s2 t2 b
    have s3 : HS h3 M Y u := ⟨x3.1, by rw [f3.2.2.2 0 (by simp)]; exact s2.2.1, x3.2.1, x3.2.2.1⟩
    rw [f_H_clear_b18, gd_ok _ s1.2.1 (kd_u s1.1), e2, bV_s, gd_ok _ s2.2.1 (kd_u s2.1), e3, bV_s]
    have l3 : LH h3 0 (clearF M Y).2.2 := by
      have l2 := l1.fr f2 (by have := s1.1; simp; omega) (by simp)
      exact ⟨by rw [f3.i _ _ (by simp) (by simp)]; exact l2.1, by omega, fun i hi => by omega⟩
    refine lpc (fun fu k (z : AH) => f_H_clear_l54 a fu (nI k) z) (fun k z => Fr [381] [(380, 1)] h3 z ∧ LH z k (clearF M Y).2.2) (fun r => r.1 = clearS M Y a ∧ Fr [381] [(380, 1)] h3 r.2 ∧ LH r.2 (mN M) (clearF M Y).2.2) (mN M) (by omega) h3 ⟨Fr.rf _ _ _, l3⟩ (fun r e q => ⟨r.2, by rw [← q.1]; exact e, (((f1.rr (by simp) (by simp)).t (f2.rr (by simp) (by simp))).t (f3.mn (by simp) (by simp) (by simp))).t (q.2.1.rr (by simp) (by simp)), q.2.2⟩) (fun k fu z hk p => Or.inl ?_) (fun fu z p => ?_)
    · obtain ⟨f4, l4⟩ := p
      have s4 := s3.f f4 (by simp) (by simp)
      obtain ⟨h5, e5, f5, l5⟩ := add_ok l4 (by omega) ((clearF M Y).2.2 k)
      refine ⟨h5, ?_, f4.t f5, l5.v (fun i hi => by
        rw [upd_a]
        split
        · rename_i e; rw [e]
        · rfl)⟩
      show f_H_clear_l54 a (fu + 1) (nI k) z = f_H_clear_l54 a fu (nI (k + 1)) h5
      rw [f_H_clear_l54, gd_ok _ s4.2.1 (kd_u s4.1), s4.2.2.1.1.1, if_neg (nI_ge hk (by omega)), gx_n _ (show k < 6 by omega) (by omega), ix_n (show k < 2 ^ 31 by omega), f4.i _ _ (by simp) (by simp), sh3.2.2 k hk, e5, bV_s, lt_e, nI_1]
    · obtain ⟨f4, l4⟩ := p
      have s4 := s3.f f4 (by simp) (by simp)
      refine ⟨(clearS M Y a, z), ?_, rfl, f4, l4⟩
      show f_H_clear_l54 a (fu + 1) (nI (mN M)) z = _
      rw [f_H_clear_l54, gd_ok _ s4.2.1 (kd_u s4.1), s4.2.2.1.1.1, if_pos (nI_le (by omega) (by omega)), f4.i _ _ (by simp) (by simp), f4.i _ _ (by simp) (by simp), sh3.1, sh3.2.1]
      unfold clearS
      rcases ha with rfl | rfl <;> rfl
  unfold clearN
  by_cases h0 : a = 0
  · rw [if_pos h0, if_pos (Or.inl h0)]
    exact yes (Or.inl h0)
  · rw [if_neg h0]
    by_cases h1' : a = 1
    · rw [if_pos h1', if_pos (Or.inr h1')]
      exact yes (Or.inr h1')
    · rw [if_neg h1', if_neg (fun q => q.elim h0 h1')]
      refine ⟨h1, ?_, f1.rr (by simp) (by simp), l1⟩
      unfold clearS
      rw [if_neg h0, if_neg h1']
