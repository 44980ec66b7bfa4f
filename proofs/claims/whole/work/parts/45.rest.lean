/-! ===== rest: the two payoffs ===== -/
def bz (k : Nat) : Int32 := nI k - 2
theorem bz_s (k : Nat) (hk : k < 5) : bz k + 1 = bz (k + 1) := by
  have : k = 0 ∨ k = 1 ∨ k = 2 ∨ k = 3 ∨ k = 4 := by omega
  rcases this with rfl | rfl | rfl | rfl | rfl <;> decide
theorem bz_l {k : Nat} (hk : k < 5) : ¬ 2 < bz k := by
  have : k = 0 ∨ k = 1 ∨ k = 2 ∨ k = 3 ∨ k = 4 := by omega
  rcases this with rfl | rfl | rfl | rfl | rfl <;> decide
theorem bz_e : 2 < bz 5 := by decide
theorem bz_ab {k : Nat} (hk : k < 5) : (if 0 ≤ bz k then bz k else -bz k) = mab (bz k) := by
  have : k = 0 ∨ k = 1 ∨ k = 2 ∨ k = 3 ∨ k = 4 := by omega
  rcases this with rfl | rfl | rfl | rfl | rfl <;> decide
def brY (Y : YT) (i j : Nat) (v w : Int32) : YT := upd (upd Y (24 + i) v) (24 + j) w
theorem brY_r (Y : YT) {i j : Nat} (hij : ¬ i = j) (v w v' w' : Int32) : brY (brY Y i j v' w') i j v w = brY Y i j v w := by
  funext k
  unfold brY
  simp only [upd_a]
  split
  · rfl
  · split
    · rfl
    · rfl
def wpS (M : MT) (Y : YT) (i j : Nat) (L : Int32) (b s : Nat) : Int32 := L * priceS M (brY Y i j (bz b) (bz s)) i j
def bH (M : MT) (Y : YT) (i j : Nat) (L : Int32) (b s : Nat) : Int32 := -(wpS M Y i j L b s) - 3 * mab (bz b)
def sH (M : MT) (Y : YT) (i j : Nat) (L : Int32) (b s : Nat) : Int32 := wpS M Y i j L b s - 3 * mab (bz s)
def allB (p : Nat → Bool) : Nat → Bool
  | 0 => true
  | k + 1 => allB p k && p k
theorem allB_and (p q : Nat → Bool) : ∀ k, allB (fun x => p x && q x) k = (allB p k && allB q k) := by
  intro k
  induction k with
  | zero => rfl
  | succ k ih =>
    show (allB (fun x => p x && q x) k && (p k && q k)) = ((allB p k && p k) && (allB q k && q k))
    rw [ih]
    cases allB p k <;> cases allB q k <;> cases p k <;> cases q k <;> rfl
theorem allB_f (p : Nat → Bool) {k n : Nat} (h : p k = false) (hk : k < n) : allB p n = false := by
  induction n with
  | zero => omega
  | succ n ih =>
    show (allB p n && p n) = false
    by_cases e : k = n
    · subst e; rw [h, Bool.and_false]
    · rw [ih (by omega), Bool.false_and]
def bSt (M : MT) (Y : YT) (i j : Nat) (L : Int32) (b s : Nat) : Nat → Bool := fun x => decide (bH M Y i j L x s ≤ bH M Y i j L b s)
def sSt (M : MT) (Y : YT) (i j : Nat) (L : Int32) (b s : Nat) : Nat → Bool := fun x => decide (sH M Y i j L b x ≤ sH M Y i j L b s)
def rsB (M : MT) (Y : YT) (i j : Nat) (L : Int32) (b s : Nat) : Bool := allB (bSt M Y i j L b s) 5 && allB (sSt M Y i j L b s) 5
/-! the class's row -/
theorem YR.bt {n : Nat} {h : AH} {t : Nat} {Y : YT} (m : YR n h t Y) (hn : n ≤ 6) {d : Nat} (hd : d < 6) (v : Int32) : YR n (sI h (t + 5) d v) t (upd Y (24 + d) v) := by
  have fe : ∀ i, freeS (upd Y (24 + d) v) i = freeS Y i := fun i => by unfold freeS; rw [upd_a, if_neg (by omega)]
  refine ⟨fun i hi => ?_, ?_⟩
  · obtain ⟨y1, y2, y3, y4, y5, y6⟩ := m.1 i hi
    rw [hI_sI_c _ _ _ _ (t + 1) (by omega), hI_sI_c _ _ _ _ (t + 2) (by omega), hI_sI_c _ _ _ _ (t + 3) (by omega), hI_sI_c _ _ _ _ (t + 4) (by omega), hI_sI_c _ _ _ _ (t + 6) (by omega), fe]
    rw [upd_a, if_neg (by omega), upd_a, if_neg (by omega), upd_a, if_neg (by omega), upd_a, if_neg (by omega)]
    refine ⟨y1, y2, y3, y4, ?_, y6⟩
    rw [hI_sI, upd_a]
    by_cases e : i = d
    · subst e; rw [if_pos ⟨rfl, rfl⟩, if_pos rfl]
    · rw [if_neg (fun q => e q.2), if_neg (by omega), y5]
  · rw [hI_sI_c _ _ _ _ t (by omega), upd_a, if_neg (by omega), upd_a, if_neg (by omega), upd_a, if_neg (by omega), upd_a, if_neg (by omega)]
    exact m.2
theorem PK.bt {M : MT} {Y : YT} {u : Nat} {h0 h : AH} (p : PK M Y u h0 h) {d : Nat} (hd : d < 6) (v : Int32) : PK M (upd Y (24 + d) v) u h0 (sI h 49 d v) := by
  obtain ⟨f, ⟨hu, hr⟩, hM, hY, b, c⟩ := p
  refine ⟨f.s (by simp) _ _, ⟨hu, hr⟩, hM.fr ((Fr.rf [49] [] h).s (by simp) _ _) (fun q hq => by
      simp only [List.mem_cons, List.not_mem_nil, or_false] at hq; omega) (by simp), hY.bt hM.1.2.1 hd v, b.o hM.1.2.1 (fun k hk => by rw [upd_a, if_neg (by omega)]), ?_⟩
  unfold BC
  rw [upd_a, if_neg (by omega)]
  exact c
theorem PK.rb {M : MT} {Y : YT} {u : Nat} {h0 h : AH} (p : PK M Y u h0 h) : PK M Y u h h := ⟨Fr.rf _ _ _, p.2⟩
theorem PK.pp {M : MT} {Y : YT} {u : Nat} {h0 h h1 : AH} {S : List Nat} {P : List (Nat × Nat)} (p : PK M Y u h0 h) (f : Fr S P h h1) (a : ∀ q ∈ S, 51 ≤ q) (b : ∀ q ∈ P, 51 ≤ q.1) : PK M Y u h1 h1 := by
  obtain ⟨_, ⟨hu, hr⟩, hM, hY, bb, c⟩ := p
  exact ⟨Fr.rf _ _ _, ⟨hu, by rw [f.2.2.2]; exact hr⟩, hM.fr f (fun q hq => by have := a q hq; omega) (fun q hq => by have := b q hq; omega), hY.fr f (fun q hq => by have := a q hq; omega) (fun q hq => by have := b q hq; omega), bb, c⟩
abbrev scR (u : Nat) : List Nat := [382, 45, 46, 47, 48, 49, 50, 52, u + 12, u + 16]
theorem r5 {b k : Nat} (hb : b < 5) (hk : k < 5) : nI b * 5 + nI k = nI (b * 5 + k) := by
  rw [show (5 : Int32) = nI 5 from rfl, n_ml (by omega) (by omega) (by omega), n_add]
/-- rows so far -/
def RW (M : MT) (Y : YT) (i j : Nat) (L : Int32) (m : Nat) (h : AH) : Prop := ∀ b s, b < 5 → s < 5 → b * 5 + s < m → hI h 382 (b * 5 + s) = wpS M Y i j L b s
def BP (M : MT) (Y : YT) (i j u : Nat) (L : Int32) (h0 : AH) (m : Nat) (z : AH) : Prop := (∃ Y', PK M Y' u z z ∧ ∀ v w, brY Y' i j v w = brY Y i j v w) ∧ Fr (scR u) plW h0 z ∧ RW M Y i j L m z
theorem hear_in {M : MT} {Y : YT} {u : Nat} {L : Int32} {h0 h : AH} {i j b : Nat} (hi : i < mN M) (hj : j < mN M) (hij : ¬ i = j) (hb : b < 5) (K : Int32 → AH → Option AH) (p : BP M Y i j u L h0 (b * 5) h) : ∃ h1, f_H_hearBreaths_l23 (nI i) (nI j) L K FU (nI b) 0 h = K (nI (b + 1)) h1 ∧ BP M Y i j u L h0 (b * 5 + 5) h1 := by
  refine lqc (fun fu k (z : AH) => f_H_hearBreaths_l23 (nI i) (nI j) L K fu (nI b) (nI k) z) (fun k z => BP M Y i j u L h0 (b * 5 + k) z) (fun z => K (nI (b + 1)) z) 5 (by omega) h p (fun r e q => ⟨r, e, q⟩) (fun k fu z hk p => ?_) (fun fu z p => ?_)
  · obtain ⟨⟨Y', p1, ye⟩, f1, rw1⟩ := p
    have h6 := p1.2.2.1.1.2.1
    have p2 := p1.bt (show i < 6 by omega) (bz b)
    have p3 := p2.bt (show j < 6 by omega) (bz k)
    have ey : upd (upd Y' (24 + i) (bz b)) (24 + j) (bz k) = brY Y i j (bz b) (bz k) := ye _ _
    rw [ey] at p3
    obtain ⟨h4, e4, p4, t4⟩ := p3.tn
    have ff : Fr [382] [] h4 (sI h4 382 (b * 5 + k) (L * priceS M (brY Y i j (bz b) (bz k)) i j)) := (Fr.rf _ _ _).s (by simp) _ _
    refine ⟨sI h4 382 (b * 5 + k) (L * priceS M (brY Y i j (bz b) (bz k)) i j), ?_, ⟨_, p4.pp ff (by simp) (by simp), fun v w => brY_r _ hij _ _ _ _⟩, (f1.t (p4.1.mn (by simp) (by simp))).t (ff.mn (by simp) (by simp)), fun b' s' hb' hs' hm => ?_⟩
    · show f_H_hearBreaths_l23 (nI i) (nI j) L K (fu + 1) (nI b) (nI k) z = f_H_hearBreaths_l23 (nI i) (nI j) L K fu (nI b) (nI (k + 1)) _
      rw [f_H_hearBreaths_l23, if_neg (show ¬ (5 : Int32) ≤ nI k from nI_ge (a := k) (b := 5) hk (by omega)), gx_n _ (show i < 6 by omega) (by omega), lt_e, gx_n _ (show j < 6 by omega) (by omega), lt_e, ix_n (show i < 2 ^ 31 by omega), ix_n (show j < 2 ^ 31 by omega)]
      rw [show nI b - 2 = bz b from rfl, show nI k - 2 = bz k from rfl, gd_ok _ p3.2.1.2 (kd_u p3.2.1.1), e4, bV_s, t4.half h6 hi hj, bI_s, r5 hb hk, gx_n _ (show b * 5 + k < 25 by omega) (by omega), ix_n (show b * 5 + k < 2 ^ 31 by omega), lt_e, lt_e, nI_1]
    · rw [hI_sI]
      by_cases e : b' * 5 + s' = b * 5 + k
      · rw [if_pos ⟨rfl, e⟩]
        have : b' = b ∧ s' = k := by omega
        rw [this.1, this.2]
        rfl
      · rw [if_neg (fun q => e q.2), p4.1.i _ _ (by have := p4.2.1.1; simp; omega) (by simp)]
        exact rw1 b' s' hb' hs' (by omega)
  · show f_H_hearBreaths_l23 (nI i) (nI j) L K (fu + 1) (nI b) (nI 5) z = _
    rw [f_H_hearBreaths_l23, if_pos (by decide), lt_e, nI_1]
theorem hear_ok {M : MT} {Y : YT} {u : Nat} {L : Int32} {h : AH} {i j : Nat} (s : HS h M Y u) (b0 : BN M Y) (c0 : BC M Y) (hi : i < mN M) (hj : j < mN M) (hij : ¬ i = j) : ∃ h1, f_H_hearBreaths (nI i) (nI j) L h = some h1 ∧ Fr (scR u) plW h h1 ∧ RW M Y i j L 25 h1 := by
  obtain ⟨h1, e1, p1⟩ := PK.cp (Fr.rf _ _ _) s b0 c0
  rw [f_H_hearBreaths, e1, bV_s]
  refine lqc (fun fu k (z : AH) => f_H_hearBreaths_l14 (nI i) (nI j) L fu (nI k) z) (fun k z => BP M Y i j u L h (k * 5) z) (fun z => some z) 5 (by omega) h1 ⟨⟨Y, p1.rb, fun v w => rfl⟩, p1.1.mn (by simp) (by simp), fun b s hb hs hm => by omega⟩ (fun r e q => ⟨r, e, q.2.1, q.2.2⟩) (fun k fu z hk p => ?_) (fun fu z p => ?_)
  · obtain ⟨h2, e2, p2⟩ := hear_in hi hj hij hk (f_H_hearBreaths_l14 (nI i) (nI j) L fu) p
    refine ⟨h2, ?_, by rw [Nat.succ_mul]; exact p2⟩
    show f_H_hearBreaths_l14 (nI i) (nI j) L (fu + 1) (nI k) z = _
    rw [f_H_hearBreaths_l14, if_neg (show ¬ (5 : Int32) ≤ nI k from nI_ge (a := k) (b := 5) hk (by omega))]
    exact e2
  · show f_H_hearBreaths_l14 (nI i) (nI j) L (fu + 1) (nI 5) z = _
    rw [f_H_hearBreaths_l14, if_pos (by decide)]
theorem bHas_ok {M : MT} {Y : YT} {L : Int32} {h : AH} {i j b s : Nat} (r : RW M Y i j L 25 h) (hb : b < 5) (hs : s < 5) : f_H_buyerHas (nI b) (nI s) h = some (bH M Y i j L b s, h) := by
  rw [f_H_buyerHas, r5 hb hs, gx_n _ (show b * 5 + s < 25 by omega) (by omega), ix_n (show b * 5 + s < 2 ^ 31 by omega), r b s hb hs (by omega)]
  rfl
theorem sHas_ok {M : MT} {Y : YT} {L : Int32} {h : AH} {i j b s : Nat} (r : RW M Y i j L 25 h) (hb : b < 5) (hs : s < 5) : f_H_sellerHas (nI b) (nI s) h = some (sH M Y i j L b s, h) := by
  rw [f_H_sellerHas, r5 hb hs, gx_n _ (show b * 5 + s < 25 by omega) (by omega), ix_n (show b * 5 + s < 2 ^ 31 by omega), r b s hb hs (by omega)]
  rfl
theorem bStay_ok {M : MT} {Y : YT} {L : Int32} {h : AH} {i j b s : Nat} (r : RW M Y i j L 25 h) (hb : b < 5) (hs : s < 5) : f_H_buyerStays (nI b) (nI s) h = some (if allB (bSt M Y i j L b s) 5 = true then 1 else 0, h) := by
  rw [f_H_buyerStays]
  refine lpc (fun fu k (_ : Unit) => f_H_buyerStays_l2 (nI b) (nI s) fu (nI k) h) (fun k _ => allB (bSt M Y i j L b s) k = true) (fun z => z = (if allB (bSt M Y i j L b s) 5 = true then 1 else 0, h)) 5 (by omega) () rfl (fun z e q => by rw [← q]; exact e) (fun k fu z hk p => ?_) (fun fu z p => ⟨_, ?_, rfl⟩)
  · have er : f_H_buyerStays_l2 (nI b) (nI s) (fu + 1) (nI k) h = if bH M Y i j L k s ≤ bH M Y i j L b s then f_H_buyerStays_l2 (nI b) (nI s) fu (nI (k + 1)) h else some (0, h) := by
      rw [f_H_buyerStays_l2, if_neg (show ¬ (5 : Int32) ≤ nI k from nI_ge (a := k) (b := 5) hk (by omega)), bHas_ok r hk hs, bI_s, bHas_ok r hb hs, bI_s, lt_e, nI_1]
    by_cases hq : bH M Y i j L k s ≤ bH M Y i j L b s
    · exact Or.inl ⟨(), by show f_H_buyerStays_l2 (nI b) (nI s) (fu + 1) (nI k) h = _; rw [er, if_pos hq], by show (allB _ k && _) = true; rw [p]; simp [bSt, hq]⟩
    · refine Or.inr ⟨_, (by show f_H_buyerStays_l2 (nI b) (nI s) (fu + 1) (nI k) h = _; rw [er, if_neg hq]), ?_⟩
      rw [allB_f _ (show bSt M Y i j L b s k = false by simp [bSt, hq]) hk]
      rfl
  · show f_H_buyerStays_l2 (nI b) (nI s) (fu + 1) (nI 5) h = _
    rw [f_H_buyerStays_l2, if_pos (by decide), p]
    rfl
theorem sStay_ok {M : MT} {Y : YT} {L : Int32} {h : AH} {i j b s : Nat} (r : RW M Y i j L 25 h) (hb : b < 5) (hs : s < 5) : f_H_sellerStays (nI b) (nI s) h = some (if allB (sSt M Y i j L b s) 5 = true then 1 else 0, h) := by
  rw [f_H_sellerStays]
  refine lpc (fun fu k (_ : Unit) => f_H_sellerStays_l2 (nI b) (nI s) fu (nI k) h) (fun k _ => allB (sSt M Y i j L b s) k = true) (fun z => z = (if allB (sSt M Y i j L b s) 5 = true then 1 else 0, h)) 5 (by omega) () rfl (fun z e q => by rw [← q]; exact e) (fun k fu z hk p => ?_) (fun fu z p => ⟨_, ?_, rfl⟩)
  · have er : f_H_sellerStays_l2 (nI b) (nI s) (fu + 1) (nI k) h = if sH M Y i j L b k ≤ sH M Y i j L b s then f_H_sellerStays_l2 (nI b) (nI s) fu (nI (k + 1)) h else some (0, h) := by
      rw [f_H_sellerStays_l2, if_neg (show ¬ (5 : Int32) ≤ nI k from nI_ge (a := k) (b := 5) hk (by omega)), sHas_ok r hb hk, bI_s, sHas_ok r hb hs, bI_s, lt_e, nI_1]
    by_cases hq : sH M Y i j L b k ≤ sH M Y i j L b s
    · exact Or.inl ⟨(), by show f_H_sellerStays_l2 (nI b) (nI s) (fu + 1) (nI k) h = _; rw [er, if_pos hq], by show (allB _ k && _) = true; rw [p]; simp [sSt, hq]⟩
    · refine Or.inr ⟨_, (by show f_H_sellerStays_l2 (nI b) (nI s) (fu + 1) (nI k) h = _; rw [er, if_neg hq]), ?_⟩
      rw [allB_f _ (show sSt M Y i j L b s k = false by simp [sSt, hq]) hk]
      rfl
  · show f_H_sellerStays_l2 (nI b) (nI s) (fu + 1) (nI 5) h = _
    rw [f_H_sellerStays_l2, if_pos (by decide), p]
    rfl
