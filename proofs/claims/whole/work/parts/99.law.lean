/-! ===== the law ===== -/
def S0 : SS := (((0, fun _ => 0, fun _ => 0, fun _ => 0), (0, fun _ => 0, fun _ => 0), (0, fun _ => 0, fun _ => 0), 0, 1, 3), (fun _ => 0), 3, (fun _ _ => 0), 0, 0, (0, fun _ => 0, fun _ => 0, fun _ => 0, fun _ => 0, fun _ => 0, 0), (fun _ => none), (fun _ => 0), 0, 0, (fun _ => 0), 0, (-1), 0, 0)
theorem WF0 : WFc (0, fun _ => 0, fun _ => 0) := ⟨Nat.zero_le _, fun k hk => absurd hk (Nat.not_lt_zero _), fun h => absurd h (Nat.lt_irrefl _)⟩
theorem inv0 {h : AH} (c : chC h) (m : chM h) : INV 0 S0 h := by
  obtain ⟨c1, c2, ⟨c3, c4, c5, c6, c7, c8⟩, ⟨c9, c10, c11, c12⟩, ⟨c13, c14⟩, c15, ⟨c16, c17, c18⟩, ⟨c19, c20, c21⟩, c22, ⟨c23, c24, c25⟩, c26⟩ := c
  obtain ⟨⟨m1, m2, m3, m4, m5, m6⟩, m7, ⟨m8, m9⟩, ⟨m10, m11⟩, m12, m13, ⟨m14, m15⟩, ⟨m16, m17⟩, m18⟩ := m
  have no : ∀ {P : Prop} {k : Nat}, k < 0 → P := fun z => absurd z (Nat.not_lt_zero _)
  refine ⟨⟨⟨⟨Or.inl rfl, c1, ⟨⟨c3, Nat.zero_le _, fun i hi => no hi⟩, ⟨⟨c4, fun k hk => no hk⟩, WF0⟩, ⟨⟨c5, fun k hk => no hk⟩, WF0⟩, c6, c7, c8⟩, ⟨fun i hi => no hi, c9, c10, c11, c12⟩⟩, c13, c14, Nat.zero_le _, fun i => i, fun i hi => ⟨hi, c15 i hi⟩, fun i j _ _ e => e, fun i hi => no hi, fun i _ hi => no hi, fun z => absurd z (Nat.lt_irrefl _)⟩, ⟨⟨c24, c25, fun j hj => no hj⟩, fun b hb => ⟨(c26 b hb).1, (c26 b hb).2, fun Z z => (by cases z)⟩, ⟨c16, fun k hk => no hk⟩, ⟨c17, c18⟩, c2, c19, ?_⟩, ⟨c22, Nat.zero_le _, fun i hi => no hi⟩, Or.inl c23⟩, ⟨⟨⟨⟨⟨m1, Nat.zero_le _, fun i hi => no hi⟩, ⟨⟨m2, fun k hk => no hk⟩, WF0⟩, ⟨⟨m3, fun k hk => no hk⟩, WF0⟩, m4, m5, m6⟩, m7⟩, ⟨m8, m9, fun i k hi _ => no hi⟩, Nat.zero_le _⟩, ⟨⟨m10, m11, fun j hj => no hj⟩, fun b hb => ⟨m12 b hb, fun Z z => (by cases z)⟩, ⟨m13, fun k hk => no hk⟩, ⟨m14, m15⟩, m16, m17⟩, ⟨m18, Nat.zero_le _, fun i hi => no hi⟩⟩, ⟨⟨fun i hi => no hi, ⟨by decide, by decide⟩, ⟨by decide, by decide⟩, fun i hi => no hi⟩, fun i hi => no hi, fun b _ Z z => (by cases z), ⟨by decide, by decide⟩, ⟨3, rfl, by omega, by omega⟩, fun i hi => no hi, ⟨Nat.zero_le _, fun j hj => no hj, by decide, by decide⟩, ⟨Nat.zero_le _, fun k hk => no hk⟩, Nat.zero_le _⟩⟩
  show hI h 12 4 + hI h 16 4 = 0
  rw [c20, c21]; rfl
theorem law_f {k : Nat} {h : AH} {fH fM : AH → Option (Int32 × AH)} (b : Both k fH fM h) (G : AH → Option (Int32 × AH)) (ih : ∀ S' h2, INV (k + 1) S' h2 → ∃ h', G h2 = some (1, h')) : ∃ h', (bI (fH h) fun r hq => bI (fM hq) fun r' hq' => if r = r' then G hq' else some ((0 : Int32), hq')) = some (1, h') := by
  obtain ⟨r, h1, h2, S', e1, e2, i1, i2, i3⟩ := b
  rw [e1, bI_s, e2, bI_s, if_pos rfl]
  exact ih S' h2 ⟨i1, i2, i3⟩
theorem law_l {L : Nat} (xs : Nat → Int32) (hL : L ≤ 3072) : ∀ (m p k fu : Nat) (S : SS) (h : AH), L < p + 6 * m + 6 → p ≤ L + 6 → m < fu → k + m ≤ 1000 → INV k S h → ∃ h', f_Law_law_l18 L xs fu (nI p) h = some (1, h') := by
  intro m
  induction m with
  | zero =>
    intro p k fu S h hm hp hf hk i
    obtain ⟨n, rfl⟩ : ∃ n, fu = n + 1 := ⟨fu - 1, by omega⟩
    have a1 : (nI L - 6).toInt = (L : Int) - 6 := by
      rw [i_sub (by rw [i_nI (by omega)]; show _ ≤ _ - (6 : Int); omega) (by rw [i_nI (by omega)]; show _ - (6 : Int) ≤ _; omega), i_nI (by omega)]; rfl
    rw [f_Law_law_l18, if_pos (i_lt.mpr (by rw [a1, i_nI (by omega)]; omega))]
    exact ⟨h, rfl⟩
  | succ m ih =>
    intro p k fu S h hm hp hf hk i
    obtain ⟨n, rfl⟩ : ∃ n, fu = n + 1 := ⟨fu - 1, by omega⟩
    have a1 : (nI L - 6).toInt = (L : Int) - 6 := by
      rw [i_sub (by rw [i_nI (by omega)]; show _ ≤ _ - (6 : Int); omega) (by rw [i_nI (by omega)]; show _ - (6 : Int) ≤ _; omega), i_nI (by omega)]; rfl
    rw [f_Law_law_l18]
    by_cases st : nI L - 6 < nI p
    · rw [if_pos st]; exact ⟨h, rfl⟩
    rw [if_neg st]
    have lp : p + 6 ≤ L := by
      have q : ¬ (nI L - 6).toInt < (nI p).toInt := fun z => st (i_lt.mpr z)
      rw [a1, i_nI (by omega)] at q
      omega
    have G0 : ∀ K : Option (Int32 × AH), gx (nI p) L K = K := fun K => gx_n K (by omega) (by omega)
    have e1 : nI p + 1 = nI (p + 1) := n_add p 1
    have e2 : nI p + 2 = nI (p + 2) := n_add p 2
    have e3 : nI p + 3 = nI (p + 3) := n_add p 3
    have e4 : nI p + 4 = nI (p + 4) := n_add p 4
    have e5 : nI p + 5 = nI (p + 5) := n_add p 5
    have e6 : nI p + 6 = nI (p + 6) := n_add p 6
    have G1 : ∀ K : Option (Int32 × AH), gx (nI p + 1) L K = K := fun K => by rw [e1]; exact gx_n K (by omega) (by omega)
    have G2 : ∀ K : Option (Int32 × AH), gx (nI p + 2) L K = K := fun K => by rw [e2]; exact gx_n K (by omega) (by omega)
    have G3 : ∀ K : Option (Int32 × AH), gx (nI p + 3) L K = K := fun K => by rw [e3]; exact gx_n K (by omega) (by omega)
    have G4 : ∀ K : Option (Int32 × AH), gx (nI p + 4) L K = K := fun K => by rw [e4]; exact gx_n K (by omega) (by omega)
    have G5 : ∀ K : Option (Int32 × AH), gx (nI p + 5) L K = K := fun K => by rw [e5]; exact gx_n K (by omega) (by omega)
    have GO : ∀ S' h2, INV (k + 1) S' h2 → ∃ h', f_Law_law_l18 L xs n (nI p + 6) h2 = some (1, h') := fun S' h2 i2 => by
      rw [e6]
      exact ih (p + 6) (k + 1) n S' h2 (by omega) (by omega) (by omega) (by omega) i2
    have hk1 : k ≤ 1000 := by omega
    rw [G0]
    by_cases c0 : xs (ix (nI p)) &&& 63 = 0
    · rw [if_pos c0]
      simp only [G1, G2, G3, G4, G5, lt]
      exact law_f (both_feed i _ _ _ _ _) (fun q => f_Law_law_l18 L xs n (nI p + 6) q) GO
    rw [if_neg c0]
    by_cases c1 : xs (ix (nI p)) &&& 63 = 1
    · rw [if_pos c1]
      simp only [G1, lt]
      exact law_f (both_end i _) (fun q => f_Law_law_l18 L xs n (nI p + 6) q) GO
    rw [if_neg c1]
    by_cases c2 : xs (ix (nI p)) &&& 63 = 2
    · rw [if_pos c2]
      simp only [lt]
      exact law_f (both_market i) (fun q => f_Law_law_l18 L xs n (nI p + 6) q) GO
    rw [if_neg c2]
    by_cases c3 : xs (ix (nI p)) &&& 63 = 3
    · rw [if_pos c3]
      simp only [G1, lt]
      exact law_f (both_fault i _) (fun q => f_Law_law_l18 L xs n (nI p + 6) q) GO
    rw [if_neg c3]
    by_cases c4 : xs (ix (nI p)) &&& 63 = 4
    · rw [if_pos c4]
      simp only [G1, G2, lt]
      exact law_f (both_dealer i _ _) (fun q => f_Law_law_l18 L xs n (nI p + 6) q) GO
    rw [if_neg c4]
    by_cases c5 : xs (ix (nI p)) &&& 63 = 5
    · rw [if_pos c5]
      simp only [lt]
      exact law_f (both_heat i) (fun q => f_Law_law_l18 L xs n (nI p + 6) q) GO
    rw [if_neg c5]
    by_cases c6 : xs (ix (nI p)) &&& 63 = 6
    · rw [if_pos c6]
      simp only [G1, G2, lt]
      exact law_f (both_price i _ _) (fun q => f_Law_law_l18 L xs n (nI p + 6) q) GO
    rw [if_neg c6]
    by_cases c7 : xs (ix (nI p)) &&& 63 = 7
    · rw [if_pos c7]
      simp only [G1, lt]
      exact law_f (both_cheapest i _) (fun q => f_Law_law_l18 L xs n (nI p + 6) q) GO
    rw [if_neg c7]
    by_cases c8 : xs (ix (nI p)) &&& 63 = 8
    · rw [if_pos c8]
      simp only [lt]
      exact law_f (both_chorus i) (fun q => f_Law_law_l18 L xs n (nI p + 6) q) GO
    rw [if_neg c8]
    by_cases c9 : xs (ix (nI p)) &&& 63 = 9
    · rw [if_pos c9]
      simp only [G1, lt]
      exact law_f (both_lasts i _) (fun q => f_Law_law_l18 L xs n (nI p + 6) q) GO
    rw [if_neg c9]
    by_cases c10 : xs (ix (nI p)) &&& 63 = 10
    · rw [if_pos c10]
      simp only [G1, G2, G3, lt]
      exact law_f (both_buy hk1 i _ _ _) (fun q => f_Law_law_l18 L xs n (nI p + 6) q) GO
    rw [if_neg c10]
    by_cases c11 : xs (ix (nI p)) &&& 63 = 11
    · rw [if_pos c11]
      simp only [G1, G2, lt]
      exact law_f (both_breathe hk1 i _ _) (fun q => f_Law_law_l18 L xs n (nI p + 6) q) GO
    rw [if_neg c11]
    by_cases c12 : xs (ix (nI p)) &&& 63 = 12
    · rw [if_pos c12]
      simp only [G1, lt]
      exact law_f (both_free hk1 i _) (fun q => f_Law_law_l18 L xs n (nI p + 6) q) GO
    rw [if_neg c12]
    by_cases c13 : xs (ix (nI p)) &&& 63 = 13
    · rw [if_pos c13]
      simp only [lt]
      exact law_f (both_hour hk1 i) (fun q => f_Law_law_l18 L xs n (nI p + 6) q) GO
    rw [if_neg c13]
    by_cases c14 : xs (ix (nI p)) &&& 63 = 14
    · rw [if_pos c14]
      simp only [lt]
      exact law_f (both_undo i) (fun q => f_Law_law_l18 L xs n (nI p + 6) q) GO
    rw [if_neg c14]
    by_cases c15 : xs (ix (nI p)) &&& 63 = 15
    · rw [if_pos c15]
      simp only [lt]
      exact law_f (both_redo i) (fun q => f_Law_law_l18 L xs n (nI p + 6) q) GO
    rw [if_neg c15]
    by_cases c16 : xs (ix (nI p)) &&& 63 = 16
    · rw [if_pos c16]
      simp only [G1, G2, G3, lt]
      exact law_f (both_will i _ _ _) (fun q => f_Law_law_l18 L xs n (nI p + 6) q) GO
    rw [if_neg c16]
    by_cases c17 : xs (ix (nI p)) &&& 63 = 17
    · rw [if_pos c17]
      simp only [G1, G2, G3, lt]
      exact law_f (both_low i _ _ _) (fun q => f_Law_law_l18 L xs n (nI p + 6) q) GO
    rw [if_neg c17]
    by_cases c18 : xs (ix (nI p)) &&& 63 = 18
    · rw [if_pos c18]
      simp only [G1, G2, G3, lt]
      exact law_f (both_high i _ _ _) (fun q => f_Law_law_l18 L xs n (nI p + 6) q) GO
    rw [if_neg c18]
    by_cases c19 : xs (ix (nI p)) &&& 63 = 19
    · rw [if_pos c19]
      simp only [G1, G2, G3, G4, lt]
      exact law_f (both_plan i _ _ _ _) (fun q => f_Law_law_l18 L xs n (nI p + 6) q) GO
    rw [if_neg c19]
    by_cases c20 : xs (ix (nI p)) &&& 63 = 20
    · rw [if_pos c20]
      simp only [G1, lt]
      exact law_f (both_gain i _) (fun q => f_Law_law_l18 L xs n (nI p + 6) q) GO
    rw [if_neg c20]
    by_cases c21 : xs (ix (nI p)) &&& 63 = 21
    · rw [if_pos c21]
      simp only [G1, lt]
      exact law_f (both_clear i _) (fun q => f_Law_law_l18 L xs n (nI p + 6) q) GO
    rw [if_neg c21]
    by_cases c22 : xs (ix (nI p)) &&& 63 = 22
    · rw [if_pos c22]
      simp only [G1, lt]
      exact law_f (both_spoils i _) (fun q => f_Law_law_l18 L xs n (nI p + 6) q) GO
    rw [if_neg c22]
    by_cases c23 : xs (ix (nI p)) &&& 63 = 23
    · rw [if_pos c23]
      simp only [G1, lt]
      exact law_f (both_starve i _) (fun q => f_Law_law_l18 L xs n (nI p + 6) q) GO
    rw [if_neg c23]
    by_cases c24 : xs (ix (nI p)) &&& 63 = 24
    · rw [if_pos c24]
      simp only [G1, lt]
      exact law_f (both_hush i _) (fun q => f_Law_law_l18 L xs n (nI p + 6) q) GO
    rw [if_neg c24]
    by_cases c25 : xs (ix (nI p)) &&& 63 = 25
    · rw [if_pos c25]
      simp only [G1, G2, G3, G4, lt]
      exact law_f (both_mean i _ _ _ _) (fun q => f_Law_law_l18 L xs n (nI p + 6) q) GO
    rw [if_neg c25]
    by_cases c26 : xs (ix (nI p)) &&& 63 = 26
    · rw [if_pos c26]
      simp only [G1, G2, G3, lt]
      exact law_f (both_rest i _ _ _) (fun q => f_Law_law_l18 L xs n (nI p + 6) q) GO
    rw [if_neg c26]
    by_cases c27 : xs (ix (nI p)) &&& 63 = 27
    · rw [if_pos c27]
      simp only [G1, G2, G3, G4, G5, lt]
      exact law_f (both_odds i _ _ _ _ _) (fun q => f_Law_law_l18 L xs n (nI p + 6) q) GO
    rw [if_neg c27]
    by_cases c28 : xs (ix (nI p)) &&& 63 = 28
    · rw [if_pos c28]
      simp only [G1, lt]
      exact law_f (both_law i _) (fun q => f_Law_law_l18 L xs n (nI p + 6) q) GO
    rw [if_neg c28]
    by_cases c29 : xs (ix (nI p)) &&& 63 = 29
    · rw [if_pos c29]
      simp only [G1, lt]
      exact law_f (both_song i _) (fun q => f_Law_law_l18 L xs n (nI p + 6) q) GO
    rw [if_neg c29]
    by_cases c30 : xs (ix (nI p)) &&& 63 = 30
    · rw [if_pos c30]
      simp only [G1, lt]
      exact law_f (both_songs i _) (fun q => f_Law_law_l18 L xs n (nI p + 6) q) GO
    rw [if_neg c30]
    by_cases c31 : xs (ix (nI p)) &&& 63 = 31
    · rw [if_pos c31]
      simp only [G1, lt]
      exact law_f (both_lies i _) (fun q => f_Law_law_l18 L xs n (nI p + 6) q) GO
    rw [if_neg c31]
    by_cases c32 : xs (ix (nI p)) &&& 63 = 32
    · rw [if_pos c32]
      simp only [G1, G2, G3, f_Law_law_b1182, f_Law_law_b1209, lt]
      by_cases z : xs (ix (nI p + 3)) = 0
      · simp only [if_pos z]
        exact law_f (both_heard i _ _ 0 (by decide)) (fun q => f_Law_law_l18 L xs n (nI p + 6) q) GO
      · simp only [if_neg z]
        exact law_f (both_heard i _ _ 1 (by decide)) (fun q => f_Law_law_l18 L xs n (nI p + 6) q) GO
    rw [if_neg c32]
    by_cases c33 : xs (ix (nI p)) &&& 63 = 33
    · rw [if_pos c33]
      simp only [G1, lt]
      exact law_f (both_untell i _) (fun q => f_Law_law_l18 L xs n (nI p + 6) q) GO
    rw [if_neg c33]
    by_cases c34 : xs (ix (nI p)) &&& 63 = 34
    · rw [if_pos c34]
      simp only [G1, lt]
      exact law_f (both_later i _) (fun q => f_Law_law_l18 L xs n (nI p + 6) q) GO
    rw [if_neg c34]
    by_cases c35 : xs (ix (nI p)) &&& 63 = 35
    · rw [if_pos c35]
      simp only [G1, lt]
      exact law_f (both_fits i _) (fun q => f_Law_law_l18 L xs n (nI p + 6) q) GO
    rw [if_neg c35]
    by_cases c36 : xs (ix (nI p)) &&& 63 = 36
    · rw [if_pos c36]
      simp only [G1, lt]
      exact law_f (both_sure i _) (fun q => f_Law_law_l18 L xs n (nI p + 6) q) GO
    rw [if_neg c36]
    by_cases c37 : xs (ix (nI p)) &&& 63 = 37
    · rw [if_pos c37]
      simp only [G1, G2, G3, lt]
      exact law_f (both_ask i _ _ _) (fun q => f_Law_law_l18 L xs n (nI p + 6) q) GO
    rw [if_neg c37]
    by_cases c38 : xs (ix (nI p)) &&& 63 = 38
    · rw [if_pos c38]
      simp only [G1, lt]
      exact law_f (both_image i _) (fun q => f_Law_law_l18 L xs n (nI p + 6) q) GO
    rw [if_neg c38]
    by_cases c39 : xs (ix (nI p)) &&& 63 = 39
    · rw [if_pos c39]
      simp only [G1, lt]
      exact law_f (both_back i _) (fun q => f_Law_law_l18 L xs n (nI p + 6) q) GO
    rw [if_neg c39]
    by_cases c40 : xs (ix (nI p)) &&& 63 = 40
    · rw [if_pos c40]
      simp only [G1, lt]
      exact law_f (both_about i _) (fun q => f_Law_law_l18 L xs n (nI p + 6) q) GO
    rw [if_neg c40]
    exact GO S h ⟨i.1, i.2.1, i.2.2.s⟩
theorem init_g (A : Option AH) (n : Nat) (Mi : AH → Option AH) (sb : AH → Bool) (K : AH → Option (Int32 × AH)) : (bV A fun h2 => ge (hN h2) n <| bV (Mi h2) fun h4 => gp (sb h4) <| K h4) = bV (bV A fun h2 => ge (hN h2) n <| bV (Mi h2) fun h4 => gp (sb h4) <| some h4) K := by
  cases A with
  | none => rfl
  | some h2 =>
    rw [bV_s, bV_s]
    unfold ge
    by_cases c : hN h2 = n
    · rw [if_pos c, if_pos c]
      cases Mi h2 with
      | none => rfl
      | some h4 =>
        rw [bV_s, bV_s]
        unfold gp
        by_cases d : sb h4 = true
        · rw [if_pos d, if_pos d, bV_s]
        · rw [if_neg d, if_neg d]; rfl
    · rw [if_neg c, if_neg c]; rfl
theorem law_e (L : Nat) (xs : Nat → Int32) : f_Law L xs = bV hIn fun h4 => f_Law_law_l18 L xs FU 0 h4 := by
  unfold f_Law hIn lt
  exact init_g (f_H_init 0 (nC hE (.inr 11))) 383 (fun h2 => f_M_init 383 (nC h2 (.inr 12))) (stdB NN) (fun h4 => f_Law_law_l18 L xs FU 0 h4)
theorem law_one (L : Nat) (xs : Nat → Int32) (hL : L ≤ 3072) : ∃ h', f_Law L xs = some (1, h') := by
  obtain ⟨h, e, c, m⟩ := hIn_ok
  rw [law_e, e, bV_s]
  exact law_l xs hL 513 0 0 FU S0 h (by omega) (by omega) (by show 513 < 1000000; omega) (by omega) (inv0 c m)
