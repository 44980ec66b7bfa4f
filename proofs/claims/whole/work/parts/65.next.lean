/-! ===== the class's next token ===== -/
def FrL (C D : Nat → Nat → Prop) (R : Nat → Prop) (h h' : AH) : Prop := h'.1 = h.1 ∧ (∀ c k, ¬ C c k → hI h' c k = hI h c k) ∧ (∀ c k, ¬ D c k → hL h' c k = hL h c k) ∧ ∀ c, ¬ R c → hR h' c = hR h c
theorem FrL.rf (C D : Nat → Nat → Prop) (R : Nat → Prop) (h : AH) : FrL C D R h h := ⟨rfl, fun _ _ _ => rfl, fun _ _ _ => rfl, fun _ _ => rfl⟩
theorem FrL.t {C D : Nat → Nat → Prop} {R : Nat → Prop} {h h1 h2 : AH} (f : FrL C D R h h1) (g : FrL C D R h1 h2) : FrL C D R h h2 := ⟨g.1.trans f.1, fun c k q => (g.2.1 c k q).trans (f.2.1 c k q), fun c k q => (g.2.2.1 c k q).trans (f.2.2.1 c k q), fun c q => (g.2.2.2 c q).trans (f.2.2.2 c q)⟩
theorem FrL.mn {C D C' D' : Nat → Nat → Prop} {R R' : Nat → Prop} {h h1 : AH} (f : FrL C D R h h1) (a : ∀ c k, C c k → C' c k) (b : ∀ c k, D c k → D' c k) (d : ∀ c, R c → R' c) : FrL C' D' R' h h1 := ⟨f.1, fun c k q => f.2.1 c k (fun z => q (a c k z)), fun c k q => f.2.2.1 c k (fun z => q (b c k z)), fun c q => f.2.2.2 c (fun z => q (d c z))⟩
theorem FrL.s {C D : Nat → Nat → Prop} {R : Nat → Prop} {h h1 : AH} (f : FrL C D R h h1) {c k : Nat} (hc : C c k) (v : Int32) : FrL C D R h (sI h1 c k v) := ⟨f.1, fun c' k' q => by
  rw [hI_sI, if_neg (fun (e : c' = c ∧ k' = k) => q (by rw [e.1, e.2]; exact hc))]
  exact f.2.1 c' k' q, f.2.2.1, f.2.2.2⟩
theorem FrL.l {C D : Nat → Nat → Prop} {R : Nat → Prop} {h h1 : AH} (f : FrL C D R h h1) {c k : Nat} (hc : D c k) (v : Int64) : FrL C D R h (sL h1 c k v) := ⟨f.1, f.2.1, fun c' k' q => by
  rw [hL_sL, if_neg (fun (e : c' = c ∧ k' = k) => q (by rw [e.1, e.2]; exact hc))]
  exact f.2.2.1 c' k' q, f.2.2.2⟩
abbrev nxC : Nat → Nat → Prop := fun c k => c = 1 ∧ (k = 3 ∨ k = 4 ∨ k = 5 ∨ k = 6 ∨ k = 10 ∨ k = 11)
abbrev nxD : Nat → Nat → Prop := fun c k => c = 1 ∧ k = 7
abbrev nxR : Nat → Prop := fun _ => False
abbrev FrN (h h1 : AH) : Prop := FrL nxC nxD nxR h h1
/-- the tape, as the class has it -/
def CBs (b : Nat → Nat) (L : Nat) (h : AH) : Prop := L ≤ 1600 ∧ hI h 1 9 = nI L ∧ (∀ k, k < L → hI h 2 k = nI (b k)) ∧ ∀ k, k < L → b k < 256
theorem CBs.fr {b : Nat → Nat} {L : Nat} {h h1 : AH} (c : CBs b L h) (f : FrN h h1) : CBs b L h1 := ⟨c.1, by rw [f.2.1 _ _ (by show ¬ (1 = 1 ∧ _); omega)]; exact c.2.1, fun k hk => by rw [f.2.1 _ _ (by show ¬ (2 = 1 ∧ _); omega)]; exact c.2.2.1 k hk, c.2.2.2⟩
/-- the class stands at token t (a bad one is a fault already) -/
def RC (b : Nat → Nat) (L : Nat) (h : AH) (t : LT) : Prop := CBs b L h ∧ hI h 1 5 = nI (tP t) ∧ tP t ≤ L ∧ hI h 1 4 = nI (tC t) ∧ (tC t = 3 → hI h 1 10 = 1 ∧ hI h 1 11 = nI (tP t)) ∧ (¬ tC t = 3 → hI h 1 10 = 0 ∧ hI h 1 11 = -1 ∧ hI h 1 3 = nI (tX t) ∧ tX t ≤ L ∧ (tC t = 1 → hI h 1 6 = nI (tN t)) ∧ (tC t = 2 → hL h 1 7 = Int64.ofNat (c5 (tW t))))
theorem isL_e {x : Nat} (hx : x < 1000) (h : AH) : f_Reader_isLetter (nI x) h = some (if isLN x = true then 1 else 0, h) := by
  rw [f_Reader_isLetter]
  unfold isLN
  by_cases h1 : 97 ≤ x
  · rw [if_neg (show ¬ nI x < 97 from n_nlt (b := 97) h1 (by omega))]
    by_cases h2 : x ≤ 122
    · rw [if_neg (show ¬ (122 : Int32) < nI x from n_nlt (a := 122) h2 (by omega)), if_pos (by simp [h1, h2])]
    · rw [if_pos (show (122 : Int32) < nI x from n_lt (a := 122) (by omega) (by omega)), if_neg (by simp; omega)]
  · rw [if_pos (show nI x < 97 from n_lt (b := 97) (by omega) (by omega)), if_neg (by simp; omega)]
theorem isD_e {x : Nat} (hx : x < 1000) (h : AH) : f_Reader_isDigit (nI x) h = some (if isDN x = true then 1 else 0, h) := by
  rw [f_Reader_isDigit]
  unfold isDN
  by_cases h1 : 48 ≤ x
  · rw [if_neg (show ¬ nI x < 48 from n_nlt (b := 48) h1 (by omega))]
    by_cases h2 : x ≤ 57
    · rw [if_neg (show ¬ (57 : Int32) < nI x from n_nlt (a := 57) h2 (by omega)), if_pos (by simp [h1, h2])]
    · rw [if_pos (show (57 : Int32) < nI x from n_lt (a := 57) (by omega) (by omega)), if_neg (by simp; omega)]
  · rw [if_pos (show nI x < 48 from n_lt (b := 48) (by omega) (by omega)), if_neg (by simp; omega)]
theorem isB_e {x : Nat} (hx : x < 1000) (h : AH) : f_Reader_isBlank (nI x) h = some (if isBN x = true then 1 else 0, h) := by
  have e : ∀ k, k < 1000 → (nI x = nI k ↔ x = k) := fun k hk => n_eqv hx hk
  rw [f_Reader_isBlank]
  unfold isBN
  by_cases h1 : x = 32
  · rw [if_pos (show nI x = 32 from (e 32 (by omega)).mpr h1), if_pos (by simp [h1])]
  · rw [if_neg (show ¬ nI x = 32 from fun q => h1 ((e 32 (by omega)).mp q))]
    by_cases h2 : x = 10
    · rw [if_neg (show ¬ ¬ nI x = 10 from fun q => q ((e 10 (by omega)).mpr h2)), if_pos (by simp [h2])]
    · rw [if_pos (show ¬ nI x = 10 from fun q => h2 ((e 10 (by omega)).mp q)), if_neg (by simp [h1, h2])]
theorem isS_e {x : Nat} (hx : x < 256) (h : AH) : f_Reader_isSign (nI x) h = some (if isSN x = true then 1 else 0, h) := by
  have k : ∀ x : Fin 256, (if nI x.val = 37 then (1 : Int32) else if nI x.val = 40 then 1 else if nI x.val = 41 then 1 else if nI x.val = 42 then 1 else if nI x.val = 43 then 1 else if nI x.val = 45 then 1 else if nI x.val = 47 then 1 else if nI x.val = 59 then 1 else if nI x.val = 60 then 1 else if nI x.val = 61 then 1 else if nI x.val = 62 then 1 else 0) = if isSN x.val = true then 1 else 0 := by decide +kernel
  have := k ⟨x, hx⟩
  simp only at this
  rw [← this, f_Reader_isSign]
  repeat' split
  all_goals rfl
theorem fail_ok {b : Nat → Nat} {L : Nat} {h : AH} {t : LT} (c : CBs b L h) (h0 : hI h 1 10 = 0) (hp : hI h 1 5 = nI (tP t)) (hl : tP t ≤ L) (e : tC t = 3) : ∃ h1, f_Reader_fail 1 h = some h1 ∧ FrN h h1 ∧ RC b L h1 t := by
  rw [f_Reader_fail, h0, if_neg (fun q => q rfl), lt_e, lt_e, lt_e]
  have v5 : hI (sI h 1 10 1) 1 5 = nI (tP t) := by rw [hI_sI, if_neg (by decide)]; exact hp
  rw [v5]
  have f : FrN h (sI (sI (sI h 1 10 1) 1 11 (nI (tP t))) 1 4 3) := (((FrL.rf _ _ _ h).s (c := 1) (k := 10) (by show _ ∧ _; omega) 1).s (c := 1) (k := 11) (by show _ ∧ _; omega) (nI (tP t))).s (c := 1) (k := 4) (by show _ ∧ _; omega) 3
  refine ⟨_, rfl, f, c.fr f, ?_, hl, ?_, fun _ => ⟨?_, ?_⟩, fun q => absurd e q⟩
  · rw [hI_sI, if_neg (by decide), hI_sI, if_neg (by decide)]; exact v5
  · rw [hI_sI_s, e]; rfl
  · rw [hI_sI, if_neg (by decide), hI_sI, if_neg (by decide), hI_sI_s]
  · rw [hI_sI, if_neg (by decide), hI_sI_s]
theorem blank_l {b : Nat → Nat} {L : Nat} : ∀ (m p fu : Nat) (h : AH), L - p = m → p ≤ L → m < fu → CBs b L h → hI h 1 3 = nI p → ∃ h1, f_Reader_next_l8 fu h = f_Reader_next_b47 h1 ∧ FrN h h1 ∧ hI h1 1 3 = nI (rn (fun k => isBN (b k)) L m p) ∧ hI h1 1 10 = hI h 1 10 ∧ hI h1 1 11 = hI h 1 11 := by
  intro m
  induction m with
  | zero =>
    intro p fu h hm hp hf c h3
    obtain ⟨fu, rfl⟩ : ∃ q, fu = q + 1 := ⟨fu - 1, by omega⟩
    have c1 := c.1
    rw [f_Reader_next_l8, c.2.1, h3, if_pos (nI_le (by omega) (by omega))]
    exact ⟨h, rfl, FrL.rf _ _ _ _, h3, rfl, rfl⟩
  | succ m ih =>
    intro p fu h hm hp hf c h3
    obtain ⟨fu, rfl⟩ : ∃ q, fu = q + 1 := ⟨fu - 1, by omega⟩
    have c1 := c.1
    have bp := c.2.2.2 p (by omega)
    rw [f_Reader_next_l8, c.2.1, h3, if_neg (nI_ge (by omega) (by omega)), gx_n _ (show p < 1600 by omega) (by omega), ix_n (show p < 2 ^ 31 by omega), c.2.2.1 p (by omega), isB_e (by omega), bI_s, rn]
    by_cases hb : isBN (b p) = true
    · rw [if_pos hb, if_neg (by decide), if_pos ⟨by omega, hb⟩, lt_e, h3, nI_1]
      have f : FrN h (sI h 1 3 (nI (p + 1))) := (FrL.rf _ _ _ h).s (c := 1) (k := 3) (by show _ ∧ _; omega) _
      obtain ⟨h1, e1, f1, g1, g2, g3⟩ := ih (p + 1) fu (sI h 1 3 (nI (p + 1))) (by omega) (by omega) (by omega) (c.fr f) (hI_sI_s _ _ _ _)
      exact ⟨h1, e1, f.t f1, g1, by rw [g2, hI_sI, if_neg (by decide)], by rw [g3, hI_sI, if_neg (by decide)]⟩
    · rw [if_neg hb, if_pos rfl, if_neg (fun q => hb q.2)]
      exact ⟨h, rfl, FrL.rf _ _ _ _, h3, rfl, rfl⟩
theorem word_l {b : Nat → Nat} {L q : Nat} : ∀ (m p fu : Nat) (h : AH), L - p = m → q ≤ p → p ≤ L → m < fu → CBs b L h → hI h 1 3 = nI p → (p - q ≤ 8 → hL h 1 7 = Int64.ofNat (c5 (wl b q (p - q)))) → (∀ k, q ≤ k → k < p → isLN (b k) = true) → ∃ h1, f_Reader_readWord_l5 fu h = f_Reader_readWord_b70 h1 ∧ FrN h h1 ∧ hI h1 1 3 = nI (rn (fun k => isLN (b k)) L m p) ∧ (rn (fun k => isLN (b k)) L m p - q ≤ 8 → hL h1 1 7 = Int64.ofNat (c5 (wl b q (rn (fun k => isLN (b k)) L m p - q)))) ∧ hI h1 1 10 = hI h 1 10 ∧ hI h1 1 11 = hI h 1 11 ∧ hI h1 1 5 = hI h 1 5 := by
  intro m
  induction m with
  | zero =>
    intro p fu h hm hq hp hf c h3 hw hl
    obtain ⟨fu, rfl⟩ : ∃ q, fu = q + 1 := ⟨fu - 1, by omega⟩
    have c1 := c.1
    rw [f_Reader_readWord_l5, c.2.1, h3, if_pos (nI_le (by omega) (by omega))]
    exact ⟨h, rfl, FrL.rf _ _ _ _, h3, hw, rfl, rfl, rfl⟩
  | succ m ih =>
    intro p fu h hm hq hp hf c h3 hw hl
    obtain ⟨fu, rfl⟩ : ∃ q, fu = q + 1 := ⟨fu - 1, by omega⟩
    have c1 := c.1
    have bp := c.2.2.2 p (by omega)
    have gp : ∀ K : Option AH, gx (nI p) 1600 K = K := fun K => gx_n K (by omega) (by omega)
    rw [f_Reader_readWord_l5, c.2.1, h3, if_neg (nI_ge (by omega) (by omega)), gp, ix_n (show p < 2 ^ 31 by omega), c.2.2.1 p (by omega), isL_e (by omega), bI_s, rn]
    by_cases hb : isLN (b p) = true
    · have hb2 : 97 ≤ b p ∧ b p ≤ 122 := by unfold isLN at hb; simpa using hb
      rw [if_pos hb, if_neg (by decide), if_pos ⟨by omega, hb⟩, h3, gp, ix_n (show p < 2 ^ 31 by omega), c.2.2.1 p (by omega), lt_e, lt_e]
      have ev : nI (b p) - 97 + 1 = nI (b p - 96) := by
        rw [show nI (b p) - 97 = nI (b p - 97) from n_sb (b := 97) hb2.1 (by omega), nI_1, show b p - 97 + 1 = b p - 96 by omega]
      rw [ev]
      show ∃ h1, f_Reader_readWord_l5 fu (sI (sL h 1 7 _) 1 3 (hI h 1 3 + 1)) = _ ∧ _
      rw [h3, nI_1]
      have f : FrN h (sI (sL h 1 7 (lshl (hL h 1 7) 5 ||| Int32.toInt64 (nI (b p - 96)))) 1 3 (nI (p + 1))) := ((FrL.rf _ _ _ h).l (c := 1) (k := 7) ⟨rfl, rfl⟩ _).s (c := 1) (k := 3) (by show _ ∧ _; omega) _
      have hw' : p + 1 - q ≤ 8 → hL (sI (sL h 1 7 (lshl (hL h 1 7) 5 ||| Int32.toInt64 (nI (b p - 96)))) 1 3 (nI (p + 1))) 1 7 = Int64.ofNat (c5 (wl b q (p + 1 - q))) := fun h8 => by
        show hL (sL h 1 7 (lshl (hL h 1 7) 5 ||| Int32.toInt64 (nI (b p - 96)))) 1 7 = _
        rw [hL_sL, if_pos ⟨rfl, rfl⟩, hw (by omega), show p + 1 - q = p - q + 1 by omega, wl, c5_s, show q + (p - q) = p by omega]
        have lt5 := c5_b (wl b q (p - q)) (wl_ltr b q _ (fun k h1 h2 => hl k h1 (by omega)))
        rw [wl_len] at lt5
        have p8 : 32 ^ (p - q) ≤ 32 ^ 8 := Nat.pow_le_pow_right (by omega) (by omega)
        have p8' : 32 ^ 8 = 1099511627776 := by decide
        exact l64_s (a := c5 (wl b q (p - q))) (b := b p - 96) 5 (Or.inl rfl) (by omega) (by omega)
      obtain ⟨h1, e1, f1, g1, g2, g3, g4, g5⟩ := ih (p + 1) fu _ (by omega) (by omega) (by omega) (by omega) (c.fr f) (hI_sI_s _ _ _ _) hw' (fun k h1 h2 => by
        by_cases e : k = p
        · rw [e]; exact hb
        · exact hl k h1 (by omega))
      exact ⟨h1, e1, f.t f1, g1, g2, by rw [g3, hI_sI, if_neg (by decide)]; rfl, by rw [g4, hI_sI, if_neg (by decide)]; rfl, by rw [g5, hI_sI, if_neg (by decide)]; rfl⟩
    · rw [if_neg hb, if_pos rfl, if_neg (fun q => hb q.2)]
      exact ⟨h, rfl, FrL.rf _ _ _ _, h3, hw, rfl, rfl, rfl⟩
theorem num_l {b : Nat → Nat} {L q : Nat} : ∀ (m p fu : Nat) (h : AH), L - p = m → q ≤ p → p ≤ L → m < fu → CBs b L h → hI h 1 3 = nI p → (p - q ≤ 4 → hI h 1 6 = nI (nm b q (p - q)) ∧ nm b q (p - q) < 10 ^ (p - q)) → ∃ h1, f_Reader_readNumber_l5 fu h = f_Reader_readNumber_b68 h1 ∧ FrN h h1 ∧ hI h1 1 3 = nI (rn (fun k => isDN (b k)) L m p) ∧ (rn (fun k => isDN (b k)) L m p - q ≤ 4 → hI h1 1 6 = nI (nm b q (rn (fun k => isDN (b k)) L m p - q)) ∧ nm b q (rn (fun k => isDN (b k)) L m p - q) < 10 ^ (rn (fun k => isDN (b k)) L m p - q)) ∧ hI h1 1 10 = hI h 1 10 ∧ hI h1 1 11 = hI h 1 11 ∧ hI h1 1 5 = hI h 1 5 := by
  intro m
  induction m with
  | zero =>
    intro p fu h hm hq hp hf c h3 hw
    obtain ⟨fu, rfl⟩ : ∃ q, fu = q + 1 := ⟨fu - 1, by omega⟩
    have c1 := c.1
    rw [f_Reader_readNumber_l5, c.2.1, h3, if_pos (nI_le (by omega) (by omega))]
    exact ⟨h, rfl, FrL.rf _ _ _ _, h3, hw, rfl, rfl, rfl⟩
  | succ m ih =>
    intro p fu h hm hq hp hf c h3 hw
    obtain ⟨fu, rfl⟩ : ∃ q, fu = q + 1 := ⟨fu - 1, by omega⟩
    have c1 := c.1
    have bp := c.2.2.2 p (by omega)
    have gp : ∀ K : Option AH, gx (nI p) 1600 K = K := fun K => gx_n K (by omega) (by omega)
    rw [f_Reader_readNumber_l5, c.2.1, h3, if_neg (nI_ge (by omega) (by omega)), gp, ix_n (show p < 2 ^ 31 by omega), c.2.2.1 p (by omega), isD_e (by omega), bI_s, rn]
    by_cases hb : isDN (b p) = true
    · have hb2 : 48 ≤ b p ∧ b p ≤ 57 := by unfold isDN at hb; simpa using hb
      rw [if_pos hb, if_neg (by decide), if_pos ⟨by omega, hb⟩, h3, gp, ix_n (show p < 2 ^ 31 by omega), c.2.2.1 p (by omega), lt_e, lt_e, show hI (sI h 1 6 (hI h 1 6 * 10 + nI (b p) - 48)) 1 3 = nI p by rw [hI_sI, if_neg (by decide)]; exact h3, nI_1]
      have f : FrN h (sI (sI h 1 6 (hI h 1 6 * 10 + nI (b p) - 48)) 1 3 (nI (p + 1))) := ((FrL.rf _ _ _ h).s (c := 1) (k := 6) (by show _ ∧ _; omega) _).s (c := 1) (k := 3) (by show _ ∧ _; omega) _
      have hw' : p + 1 - q ≤ 4 → hI (sI (sI h 1 6 (hI h 1 6 * 10 + nI (b p) - 48)) 1 3 (nI (p + 1))) 1 6 = nI (nm b q (p + 1 - q)) ∧ nm b q (p + 1 - q) < 10 ^ (p + 1 - q) := fun h8 => by
        obtain ⟨w1, w2⟩ := hw (by omega)
        have p8 : 10 ^ (p - q) ≤ 10 ^ 4 := Nat.pow_le_pow_right (by omega) (by omega)
        have p8' : 10 ^ 4 = 10000 := by decide
        rw [hI_sI, if_neg (by decide), hI_sI_s, w1, show p + 1 - q = p - q + 1 by omega, nm, show q + (p - q) = p by omega]
        refine ⟨?_, ?_⟩
        · rw [show nI (nm b q (p - q)) * 10 = nI (nm b q (p - q) * 10) from n_ml (b := 10) (by omega) (by omega) (by omega), n_add, show nI (nm b q (p - q) * 10 + b p) - 48 = nI (nm b q (p - q) * 10 + b p - 48) from n_sb (b := 48) (by omega) (by omega), show nm b q (p - q) * 10 + b p - 48 = nm b q (p - q) * 10 + (b p - 48) by omega]
        · rw [Nat.pow_succ]; omega
      obtain ⟨h1, e1, f1, g1, g2, g3, g4, g5⟩ := ih (p + 1) fu _ (by omega) (by omega) (by omega) (by omega) (c.fr f) (hI_sI_s _ _ _ _) hw'
      exact ⟨h1, e1, f.t f1, g1, g2, by rw [g3, hI_sI, if_neg (by decide), hI_sI, if_neg (by decide)], by rw [g4, hI_sI, if_neg (by decide), hI_sI, if_neg (by decide)], by rw [g5, hI_sI, if_neg (by decide), hI_sI, if_neg (by decide)]⟩
    · rw [if_neg hb, if_pos rfl, if_neg (fun q => hb q.2)]
      exact ⟨h, rfl, FrL.rf _ _ _ _, h3, hw, rfl, rfl, rfl⟩
