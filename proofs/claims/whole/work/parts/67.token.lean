/-! ===== the reference's next token is lx ===== -/
abbrev tkC : Nat → Nat → Prop := fun c k => c = 383 ∧ (k = 4 ∨ k = 6 ∨ k = 7 ∨ k = 8)
abbrev tkD : Nat → Nat → Prop := fun c k => c = 383 ∧ k = 9
abbrev FrK (h h1 : AH) : Prop := FrL tkC tkD nxR h h1
def MBs (b : Nat → Nat) (L : Nat) (h : AH) : Prop := L ≤ 1600 ∧ hI h 383 5 = nI L ∧ (∀ k, k < L → hI h 384 k = nI (b k)) ∧ ∀ k, k < L → b k < 256
theorem MBs.fr {b : Nat → Nat} {L : Nat} {h h1 : AH} (c : MBs b L h) (f : FrK h h1) : MBs b L h1 := ⟨c.1, by rw [f.2.1 _ _ (by show ¬ (383 = 383 ∧ _); omega)]; exact c.2.1, fun k hk => by rw [f.2.1 _ _ (by show ¬ (384 = 383 ∧ _); omega)]; exact c.2.2.1 k hk, c.2.2.2⟩
def srt (c : Nat) : Nat := if c = 1 then 2 else if c = 2 ∨ 256 ≤ c then 1 else c
/-- the reference stands at token t -/
def RM (b : Nat → Nat) (L : Nat) (h : AH) (t : LT) : Prop := MBs b L h ∧ hI h 383 7 = nI (tP t) ∧ tP t ≤ L ∧ hI h 383 6 = nI (srt (tC t)) ∧ (¬ tC t = 3 → hI h 383 4 = nI (tX t) ∧ tX t ≤ L ∧ (tC t = 1 → hI h 383 8 = nI (tN t)) ∧ (tC t = 2 ∨ 256 ≤ tC t → hL h 383 9 = Int64.ofNat (c8 (tW t))))
theorem here_ok {b : Nat → Nat} {L p : Nat} {h : AH} (c : MBs b L h) (h4 : hI h 383 4 = nI p) (k : Nat) (hk : p + k < 100000) : f_M_here (nI k) h = some (if p + k < L then nI (b (p + k)) else -1, h) := by
  have c1 := c.1
  rw [f_M_here, c.2.1, h4, n_add]
  by_cases hl : p + k < L
  · rw [if_neg (nI_ge hl (by omega)), gx_n _ (show p + k < 1600 by omega) (by omega), ix_n (show p + k < 2 ^ 31 by omega), c.2.2.1 _ hl, if_pos hl]
  · rw [if_pos (nI_le (by omega) (by omega)), if_neg hl]
theorem MisL_e {x : Nat} (hx : x < 1000) (h : AH) : f_M_isLetter (nI x) h = some (if isLN x = true then 1 else 0, h) := by
  rw [f_M_isLetter]
  unfold isLN
  by_cases h1 : 97 ≤ x
  · rw [if_neg (show ¬ nI x < 97 from n_nlt (b := 97) h1 (by omega))]
    by_cases h2 : x ≤ 122
    · rw [if_neg (show ¬ (122 : Int32) < nI x from n_nlt (a := 122) h2 (by omega)), if_pos (by simp [h1, h2])]
    · rw [if_pos (show (122 : Int32) < nI x from n_lt (a := 122) (by omega) (by omega)), if_neg (by simp; omega)]
  · rw [if_pos (show nI x < 97 from n_lt (b := 97) (by omega) (by omega)), if_neg (by simp; omega)]
theorem MisD_e {x : Nat} (hx : x < 1000) (h : AH) : f_M_isDigit (nI x) h = some (if isDN x = true then 1 else 0, h) := by
  rw [f_M_isDigit]
  unfold isDN
  by_cases h1 : 48 ≤ x
  · rw [if_neg (show ¬ nI x < 48 from n_nlt (b := 48) h1 (by omega))]
    by_cases h2 : x ≤ 57
    · rw [if_neg (show ¬ (57 : Int32) < nI x from n_nlt (a := 57) h2 (by omega)), if_pos (by simp [h1, h2])]
    · rw [if_pos (show (57 : Int32) < nI x from n_lt (a := 57) (by omega) (by omega)), if_neg (by simp; omega)]
  · rw [if_pos (show nI x < 48 from n_lt (b := 48) (by omega) (by omega)), if_neg (by simp; omega)]
theorem MisL_m (h : AH) : f_M_isLetter (-1) h = some (0, h) := by rw [f_M_isLetter, if_pos (by decide)]
theorem MisD_m (h : AH) : f_M_isDigit (-1) h = some (0, h) := by rw [f_M_isDigit, if_pos (by decide)]
theorem MisS_e {x : Nat} (hx : x < 256) (h : AH) : f_M_isSign (nI x) h = some (if isSN x = true then 1 else 0, h) := by
  have k : ∀ x : Fin 256, (if nI x.val = 59 then (1 : Int32) else if nI x.val = 40 then 1 else if nI x.val = 41 then 1 else if nI x.val = 60 then 1 else if nI x.val = 62 then 1 else if nI x.val = 61 then 1 else if nI x.val = 43 then 1 else if nI x.val = 45 then 1 else if nI x.val = 42 then 1 else if nI x.val = 47 then 1 else if ¬ nI x.val = 37 then 0 else 1) = if isSN x.val = true then 1 else 0 := by decide +kernel
  have := k ⟨x, hx⟩
  simp only at this
  rw [← this, f_M_isSign]
  repeat' split
  all_goals rfl
theorem n01 : ¬ (0 : Nat) = 1 := by decide
theorem n03 : ¬ (0 : Nat) = 3 := by decide
theorem n23 : ¬ (2 : Nat) = 3 := by decide
theorem n0k : ¬ ((0 : Nat) = 2 ∨ 256 ≤ 0) := by decide
theorem n1k : ¬ ((1 : Nat) = 2 ∨ 256 ≤ 1) := by decide
/-- the start of a token, behind the blanks -/
def tkS (q : Nat) (h : AH) : AH := sI (sL (sI h 383 7 (nI q)) 383 9 0) 383 8 0
def tkK (q : Nat) (L : Nat) (b : Nat → Nat) (h : AH) : Option AH := if q < L then (if isLN (b q) = true then f_M_token_l78 FU 0 h else if isDN (b q) = true then f_M_token_l144 FU 0 h else if isSN (b q) = true then f_M_token_b229 1 (nI (b q)) h else f_M_token_b229 1 3 h) else f_M_token_b232 0 (sI h 383 6 0)
theorem Mblank_l {b : Nat → Nat} {L : Nat} : ∀ (m p fu : Nat) (h : AH), L - p = m → p ≤ L → m < fu → MBs b L h → hI h 383 4 = nI p → ∃ h1, f_M_token_l0 fu h = tkK (rn (fun k => isBN (b k)) L m p) L b (tkS (rn (fun k => isBN (b k)) L m p) h1) ∧ FrK h h1 ∧ hI h1 383 4 = nI (rn (fun k => isBN (b k)) L m p) := by
  have ends : ∀ (p fu : Nat) (h : AH), p ≤ L → MBs b L h → hI h 383 4 = nI p → ¬ (p < L ∧ isBN (b p) = true) → f_M_token_l0 (fu + 1) h = tkK p L b (tkS p h) := fun p fu h hp c h4 hn => by
    have c1 := c.1
    have hh := here_ok c h4 0 (by omega)
    rw [Nat.add_zero] at hh
    have hh' : f_M_here 0 h = some (if p < L then nI (b p) else -1, h) := hh
    have f7 : FrK h (sI h 383 7 (nI p)) := (FrL.rf _ _ _ h).s (c := 383) (k := 7) (by show _ ∧ _; omega) _
    have hh2 := here_ok (c.fr f7) (show hI (sI h 383 7 (nI p)) 383 4 = nI p by rw [hI_sI, if_neg (by decide)]; exact h4) 0 (by omega)
    rw [Nat.add_zero] at hh2
    have hh2' : f_M_here 0 (sI h 383 7 (nI p)) = some (if p < L then nI (b p) else -1, sI h 383 7 (nI p)) := hh2
    have n32 : ¬ (if p < L then nI (b p) else -1) = (32 : Int32) := by
      by_cases hl : p < L
      · rw [if_pos hl]
        have := c.2.2.2 p hl
        exact fun z => hn ⟨hl, by have := (n_eqv (b := 32) (by omega) (by omega)).mp z; rw [this]; rfl⟩
      · rw [if_neg hl]; decide
    have n10 : ¬ (if p < L then nI (b p) else -1) = (10 : Int32) := by
      by_cases hl : p < L
      · rw [if_pos hl]
        have := c.2.2.2 p hl
        exact fun z => hn ⟨hl, by have := (n_eqv (b := 10) (by omega) (by omega)).mp z; rw [this]; rfl⟩
      · rw [if_neg hl]; decide
    rw [f_M_token_l0, hh', bI_s, if_neg n32, hh', bI_s, if_pos n10, h4, lt_e, hh2', bI_s, lt_e, lt_e]
    unfold tkK tkS
    by_cases hl : p < L
    · have bp := c.2.2.2 p hl
      rw [if_pos hl, if_pos hl, if_pos (show (0 : Int32) ≤ nI (b p) from nI_le (a := 0) (by omega) (by omega)), MisL_e (by omega), bI_s]
      by_cases hL' : isLN (b p) = true
      · rw [if_pos hL', if_pos hL', if_neg (by decide)]
      · rw [if_neg hL', if_neg hL', if_pos rfl, MisD_e (by omega), bI_s]
        by_cases hD : isDN (b p) = true
        · rw [if_pos hD, if_pos hD, if_neg (by decide)]
        · rw [if_neg hD, if_neg hD, if_pos rfl, MisS_e bp, bI_s]
          by_cases hS : isSN (b p) = true
          · rw [if_pos hS, if_pos hS, if_neg (by decide)]
          · rw [if_neg hS, if_neg hS, if_pos rfl]
    · rw [if_neg hl, if_neg hl, if_neg (by decide), lt_e]
  intro m
  induction m with
  | zero =>
    intro p fu h hm hp hf c h4
    obtain ⟨fu, rfl⟩ : ∃ q, fu = q + 1 := ⟨fu - 1, by omega⟩
    exact ⟨h, ends p fu h hp c h4 (by omega), FrL.rf _ _ _ _, h4⟩
  | succ m ih =>
    intro p fu h hm hp hf c h4
    obtain ⟨fu, rfl⟩ : ∃ q, fu = q + 1 := ⟨fu - 1, by omega⟩
    rw [rn]
    by_cases hb : p < L ∧ isBN (b p) = true
    · rw [if_pos hb]
      have c1 := c.1
      have bp := c.2.2.2 p hb.1
      have hh := here_ok c h4 0 (by omega)
      rw [Nat.add_zero, if_pos hb.1] at hh
      have hh' : f_M_here 0 h = some (nI (b p), h) := hh
      have f : FrK h (sI h 383 4 (nI (p + 1))) := (FrL.rf _ _ _ h).s (c := 383) (k := 4) (by show _ ∧ _; omega) _
      obtain ⟨h1, e1, f1, g1⟩ := ih (p + 1) fu (sI h 383 4 (nI (p + 1))) (by omega) (by omega) (by omega) (c.fr f) (hI_sI_s _ _ _ _)
      have b20 : f_M_token_b20 (f_M_token_l0 fu) h = f_M_token_l0 fu (sI h 383 4 (nI (p + 1))) := by rw [f_M_token_b20, h4, nI_1, lt_e]
      refine ⟨h1, ?_, f.t f1, g1⟩
      rw [f_M_token_l0, hh', bI_s, hh', bI_s, b20]
      have hb2 : b p = 32 ∨ b p = 10 := by have := hb.2; unfold isBN at this; simpa using this
      rcases hb2 with q | q
      · rw [if_pos (show nI (b p) = 32 by rw [q]; rfl)]; exact e1
      · rw [if_neg (show ¬ nI (b p) = 32 by rw [q]; decide), if_neg (show ¬ ¬ nI (b p) = 10 from fun z => z (by rw [q]; rfl))]; exact e1
    · rw [if_neg hb]
      exact ⟨h, ends p fu h hp c h4 hb, FrL.rf _ _ _ _, h4⟩
set_option maxRecDepth 8192 in
theorem Mword_l {b : Nat → Nat} {L q : Nat} : ∀ (m p fu : Nat) (h : AH), L - p = m → q ≤ p → p ≤ L → m < fu → MBs b L h → hI h 383 4 = nI q → (p - q ≤ 8 → hL h 383 9 = Int64.ofNat (c8 (wl b q (p - q)))) → (∀ k, q ≤ k → k < p → isLN (b k) = true) → ∃ h1, f_M_token_l78 fu (nI (p - q)) h = (if rn (fun k => isLN (b k)) L m p - q ≤ 8 then f_M_token_b131 (nI (rn (fun k => isLN (b k)) L m p - q)) 1 h1 else f_M_token_b131 (nI (rn (fun k => isLN (b k)) L m p - q)) 3 h1) ∧ FrK h h1 ∧ hI h1 383 4 = nI q ∧ hI h1 383 7 = hI h 383 7 ∧ (rn (fun k => isLN (b k)) L m p - q ≤ 8 → hL h1 383 9 = Int64.ofNat (c8 (wl b q (rn (fun k => isLN (b k)) L m p - q)))) := by
  have ends : ∀ (p fu : Nat) (h : AH), q ≤ p → p ≤ L → MBs b L h → hI h 383 4 = nI q → ¬ (p < L ∧ isLN (b p) = true) → f_M_token_l78 (fu + 1) (nI (p - q)) h = if p - q ≤ 8 then f_M_token_b131 (nI (p - q)) 1 h else f_M_token_b131 (nI (p - q)) 3 h := fun p fu h hq hp c h4 hn => by
    have c1 := c.1
    have hh := here_ok c h4 (p - q) (by omega)
    rw [show q + (p - q) = p by omega] at hh
    have hz : f_M_isLetter (if p < L then nI (b p) else -1) h = some (0, h) := by
      by_cases hl : p < L
      · have := c.2.2.2 p hl
        rw [if_pos hl, MisL_e (by omega), if_neg (fun z => hn ⟨hl, z⟩)]
      · rw [if_neg hl, MisL_m]
    rw [f_M_token_l78, hh, bI_s, hz, bI_s, if_pos rfl]
    by_cases h8 : p - q ≤ 8
    · rw [if_pos (show nI (p - q) ≤ 8 from nI_le (b := 8) h8 (by omega)), if_pos h8]
    · rw [if_neg (show ¬ nI (p - q) ≤ 8 from nI_ge (a := 8) (b := p - q) (by omega) (by omega)), if_neg h8]
  intro m
  induction m with
  | zero =>
    intro p fu h hm hq hp hf c h4 hw hl
    obtain ⟨fu, rfl⟩ : ∃ q, fu = q + 1 := ⟨fu - 1, by omega⟩
    exact ⟨h, ends p fu h hq hp c h4 (by omega), FrL.rf _ _ _ _, h4, rfl, hw⟩
  | succ m ih =>
    intro p fu h hm hq hp hf c h4 hw hl
    obtain ⟨fu, rfl⟩ : ∃ q, fu = q + 1 := ⟨fu - 1, by omega⟩
    rw [rn]
    by_cases hb : p < L ∧ isLN (b p) = true
    · rw [if_pos hb]
      have c1 := c.1
      have hb2 : 97 ≤ b p ∧ b p ≤ 122 := by have := hb.2; unfold isLN at this; simpa using this
      have hh := here_ok c h4 (p - q) (by omega)
      rw [show q + (p - q) = p by omega, if_pos hb.1] at hh
      have hl' : ∀ k, q ≤ k → k < p + 1 → isLN (b k) = true := fun k h1 h2 => by
        by_cases e : k = p
        · rw [e]; exact hb.2
        · exact hl k h1 (by omega)
      rw [f_M_token_l78, hh, bI_s, MisL_e (by omega), if_pos hb.2, bI_s, if_neg (by decide)]
      by_cases h8 : p - q < 8
      · rw [if_neg (show ¬ (8 : Int32) ≤ nI (p - q) from nI_ge (a := p - q) (b := 8) h8 (by omega)), hh, bI_s, lt_e, lt_e, nI_1, show p - q + 1 = p + 1 - q by omega]
        have f : FrK h (sL h 383 9 (lshl (hL h 383 9) 8 ||| Int32.toInt64 (nI (b p)))) := (FrL.rf _ _ _ h).l (c := 383) (k := 9) ⟨rfl, rfl⟩ _
        have hw' : p + 1 - q ≤ 8 → hL (sL h 383 9 (lshl (hL h 383 9) 8 ||| Int32.toInt64 (nI (b p)))) 383 9 = Int64.ofNat (c8 (wl b q (p + 1 - q))) := fun h8 => by
          rw [hL_sL, if_pos ⟨rfl, rfl⟩, hw (by omega), show p + 1 - q = p - q + 1 by omega, wl, c8_s, show q + (p - q) = p by omega]
          have lt8 := c8_b (wl b q (p - q)) (wl_ltr b q _ (fun k h1 h2 => hl k h1 (by omega)))
          rw [wl_len] at lt8
          have ltr := wl_ltr b q (p - q) (fun k h1 h2 => hl k h1 (by omega))
          have up : c8 (wl b q (p - q)) * 256 + b p < 2 ^ 63 := by
            have key : ∀ l : List Nat, LTR l → c8 l * 255 ≤ 122 * (256 ^ l.length - 1) := snoc_ind (fun _ => by decide) (fun l x ih h => by
              have h1 := ih h.l.1
              have h2 := h.l.2
              rw [c8_s, List.length_append]
              show _ ≤ 122 * (256 ^ (l.length + 1) - 1)
              rw [Nat.pow_succ]
              have : 1 ≤ 256 ^ l.length := Nat.one_le_pow _ _ (by omega)
              omega)
            have k1 := key _ ltr
            rw [wl_len] at k1
            have p7 : 256 ^ (p - q) ≤ 256 ^ 7 := Nat.pow_le_pow_right (by omega) (by omega)
            have p7' : 256 ^ 7 = 72057594037927936 := by decide
            omega
          exact l64_s (a := c8 (wl b q (p - q))) (b := b p) 8 (Or.inr rfl) (by omega) up
        obtain ⟨h1, e1, f1, g1, g2, g3⟩ := ih (p + 1) fu _ (by omega) (by omega) (by omega) (by omega) (c.fr f) h4 hw' hl'
        exact ⟨h1, e1, f.t f1, g1, g2, g3⟩
      · rw [if_pos (show (8 : Int32) ≤ nI (p - q) from nI_le (a := 8) (by omega) (by omega)), lt_e, nI_1, show p - q + 1 = p + 1 - q by omega]
        exact ih (p + 1) fu h (by omega) (by omega) (by omega) (by omega) c h4 (fun z => by omega) hl'
    · rw [if_neg hb]
      exact ⟨h, ends p fu h hq hp c h4 hb, FrL.rf _ _ _ _, h4, rfl, hw⟩
theorem Mnum_l {b : Nat → Nat} {L q : Nat} : ∀ (m p fu : Nat) (h : AH), L - p = m → q ≤ p → p ≤ L → m < fu → MBs b L h → hI h 383 4 = nI q → (p - q ≤ 4 → hI h 383 8 = nI (nm b q (p - q)) ∧ nm b q (p - q) < 10 ^ (p - q)) → ∃ h1, f_M_token_l144 fu (nI (p - q)) h = (if 4 < rn (fun k => isDN (b k)) L m p - q ∨ (rn (fun k => isDN (b k)) L m p < L ∧ isLN (b (rn (fun k => isDN (b k)) L m p)) = true) then f_M_token_b208 (nI (rn (fun k => isDN (b k)) L m p - q)) 3 h1 else f_M_token_b208 (nI (rn (fun k => isDN (b k)) L m p - q)) 2 h1) ∧ FrK h h1 ∧ hI h1 383 4 = nI q ∧ hI h1 383 7 = hI h 383 7 ∧ (rn (fun k => isDN (b k)) L m p - q ≤ 4 → hI h1 383 8 = nI (nm b q (rn (fun k => isDN (b k)) L m p - q))) := by
  have ends : ∀ (p fu : Nat) (h : AH), q ≤ p → p ≤ L → MBs b L h → hI h 383 4 = nI q → ¬ (p < L ∧ isDN (b p) = true) → f_M_token_l144 (fu + 1) (nI (p - q)) h = if 4 < p - q ∨ (p < L ∧ isLN (b p) = true) then f_M_token_b208 (nI (p - q)) 3 h else f_M_token_b208 (nI (p - q)) 2 h := fun p fu h hq hp c h4 hn => by
    have c1 := c.1
    have hh := here_ok c h4 (p - q) (by omega)
    rw [show q + (p - q) = p by omega] at hh
    have hz : f_M_isDigit (if p < L then nI (b p) else -1) h = some (0, h) := by
      by_cases hl : p < L
      · have := c.2.2.2 p hl
        rw [if_pos hl, MisD_e (by omega), if_neg (fun z => hn ⟨hl, z⟩)]
      · rw [if_neg hl, MisD_m]
    rw [f_M_token_l144, hh, bI_s, hz, bI_s, if_pos rfl]
    by_cases h4' : 4 < p - q
    · rw [if_pos (show (4 : Int32) < nI (p - q) from n_lt (a := 4) h4' (by omega)), if_pos (Or.inl h4'), f_M_token_b203]
    · rw [if_neg (show ¬ (4 : Int32) < nI (p - q) from n_nlt (a := 4) (by omega) (by omega)), hh, bI_s]
      by_cases hl : p < L
      · have bp := c.2.2.2 p hl
        rw [if_pos hl, MisL_e (by omega), bI_s]
        by_cases hL' : isLN (b p) = true
        · rw [if_pos hL', if_neg (by decide), if_pos (Or.inr ⟨hl, hL'⟩), f_M_token_b203]
        · rw [if_neg hL', if_pos rfl, if_neg (fun z => z.elim h4' (fun y => hL' y.2))]
      · rw [if_neg hl, MisL_m, bI_s, if_pos rfl, if_neg (fun z => z.elim h4' (fun y => hl y.1))]
  intro m
  induction m with
  | zero =>
    intro p fu h hm hq hp hf c h4 hw
    obtain ⟨fu, rfl⟩ : ∃ q, fu = q + 1 := ⟨fu - 1, by omega⟩
    exact ⟨h, ends p fu h hq hp c h4 (by omega), FrL.rf _ _ _ _, h4, rfl, fun z => (hw z).1⟩
  | succ m ih =>
    intro p fu h hm hq hp hf c h4 hw
    obtain ⟨fu, rfl⟩ : ∃ q, fu = q + 1 := ⟨fu - 1, by omega⟩
    rw [rn]
    by_cases hb : p < L ∧ isDN (b p) = true
    · rw [if_pos hb]
      have c1 := c.1
      have hb2 : 48 ≤ b p ∧ b p ≤ 57 := by have := hb.2; unfold isDN at this; simpa using this
      have hh := here_ok c h4 (p - q) (by omega)
      rw [show q + (p - q) = p by omega, if_pos hb.1] at hh
      rw [f_M_token_l144, hh, bI_s, MisD_e (by omega), if_pos hb.2, bI_s, if_neg (by decide)]
      by_cases h8 : p - q < 4
      · obtain ⟨w1, w2⟩ := hw (by omega)
        have p8 : 10 ^ (p - q) ≤ 10 ^ 4 := Nat.pow_le_pow_right (by omega) (by omega)
        have p8' : 10 ^ 4 = 10000 := by decide
        have en : (10 : Int32) * hI h 383 8 + nI (b p) - 48 = nI (nm b q (p + 1 - q)) := by
          rw [w1, show p + 1 - q = p - q + 1 by omega, nm, show q + (p - q) = p by omega, show (10 : Int32) * nI (nm b q (p - q)) = nI (10 * nm b q (p - q)) from n_ml (a := 10) (by omega) (by omega) (by omega), n_add, show nI (10 * nm b q (p - q) + b p) - 48 = nI (10 * nm b q (p - q) + b p - 48) from n_sb (b := 48) (by omega) (by omega), show 10 * nm b q (p - q) + b p - 48 = nm b q (p - q) * 10 + (b p - 48) by omega]
        rw [if_neg (show ¬ (4 : Int32) ≤ nI (p - q) from nI_ge (a := p - q) (b := 4) h8 (by omega)), hh, bI_s, en, lt_e, lt_e, nI_1, show p - q + 1 = p + 1 - q by omega]
        have f : FrK h (sI h 383 8 (nI (nm b q (p + 1 - q)))) := (FrL.rf _ _ _ h).s (c := 383) (k := 8) (by show _ ∧ _; omega) _
        obtain ⟨h1, e1, f1, g1, g2, g3⟩ := ih (p + 1) fu _ (by omega) (by omega) (by omega) (by omega) (c.fr f) (by rw [hI_sI, if_neg (by decide)]; exact h4) (fun z => ⟨hI_sI_s _ _ _ _, by rw [show p + 1 - q = p - q + 1 by omega, nm, show q + (p - q) = p by omega, Nat.pow_succ]; omega⟩)
        exact ⟨h1, e1, f.t f1, g1, by rw [g2, hI_sI, if_neg (by decide)], g3⟩
      · rw [if_pos (show (4 : Int32) ≤ nI (p - q) from nI_le (a := 4) (by omega) (by omega)), lt_e, nI_1, show p - q + 1 = p + 1 - q by omega]
        exact ih (p + 1) fu h (by omega) (by omega) (by omega) (by omega) c h4 (fun z => by omega)
    · rw [if_neg hb]
      exact ⟨h, ends p fu h hq hp c h4 hb, FrL.rf _ _ _ _, h4, rfl, fun z => (hw z).1⟩
theorem token_ok {b : Nat → Nat} {L p : Nat} {h : AH} (c : MBs b L h) (hp : p ≤ L) (h4 : hI h 383 4 = nI p) : ∃ h1, f_M_token h = some h1 ∧ FrK h h1 ∧ RM b L h1 (lx b L p) := by
  have c1 := c.1
  obtain ⟨h1, e1, f1, v4⟩ := Mblank_l (L - p) p FU h rfl hp (by show L - p < 1000000; omega) c h4
  have q2 := rn_le (fun k => isBN (b k)) L (L - p) p hp
  rw [f_M_token, e1]
  unfold lx
  generalize rn (fun k => isBN (b k)) L (L - p) p = q at v4 q2 ⊢
  have f2 : FrK h (tkS q h1) := ((f1.s (c := 383) (k := 7) (by show _ ∧ _; omega) _).l (c := 383) (k := 9) ⟨rfl, rfl⟩ _).s (c := 383) (k := 8) (by show _ ∧ _; omega) _
  have w7 : hI (tkS q h1) 383 7 = nI q := by
    unfold tkS
    rw [hI_sI, if_neg (by decide)]
    show hI (sI h1 383 7 (nI q)) 383 7 = _
    rw [hI_sI_s]
  have w4 : hI (tkS q h1) 383 4 = nI q := by
    unfold tkS
    rw [hI_sI, if_neg (by decide)]
    show hI (sI h1 383 7 (nI q)) 383 4 = _
    rw [hI_sI, if_neg (by decide)]; exact v4
  have w8 : hI (tkS q h1) 383 8 = 0 := hI_sI_s _ _ _ _
  have w9 : hL (tkS q h1) 383 9 = 0 := by
    show hL (sL (sI h1 383 7 (nI q)) 383 9 0) 383 9 = 0
    rw [hL_sL, if_pos ⟨rfl, rfl⟩]
  generalize tkS q h1 = h2 at f2 w7 w4 w8 w9 ⊢
  have c2 := c.fr f2
  -- the end of each: sort, and the place behind
  have fin : ∀ (z : AH) (n s : Nat) (t : LT), FrK h z → hI z 383 7 = nI q → hI z 383 4 = nI q → tP t = q → srt (tC t) = s → s < 1000 → (¬ tC t = 3 → tX t = q + n ∧ q + n ≤ L ∧ (tC t = 1 → hI z 383 8 = nI (tN t)) ∧ (tC t = 2 ∨ 256 ≤ tC t → hL z 383 9 = Int64.ofNat (c8 (tW t)))) → (tC t = 3 ↔ s = 3) → ∃ h3, f_M_token_b232 (nI n) (sI z 383 6 (nI s)) = some h3 ∧ FrK h h3 ∧ RM b L h3 t := fun z n s t fz z7 z4 tp ts sl hx h3 => by
    have fs : FrK h (sI z 383 6 (nI s)) := fz.s (c := 383) (k := 6) (by show _ ∧ _; omega) _
    have s4 : hI (sI z 383 6 (nI s)) 383 4 = nI q := by rw [hI_sI, if_neg (by decide)]; exact z4
    rw [f_M_token_b232, hI_sI_s]
    by_cases e : tC t = 3
    · have es : s = 3 := h3.mp e
      rw [if_pos (show nI s = 3 by rw [es]; rfl)]
      exact ⟨_, rfl, fs, c.fr fs, by rw [hI_sI, if_neg (by decide), tp]; exact z7, by rw [tp]; exact q2, by rw [hI_sI_s, ts], fun y => absurd e y⟩
    · obtain ⟨x1, x2, x3, x4⟩ := hx e
      rw [if_neg (show ¬ nI s = 3 from fun y => e (h3.mpr ((n_eqv (b := 3) (by omega) (by omega)).mp y))), s4, n_add, lt_e]
      have f5 : FrK h (sI (sI z 383 6 (nI s)) 383 4 (nI (q + n))) := fs.s (c := 383) (k := 4) (by show _ ∧ _; omega) _
      exact ⟨_, rfl, f5, c.fr f5, by rw [hI_sI, if_neg (by decide), hI_sI, if_neg (by decide), tp]; exact z7, by rw [tp]; exact q2, by rw [hI_sI, if_neg (by decide), hI_sI_s, ts], fun _ => ⟨by rw [hI_sI_s, x1], by rw [x1]; exact x2, fun y => by rw [hI_sI, if_neg (by decide), hI_sI, if_neg (by decide)]; exact x3 y, fun y => x4 y⟩⟩
  unfold tkK
  by_cases hq : L ≤ q
  · rw [if_neg (by omega), if_pos hq]
    exact fin h2 0 0 (0, q, q, 0, []) f2 w7 w4 rfl rfl (by omega) (fun _ => ⟨rfl, q2, fun z => absurd z n01, fun z => absurd z n0k⟩) ⟨fun z => absurd z n03, fun z => absurd z n03⟩
  · have bq := c.2.2.2 q (by omega)
    rw [if_pos (by omega), if_neg hq]
    by_cases hl : isLN (b q) = true
    · have e0 := rn_1 (fun k => isLN (b k)) L (show q < L by omega) hl
      have e2 := rn_le (fun k => isLN (b k)) L (L - q) q q2
      obtain ⟨h4', e4, f4, x4, x7, x9⟩ := Mword_l (q := q) (L - q) q FU h2 rfl (Nat.le_refl _) q2 (by show L - q < 1000000; omega) c2 w4 (fun _ => by rw [Nat.sub_self, w9]; rfl) (fun k h1 h2 => by omega)
      rw [Nat.sub_self] at e4
      rw [if_pos hl, if_pos hl, show f_M_token_l78 FU 0 h2 = _ from e4]
      generalize rn (fun k => isLN (b k)) L (L - q) q = e at e0 e2 x9 ⊢
      by_cases h8 : e - q ≤ 8
      · have kl := kwc_lt (wl b q (e - q))
        have sk : srt (kwc (wl b q (e - q))) = 1 := by
          unfold srt
          rw [if_neg kl.2.2, if_pos]
          rcases kwc_or (wl b q (e - q)) with z | ⟨j, -, -, z⟩
          · exact Or.inl z
          · right; omega
        rw [if_pos h8, show (if 8 < e - q then ((3 : Nat), q, q, 0, ([] : List Nat)) else (kwc (wl b q (e - q)), q, e, 0, wl b q (e - q))) = (kwc (wl b q (e - q)), q, e, 0, wl b q (e - q)) from if_neg (by omega), f_M_token_b131, lt_e]
        exact fin h4' (e - q) 1 (kwc (wl b q (e - q)), q, e, 0, wl b q (e - q)) (f2.t f4) (x7.trans w7) x4 rfl sk (by omega) (fun _ => ⟨by show e = q + (e - q); omega, by omega, fun z => absurd z kl.2.2, fun _ => x9 h8⟩) ⟨fun z => absurd z kl.2.1, fun z => by omega⟩
      · rw [if_neg h8, show (if 8 < e - q then ((3 : Nat), q, q, 0, ([] : List Nat)) else (kwc (wl b q (e - q)), q, e, 0, wl b q (e - q))) = (3, q, q, 0, []) from if_pos (by omega), f_M_token_b131, lt_e]
        exact fin h4' (e - q) 3 (3, q, q, 0, []) (f2.t f4) (x7.trans w7) x4 rfl rfl (by omega) (fun z => absurd rfl z) (by simp)
    · rw [if_neg hl, if_neg hl]
      by_cases hd : isDN (b q) = true
      · have e0 := rn_1 (fun k => isDN (b k)) L (show q < L by omega) hd
        have e2 := rn_le (fun k => isDN (b k)) L (L - q) q q2
        obtain ⟨h4', e4, f4, x4, x7, x8⟩ := Mnum_l (q := q) (L - q) q FU h2 rfl (Nat.le_refl _) q2 (by show L - q < 1000000; omega) c2 w4 (fun _ => by rw [Nat.sub_self]; exact ⟨w8, by show 0 < 1; omega⟩)
        rw [Nat.sub_self] at e4
        rw [if_pos hd, if_pos hd, show f_M_token_l144 FU 0 h2 = _ from e4]
        generalize rn (fun k => isDN (b k)) L (L - q) q = e at e0 e2 x8 ⊢
        by_cases hn : 4 < e - q ∨ (e < L ∧ isLN (b e) = true)
        · rw [if_pos hn, show (if 4 < e - q ∨ (e < L ∧ isLN (b e) = true) then ((3 : Nat), q, q, 0, ([] : List Nat)) else (1, q, e, nm b q (e - q), [])) = (3, q, q, 0, []) from if_pos hn, f_M_token_b208, lt_e]
          exact fin h4' (e - q) 3 (3, q, q, 0, []) (f2.t f4) (x7.trans w7) x4 rfl rfl (by omega) (fun z => absurd rfl z) (by simp)
        · rw [if_neg hn, show (if 4 < e - q ∨ (e < L ∧ isLN (b e) = true) then ((3 : Nat), q, q, 0, ([] : List Nat)) else (1, q, e, nm b q (e - q), [])) = (1, q, e, nm b q (e - q), []) from if_neg hn, f_M_token_b208, lt_e]
          exact fin h4' (e - q) 2 (1, q, e, nm b q (e - q), []) (f2.t f4) (x7.trans w7) x4 rfl rfl (by omega) (fun _ => ⟨by show e = q + (e - q); omega, by omega, fun _ => x8 (by omega), fun z => absurd z n1k⟩) ⟨fun z => absurd z n13, fun z => absurd z n23⟩
      · rw [if_neg hd, if_neg hd]
        by_cases hs : isSN (b q) = true
        · have sb : ¬ b q = 3 ∧ ¬ b q = 1 ∧ ¬ b q = 2 := by
            refine ⟨fun z => ?_, fun z => ?_, fun z => ?_⟩ <;> (rw [z] at hs; exact absurd hs (by decide))
          rw [if_pos hs, if_pos hs, f_M_token_b229, lt_e]
          refine fin h2 1 (b q) (b q, q, q + 1, 0, []) f2 w7 w4 rfl ?_ (by omega) (fun _ => ⟨rfl, by omega, fun z => absurd z sb.2.1, fun z => z.elim (fun y => absurd y sb.2.2) (fun y => by have y' : 256 ≤ b q := y; omega)⟩) Iff.rfl
          show srt (b q) = b q
          unfold srt
          rw [if_neg sb.2.1, if_neg (by omega)]
        · rw [if_neg hs, if_neg hs, f_M_token_b229, lt_e]
          exact fin h2 1 3 (3, q, q, 0, []) f2 w7 w4 rfl rfl (by omega) (fun z => absurd rfl z) (by simp)
