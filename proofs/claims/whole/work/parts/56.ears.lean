/-! ===== what was heard ===== -/
abbrev ET : Type := Nat × (Nat → Int32) × (Nat → Int32) × (Nat → Int32) × (Nat → Int32) × (Nat → Int32) × Int32
abbrev eN (E : ET) : Nat := E.1
abbrev eHt (E : ET) : Nat → Int32 := E.2.1
abbrev eCh (E : ET) : Nat → Int32 := E.2.2.1
abbrev eHd (E : ET) : Nat → Int32 := E.2.2.2.1
abbrev eTl (E : ET) : Nat → Int32 := E.2.2.2.2.1
abbrev eUn (E : ET) : Nat → Int32 := E.2.2.2.2.2.1
abbrev eTm (E : ET) : Int32 := E.2.2.2.2.2.2
def EH (h : AH) (E : ET) : Prop := hI h 366 10 = nI (eN E) ∧ hI h 366 11 = eTm E ∧ ∀ j, j < eN E → hI h 367 j = eHt E j ∧ hI h 368 j = eCh E j ∧ hI h 369 j = eHd E j ∧ hI h 370 j = eTl E j ∧ hI h 371 j = eUn E j
def EM (h : AH) (E : ET) : Prop := hI h 383 68 = nI (eN E) ∧ hI h 383 69 = eTm E ∧ ∀ j, j < eN E → hI h 413 j = eHt E j ∧ hI h 414 j = eCh E j ∧ hI h 417 j = eHd E j ∧ hI h 415 j = eTl E j ∧ hI h 416 j = eUn E j
def EW (E : ET) : Prop := eN E ≤ 30 ∧ (∀ j, j < eN E → (∃ g, g ≤ 40 ∧ eHt E j = nI g) ∧ (eHd E j = 0 ∨ eHd E j = 1) ∧ (eUn E j = -1 ∨ 0 ≤ eUn E j)) ∧ 0 ≤ (eTm E).toInt ∧ (eTm E).toInt ≤ 100000
theorem EH.fr {S : List Nat} {P : List (Nat × Nat)} {h h1 : AH} {E : ET} (m : EH h E) (f : Fr S P h h1) (a : ∀ q ∈ S, q < 366 ∨ 371 < q) (b : ∀ q ∈ P, (q.1 < 367 ∨ 371 < q.1) ∧ q ≠ (366, 10) ∧ q ≠ (366, 11)) : EH h1 E := by
  have g : ∀ c k, 367 ≤ c → c ≤ 371 → hI h1 c k = hI h c k := fun c k h1 h2 => f.i _ _ (fun q => by have := a _ q; omega) (fun q => by have := (b _ q).1; simp only at this; omega)
  have g0 : ∀ k, k = 10 ∨ k = 11 → hI h1 366 k = hI h 366 k := fun k hk => f.i _ _ (fun q => by have := a _ q; omega) (fun q => by
    have := b _ q
    rcases hk with rfl | rfl
    · exact this.2.1 rfl
    · exact this.2.2 rfl)
  refine ⟨by rw [g0 10 (Or.inl rfl)]; exact m.1, by rw [g0 11 (Or.inr rfl)]; exact m.2.1, fun j hj => ?_⟩
  rw [g 367 _ (by omega) (by omega), g 368 _ (by omega) (by omega), g 369 _ (by omega) (by omega), g 370 _ (by omega) (by omega), g 371 _ (by omega) (by omega)]
  exact m.2.2 j hj
theorem EM.fr {S : List Nat} {P : List (Nat × Nat)} {h h1 : AH} {E : ET} (m : EM h E) (f : Fr S P h h1) (a : ∀ q ∈ S, q ≠ 383 ∧ (q < 413 ∨ 417 < q)) (b : ∀ q ∈ P, (q.1 < 413 ∨ 417 < q.1) ∧ q ≠ (383, 68) ∧ q ≠ (383, 69)) : EM h1 E := by
  have g : ∀ c k, 413 ≤ c → c ≤ 417 → hI h1 c k = hI h c k := fun c k h1 h2 => f.i _ _ (fun q => by have := (a _ q).2; omega) (fun q => by have := (b _ q).1; simp only at this; omega)
  have g0 : ∀ k, k = 68 ∨ k = 69 → hI h1 383 k = hI h 383 k := fun k hk => f.i _ _ (fun q => (a _ q).1 rfl) (fun q => by
    have := b _ q
    rcases hk with rfl | rfl
    · exact this.2.1 rfl
    · exact this.2.2 rfl)
  refine ⟨by rw [g0 68 (Or.inl rfl)]; exact m.1, by rw [g0 69 (Or.inr rfl)]; exact m.2.1, fun j hj => ?_⟩
  rw [g 413 _ (by omega) (by omega), g 414 _ (by omega) (by omega), g 415 _ (by omega) (by omega), g 416 _ (by omega) (by omega), g 417 _ (by omega) (by omega)]
  exact m.2.2 j hj
/-- what a cricket of song and age sings by itself -/
def sgX (M : MT) (Y : YT) (a b c : Int32) : Int32 := sungS M Y a b c 0
def okE (M : MT) (Y : YT) (E : ET) (i : Nat) (k : Int32) (j : Nat) : Bool := decide (k < eTl E j) || (!decide (eUn E j = -1) && decide (eUn E j ≤ k)) || decide ((if sgX M Y (eHt E j) (nI (i / 10)) (nI (i % 10)) < eCh E j then (0 : Int32) else 1) = eHd E j)
def fitS (M : MT) (Y : YT) (E : ET) (k : Int32) (i : Nat) : Bool := allB (okE M Y E i k) (eN E)
/-- the class's store of what was sung at Y's hour -/
def SV (M : MT) (Y : YT) (h : AH) : Prop := hI h 366 7 = Y 32 ∧ hI h 366 8 = Y 33 ∧ ∀ g i, g ≤ 40 → i < 100 → hI h 373 (g * 100 + i) = -1 ∨ hI h 373 (g * 100 + i) = sgX M Y (nI g) (nI (i / 10)) (nI (i % 10))
abbrev scQ (u : Nat) : List Nat := [372, 373, u + 12]
abbrev plQ : List (Nat × Nat) := [(366, 7), (366, 8), (366, 9)]
theorem sings_ok {M : MT} {Y : YT} {u : Nat} {h : AH} (s : HS h M Y u) (v : SV M Y h) {g i : Nat} (hg : g ≤ 40) (hi : i < 100) : ∃ h1, f_Ears_sings u (nI g) (nI i) h = some (sgX M Y (nI g) (nI (i / 10)) (nI (i % 10)), h1) ∧ Fr [373, u + 12] [] h h1 ∧ SV M Y h1 := by
  have ea : nI g * 10 * 10 + nI i = nI (g * 100 + i) := by
    rw [show (10 : Int32) = nI 10 from rfl, n_ml (by omega) (by omega) (by omega), n_ml (by omega) (by omega) (by omega), n_add, show g * 10 * 10 = g * 100 by omega]
  have gx4 : ∀ K : Option (Int32 × AH), gx (nI (g * 100 + i)) 4100 K = K := fun K => gx_n K (by omega) (by omega)
  rw [f_Ears_sings, ea, lt_e, gx4, gx4, ix_n (show g * 100 + i < 2 ^ 31 by omega)]
  obtain ⟨v1, v2, v3⟩ := v
  by_cases hq : hI h 373 (g * 100 + i) = -1
  · rw [if_neg (fun q => q hq), v1, v2, show nI i / 10 = nI (i / 10) from n_dv (a := i) (b := 10) (by omega) (by omega) (by omega)]
    rw [show nI i - nI (i / 10) * 10 = nI (i % 10) by
      have := n_md (a := i) (b := 10) (by omega) (by omega) (by omega)
      rw [n_dv (by omega) (by omega) (by omega)] at this
      exact this]
    obtain ⟨h1, e1, f1⟩ := K_sung_ok (Y := Y) s.2.2.1 (nI g) (nI (i / 10)) (nI (i % 10)) 0
    rw [e1, bI_s, gx4, lt_e, gx4, hI_sI_s]
    have hu := s.1
    refine ⟨_, rfl, (f1.mn (by simp) (by simp)).s (by simp) _ _, ?_, ?_, fun g' i' hg' hi' => ?_⟩
    · rw [hI_sI_c _ _ _ _ _ (by decide), f1.i _ _ (by simp; omega) (by simp)]; exact v1
    · rw [hI_sI_c _ _ _ _ _ (by decide), f1.i _ _ (by simp; omega) (by simp)]; exact v2
    · rw [hI_sI]
      by_cases e : g' * 100 + i' = g * 100 + i
      · rw [if_pos ⟨rfl, e⟩]
        have : g' = g ∧ i' = i := by omega
        rw [this.1, this.2]
        exact Or.inr rfl
      · rw [if_neg (fun q => e q.2), f1.i _ _ (by simp; omega) (by simp)]
        exact v3 g' i' hg' hi'
  · rw [if_pos hq]
    refine ⟨h, ?_, Fr.rf _ _ _, v1, v2, v3⟩
    rw [(v3 g i hg hi).resolve_left hq]
theorem counts_ok {E : ET} {h : AH} (m : EH h E) (w : EW E) {j : Nat} (hj : j < eN E) (k : Int32) : f_Ears_counts (nI j) k h = some (if (decide (k < eTl E j) || (!decide (eUn E j = -1) && decide (eUn E j ≤ k))) = true then 0 else 1, h) := by
  have h30 := w.1
  obtain ⟨-, -, -, m4, m5⟩ := m.2.2 j hj
  have g : ∀ K : Option (Int32 × AH), gx (nI j) 30 K = K := fun K => gx_n K (by omega) (by omega)
  rw [f_Ears_counts, g, g, g, ix_n (show j < 2 ^ 31 by omega), m4, m5]
  by_cases h1 : k < eTl E j
  · rw [if_pos h1, if_pos (by simp [h1])]
  · rw [if_neg h1]
    by_cases h2 : eUn E j = -1
    · rw [if_pos h2, if_neg (by simp [h1, h2])]
    · rw [if_neg h2]
      by_cases h3 : eUn E j ≤ k
      · rw [if_pos h3, if_pos (by simp [h2, h3])]
      · rw [if_neg h3, if_neg (by simp [h1, h3])]
def EP (M : MT) (Y : YT) (u : Nat) (E : ET) (h0 h : AH) : Prop := Fr (scQ u) plQ h0 h ∧ HS h M Y u ∧ EH h E ∧ SV M Y h
theorem EP.st {M : MT} {Y : YT} {u : Nat} {E : ET} {h0 h h1 : AH} (p : EP M Y u E h0 h) (f : Fr [373, u + 12] [] h h1) (v : SV M Y h1) : EP M Y u E h0 h1 := by
  have hu := p.2.1.1
  exact ⟨p.1.t (f.mn (by simp) (by simp)), p.2.1.f f (by simp) (by simp), p.2.2.1.fr f (fun q hq => by simp only [List.mem_cons, List.not_mem_nil, or_false] at hq; omega) (by simp), v⟩
theorem isFit_ok {M : MT} {Y : YT} {u : Nat} {E : ET} {h0 h : AH} (w : EW E) (p : EP M Y u E h0 h) {i : Nat} (hi : i < 100) (k : Int32) : ∃ h1, f_Ears_isFit u (nI i) k h = some (if fitS M Y E k i = true then 1 else 0, h1) ∧ Fr [373, u + 12] [] h h1 ∧ EP M Y u E h0 h1 := by
  have h30 := w.1
  rw [f_Ears_isFit]
  refine lpc (fun fu j (z : AH) => f_Ears_isFit_l3 u (nI i) k fu (nI j) z) (fun j z => Fr [373, u + 12] [] h z ∧ EP M Y u E h0 z ∧ allB (okE M Y E i k) j = true) (fun r => r.1 = (if fitS M Y E k i = true then 1 else 0) ∧ Fr [373, u + 12] [] h r.2 ∧ EP M Y u E h0 r.2) (eN E) (by omega) h ⟨Fr.rf _ _ _, p, rfl⟩ (fun r e q => ⟨r.2, by rw [← q.1]; exact e, q.2⟩) (fun j fu z hj q => ?_) (fun fu z q => ?_)
  · obtain ⟨g1, p1, a1⟩ := q
    have gj : ∀ K : Option (Int32 × AH), gx (nI j) 30 K = K := fun K => gx_n K (by omega) (by omega)
    show (∃ s', f_Ears_isFit_l3 u (nI i) k (fu + 1) (nI j) z = f_Ears_isFit_l3 u (nI i) k fu (nI (j + 1)) s' ∧ _) ∨ (∃ r, f_Ears_isFit_l3 u (nI i) k (fu + 1) (nI j) z = some r ∧ _)
    rw [f_Ears_isFit_l3, p1.2.2.1.1, if_neg (nI_ge hj (by omega)), counts_ok p1.2.2.1 w hj, bI_s]
    simp only [lt_e, nI_1, gj]
    by_cases hc : (decide (k < eTl E j) || (!decide (eUn E j = -1) && decide (eUn E j ≤ k))) = true
    · rw [if_pos hc, if_pos rfl]
      refine Or.inl ⟨z, rfl, g1, p1, ?_⟩
      show (allB _ j && okE M Y E i k j) = true
      rw [a1, okE, hc]
      rfl
    · rw [if_neg hc, if_neg (by decide), ix_n (show j < 2 ^ 31 by omega), (p1.2.2.1.2.2 j hj).1]
      obtain ⟨⟨g, hg, eg⟩, -, -⟩ := w.2.1 j hj
      rw [eg]
      obtain ⟨h2, e2, f2, v2⟩ := sings_ok p1.2.1 p1.2.2.2 hg hi
      have p2 := p1.st f2 v2
      rw [e2, bI_s, (p2.2.2.1.2.2 j hj).2.1]
      have b50 : ∀ K x, f_Ears_isFit_b50 u (nI i) k K (nI j) x h2 = if x = eHd E j then K (nI (j + 1)) h2 else some (0, h2) := fun K x => by
        rw [f_Ears_isFit_b50, gj, ix_n (show j < 2 ^ 31 by omega), (p2.2.2.1.2.2 j hj).2.2.1, lt_e, nI_1]
      have er : (if sgX M Y (nI g) (nI (i / 10)) (nI (i % 10)) < eCh E j then f_Ears_isFit_b50 u (nI i) k (f_Ears_isFit_l3 u (nI i) k fu) (nI j) 0 h2 else f_Ears_isFit_b50 u (nI i) k (f_Ears_isFit_l3 u (nI i) k fu) (nI j) 1 h2) = if (if sgX M Y (eHt E j) (nI (i / 10)) (nI (i % 10)) < eCh E j then (0 : Int32) else 1) = eHd E j then f_Ears_isFit_l3 u (nI i) k fu (nI (j + 1)) h2 else some (0, h2) := by
        rw [eg, b50, b50]
        split <;> rfl
      rw [er]
      by_cases hh : (if sgX M Y (eHt E j) (nI (i / 10)) (nI (i % 10)) < eCh E j then (0 : Int32) else 1) = eHd E j
      · rw [if_pos hh]
        refine Or.inl ⟨h2, rfl, g1.t f2, p2, ?_⟩
        show (allB _ j && okE M Y E i k j) = true
        rw [a1, okE, decide_eq_true hh, Bool.or_true]
        rfl
      · rw [if_neg hh]
        refine Or.inr ⟨_, rfl, ?_, g1.t f2, p2⟩
        have : fitS M Y E k i = false := allB_f _ (k := j) (by
          unfold okE
          rw [Bool.eq_false_iff.mpr hc, decide_eq_false hh]
          rfl) hj
        rw [this]
        rfl
  · obtain ⟨g1, p1, a1⟩ := q
    refine ⟨(1, z), ?_, ?_, g1, p1⟩
    · show f_Ears_isFit_l3 u (nI i) k (fu + 1) (nI (eN E)) z = _
      rw [f_Ears_isFit_l3, p1.2.2.1.1, if_pos (nI_le (by omega) (by omega))]
    · show (1 : Int32) = if allB (okE M Y E i k) (eN E) = true then 1 else 0
      rw [if_pos a1]
def FT (M : MT) (Y : YT) (E : ET) (k : Int32) (m : Nat) (h : AH) : Prop := ∀ i, i < m → hI h 372 i = if fitS M Y E k i = true then 1 else 0
theorem nar_b (b : Bool) : vp_nar .boolean (if b = true then (1 : Int32) else 0) = if b = true then 1 else 0 := by cases b <;> decide
theorem find_ok {M : MT} {Y : YT} {u : Nat} {E : ET} {h : AH} (w : EW E) (s : HS h M Y u) (m : EH h E) (v : hI h 366 7 = -1 ∨ ∃ Z, SV M Z h) (hy : ¬ Y 32 = -1) (k : Int32) : ∃ h1, f_Ears_findFits u 37 k h = some (nI (cntS (fitS M Y E k) 100), h1) ∧ EP M Y u E h h1 ∧ FT M Y E k 100 h1 ∧ hI h1 366 9 = nI (cntS (fitS M Y E k) 100) := by
  have hu := s.1
  have b46 : ∀ z, EP M Y u E h z → ∃ h1, f_Ears_findFits_b46 u 37 k z = some (nI (cntS (fitS M Y E k) 100), h1) ∧ EP M Y u E h h1 ∧ FT M Y E k 100 h1 ∧ hI h1 366 9 = nI (cntS (fitS M Y E k) 100) := fun z p => by
    rw [f_Ears_findFits_b46, lt_e]
    have f1 : Fr [] [(366, 9)] z (sI z 366 9 0) := (Fr.rf _ _ _).p (by simp) _
    have p1 : EP M Y u E h (sI z 366 9 0) := ⟨p.1.t (f1.mn (by simp) (by simp)), p.2.1.f f1 (by simp) (by simp), p.2.2.1.fr f1 (by simp) (by simp), by rw [hI_sI, if_neg (by decide)]; exact p.2.2.2.1, by rw [hI_sI, if_neg (by decide)]; exact p.2.2.2.2.1, fun g i hg hi => by rw [hI_sI_c _ _ _ _ _ (by decide)]; exact p.2.2.2.2.2 g i hg hi⟩
    refine lpc (fun fu i (z : AH) => f_Ears_findFits_l54 u 37 k fu (nI i) z) (fun i z => EP M Y u E h z ∧ FT M Y E k i z ∧ hI z 366 9 = nI (cntS (fitS M Y E k) i)) (fun r => r.1 = nI (cntS (fitS M Y E k) 100) ∧ EP M Y u E h r.2 ∧ FT M Y E k 100 r.2 ∧ hI r.2 366 9 = nI (cntS (fitS M Y E k) 100)) 100 (by omega) _ ⟨p1, fun i hi => by omega, hI_sI_s _ _ _ _⟩ (fun r e q => ⟨r.2, by rw [← q.1]; exact e, q.2⟩) (fun i fu z hi q => Or.inl ?_) (fun fu z q => ?_)
    · obtain ⟨p2, t2, n2⟩ := q
      obtain ⟨h3, e3, f3, p3⟩ := isFit_ok w p2 hi k
      have t3 : FT M Y E k i h3 := fun j hj => by rw [f3.i _ _ (by simp; omega) (by simp)]; exact t2 j hj
      have n3 : hI h3 366 9 = nI (cntS (fitS M Y E k) i) := by rw [f3.i _ _ (by simp; omega) (by simp)]; exact n2
      have f4 : Fr [372] [] h3 (sI h3 372 i (if fitS M Y E k i = true then 1 else 0)) := (Fr.rf _ _ _).s (by simp) _ _
      have t4 : FT M Y E k (i + 1) (sI h3 372 i (if fitS M Y E k i = true then 1 else 0)) := fun j hj => by
        rw [hI_sI]
        by_cases e : j = i
        · subst e; rw [if_pos ⟨rfl, rfl⟩]
        · rw [if_neg (fun q => e q.2)]; exact t3 j (by omega)
      have p4 : EP M Y u E h (sI h3 372 i (if fitS M Y E k i = true then 1 else 0)) := ⟨p3.1.t (f4.mn (by simp) (by simp)), p3.2.1.f f4 (by simp) (by simp), p3.2.2.1.fr f4 (by simp) (by simp), by rw [f4.i _ _ (by simp) (by simp)]; exact p3.2.2.2.1, by rw [f4.i _ _ (by simp) (by simp)]; exact p3.2.2.2.2.1, fun g i hg hi => by rw [f4.i _ _ (by simp) (by simp)]; exact p3.2.2.2.2.2 g i hg hi⟩
      have n4 : hI (sI h3 372 i (if fitS M Y E k i = true then 1 else 0)) 366 9 = nI (cntS (fitS M Y E k) i) := by rw [f4.i _ _ (by simp) (by simp)]; exact n3
      have v4 : hI (sI h3 372 i (if fitS M Y E k i = true then 1 else 0)) 372 i = if fitS M Y E k i = true then 1 else 0 := hI_sI_s _ _ _ _
      show ∃ s', f_Ears_findFits_l54 u 37 k (fu + 1) (nI i) z = f_Ears_findFits_l54 u 37 k fu (nI (i + 1)) s' ∧ _
      rw [f_Ears_findFits_l54, if_neg (nI_ge hi (by omega)), e3, bI_s, gx_n _ hi (by omega), nar_b, lt_e, gx_n _ hi (by omega), ix_n (show i < 2 ^ 31 by omega)]
      simp only [lt_e, nI_1]
      generalize sI h3 372 i (if fitS M Y E k i = true then 1 else 0) = h4 at f4 t4 p4 n4 v4 ⊢
      rw [v4]
      by_cases hf : fitS M Y E k i = true
      · rw [if_pos hf, if_neg (by decide), n4, nI_1]
        have f5 : Fr [] [(366, 9)] h4 (sI h4 366 9 (nI (cntS (fitS M Y E k) i + 1))) := (Fr.rf _ _ _).p (by simp) _
        refine ⟨_, rfl, ⟨p4.1.t (f5.mn (by simp) (by simp)), p4.2.1.f f5 (by simp) (by simp), p4.2.2.1.fr f5 (by simp) (by simp), by rw [hI_sI, if_neg (by decide)]; exact p4.2.2.2.1, by rw [hI_sI, if_neg (by decide)]; exact p4.2.2.2.2.1, fun g i hg hi => by rw [hI_sI_c _ _ _ _ _ (by decide)]; exact p4.2.2.2.2.2 g i hg hi⟩, fun j hj => by rw [hI_sI_c _ _ _ _ _ (by decide)]; exact t4 j hj, ?_⟩
        rw [hI_sI_s]
        simp [cntS, hf]
      · rw [if_neg hf, if_pos rfl]
        exact ⟨h4, rfl, p4, t4, by rw [n4]; simp [cntS, hf]⟩
    · obtain ⟨p2, t2, n2⟩ := q
      refine ⟨(nI (cntS (fitS M Y E k) 100), z), ?_, rfl, p2, t2, n2⟩
      show f_Ears_findFits_l54 u 37 k (fu + 1) (nI 100) z = _
      rw [f_Ears_findFits_l54, if_pos (nI_le (by omega) (by omega)), n2]
  have y7 : hI h 37 7 = Y 32 := s.2.2.2.2.2.1
  have y8 : hI h 37 8 = Y 33 := s.2.2.2.2.2.2.1
  have b22 : ∃ h1, f_Ears_findFits_b22 u 37 k h = some (nI (cntS (fitS M Y E k) 100), h1) ∧ EP M Y u E h h1 ∧ FT M Y E k 100 h1 ∧ hI h1 366 9 = nI (cntS (fitS M Y E k) 100) := by
    rw [f_Ears_findFits_b22, y7, lt_e, hI_sI_c _ _ _ _ _ (by decide), y8, lt_e]
    have f1 : Fr [] [(366, 7), (366, 8)] h (sI (sI h 366 7 (Y 32)) 366 8 (Y 33)) := ((Fr.rf _ _ _).p (by simp) _).p (by simp) _
    have w7 : hI (sI (sI h 366 7 (Y 32)) 366 8 (Y 33)) 366 7 = Y 32 := by rw [hI_sI, if_neg (by decide), hI_sI_s]
    have w8 : hI (sI (sI h 366 7 (Y 32)) 366 8 (Y 33)) 366 8 = Y 33 := hI_sI_s _ _ _ _
    generalize sI (sI h 366 7 (Y 32)) 366 8 (Y 33) = h1 at f1 w7 w8 ⊢
    obtain ⟨h2, e2, f2, a2⟩ := fill_ok (c := 373) (n := 4100) (h := h1) (by omega) rfl (-1)
    rw [e2, bV_s]
    have ff : Fr [373] [(366, 7), (366, 8)] h h2 := (f1.mn (by simp) (by simp)).t (f2.mn (by simp) (by simp))
    exact b46 h2 ⟨ff.mn (by simp) (by simp), s.f ff (by simp) (by simp), m.fr ff (by simp) (by simp), by rw [f2.i _ _ (by simp) (by simp)]; exact w7, by rw [f2.i _ _ (by simp) (by simp)]; exact w8, fun g i hg hi => Or.inl (a2 _ (by omega))⟩
  rw [f_Ears_findFits, y7, y8]
  by_cases h7 : hI h 366 7 = Y 32
  · rw [if_neg (fun q => q h7)]
    by_cases h8 : hI h 366 8 = Y 33
    · rw [if_pos h8]
      rcases v with v | ⟨Z, v1, v2, v3⟩
      · rw [h7] at v; exact absurd v hy
      · have e : ∀ a b c, sgX M Z a b c = sgX M Y a b c := fun a b c => by
          unfold sgX sungS
          rw [← v1, ← v2, h7, h8]
        exact b46 h ⟨Fr.rf _ _ _, s, m, h7, h8, fun g i hg hi => by rw [← e]; exact v3 g i hg hi⟩
    · rw [if_neg h8]; exact b22
  · rw [if_pos h7]; exact b22
