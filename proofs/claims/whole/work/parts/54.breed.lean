/-! ===== what matings lead to ===== -/
def RHn (f : Nat) : Nat → Nat → Prop
  | 0, s => s = f
  | n + 1, s => RHn f n s ∨ ∃ t c, RHn f n t ∧ c < 10 ∧ chB t c ∧ s = addS t c
def RH (f s : Nat) : Prop := ∃ n, RHn f n s
theorem RH.f (f : Nat) : RH f f := ⟨0, rfl⟩
theorem RH.st {f t c : Nat} (r : RH f t) (hc : c < 10) (h : chB t c) : RH f (addS t c) := by
  obtain ⟨n, r⟩ := r
  exact ⟨n + 1, Or.inr ⟨t, c, r, hc, h, rfl⟩⟩
theorem RH.ind {f : Nat} {P : Nat → Prop} (h0 : P f) (hs : ∀ t c, RH f t → P t → c < 10 → chB t c → P (addS t c)) : ∀ s, RH f s → P s := by
  intro s r
  obtain ⟨n, r⟩ := r
  induction n generalizing s with
  | zero => have : s = f := r
            rw [this]; exact h0
  | succ n ih =>
    rcases r with r | ⟨t, c, r, hc, h, rfl⟩
    · exact ih s r
    · exact hs t c ⟨n, r⟩ (ih t r) hc h
theorem pc_add (s : Nat) {c : Nat} (hc : c < 10) : (addS s c = s ∧ s.testBit c = true) ∨ (pcN (addS s c) = pcN s + 1 ∧ s.testBit c = false) := by
  cases h : s.testBit c with
  | true => exact Or.inl ⟨addS_self h, rfl⟩
  | false => exact Or.inr ⟨pcN_a hc h, rfl⟩
theorem RH.pc {f : Nat} : ∀ s, RH f s → pcN f ≤ pcN s := RH.ind (Nat.le_refl _) (fun t c _ h hc _ => by
  rcases pc_add t hc with q | q
  · rw [q.1]; exact h
  · omega)
theorem RH.lt {f : Nat} (hf : f < 1024) : ∀ s, RH f s → s < 1024 := RH.ind hf (fun t c _ h hc _ => addS_lt h hc)
theorem RH.ge {f : Nat} : ∀ s, RH f s → f ≤ s := RH.ind (Nat.le_refl _) (fun t c _ h _ _ => Nat.le_trans h (addS_ge t c))
/-- the last mating that counts -/
theorem RH.last {f : Nat} : ∀ s, RH f s → s = f ∨ ∃ t c, RH f t ∧ c < 10 ∧ chB t c ∧ s = addS t c ∧ pcN s = pcN t + 1 := RH.ind (Or.inl rfl) (fun t c r h hc hb => by
  rcases pc_add t hc with q | q
  · rw [q.1]; exact h
  · exact Or.inr ⟨t, c, r, hc, hb, rfl, q.1⟩)
/-! the songs that are there -/
def SB (M : MT) : Prop := ∀ i, i < mN M → ∃ g, g < 10 ∧ mSg M i = nI g
def soN (M : MT) (Y : YT) : Nat → Nat
  | 0 => 0
  | k + 1 => if freeS Y k = true then soN M Y k else addS (soN M Y k) (ix (mSg M k))
theorem soN_lt {M : MT} (b : SB M) (Y : YT) : ∀ k, k ≤ mN M → soN M Y k < 1024 := by
  intro k
  induction k with
  | zero => intro _; show 0 < 1024; omega
  | succ k ih =>
    intro hk
    obtain ⟨g, hg, eg⟩ := b k (by omega)
    rw [soN]
    split
    · exact ih (by omega)
    · rw [eg, ix_n (by omega)]; exact addS_lt (ih (by omega)) hg
theorem H_there_ok {M : MT} {Y : YT} {u : Nat} {h : AH} (b : SB M) (s : HS h M Y u) : f_Yard_songsThere 37 u h = some (nI (soN M Y (mN M)), h) := by
  have h6 := s.2.2.1.1.2.1
  rw [f_Yard_songsThere]
  refine lqc (fun fu k (x : Int32) => f_Yard_songsThere_l4 37 u fu x (nI k) h) (fun k x => x = nI (soN M Y k)) (fun x => some (x, h)) (mN M) (by omega) 0 rfl (fun r e q => ?_) (fun k fu x hk p => ⟨_, ?_, rfl⟩) (fun fu x p => ?_)
  · rw [← q]; exact e
  · subst p
    obtain ⟨g, hg, eg⟩ := b k hk
    show f_Yard_songsThere_l4 37 u (fu + 1) (nI (soN M Y k)) (nI k) h = f_Yard_songsThere_l4 37 u fu (nI (soN M Y (k + 1))) (nI (k + 1)) h
    have y6 : hI h (37 + 6) k = (if freeS Y k = true then 1 else 0) := (s.2.2.2.1 k hk).2.2.2.2.2
    rw [f_Yard_songsThere_l4, s.2.2.1.1.1, if_neg (nI_ge hk (by omega)), gx_n _ (show k < 6 by omega) (by omega), gx_n _ (show k < 6 by omega) (by omega), ix_n (show k < 2 ^ 31 by omega), y6, (s.2.2.1.1.2.2 k hk).2.1, soN]
    simp only [lt_e, nI_1]
    by_cases hf : freeS Y k = true
    · rw [if_pos hf, if_pos (by decide), if_pos hf]
    · rw [if_neg hf, if_neg (by decide), if_neg hf, eg, ix_n (show g < 2 ^ 31 by omega), addS_i (by omega)]
  · show f_Yard_songsThere_l4 37 u (fu + 1) x (nI (mN M)) h = _
    rw [f_Yard_songsThere_l4, s.2.2.1.1.1, if_pos (nI_le (by omega) (by omega))]
theorem M_there_ok {M : MT} {Y : YT} {h : AH} (b : SB M) (s : MS h M Y) : f_M_songsThere h = some (nI (soN M Y (mN M)), h) := by
  have h6 := s.1.1.2.1
  rw [f_M_songsThere]
  refine lqc (fun fu k (x : Int32) => f_M_songsThere_l4 fu x (nI k) h) (fun k x => x = nI (soN M Y k)) (fun x => some (x, h)) (mN M) (by omega) 0 rfl (fun r e q => ?_) (fun k fu x hk p => ⟨_, ?_, rfl⟩) (fun fu x p => ?_)
  · rw [← q]; exact e
  · subst p
    obtain ⟨g, hg, eg⟩ := b k hk
    show f_M_songsThere_l4 (fu + 1) (nI (soN M Y k)) (nI k) h = f_M_songsThere_l4 fu (nI (soN M Y (k + 1))) (nI (k + 1)) h
    rw [f_M_songsThere_l4, s.1.1.1, if_neg (nI_ge hk (by omega)), gx_n _ (show k < 6 by omega) (by omega), ix_n (show k < 2 ^ 31 by omega), s.2 30 (by omega), bit_v _ (show k < 32 by omega), ← free_b Y (show k < 32 by omega), (s.1.1.2.2 k hk).2.1, soN]
    simp only [lt_e, nI_1]
    by_cases hf : freeS Y k = true
    · rw [if_pos hf, if_pos (by decide), if_pos hf]
    · rw [if_neg hf, if_neg (by decide), if_neg hf, eg, ix_n (show g < 2 ^ 31 by omega), addS_i (by omega)]
  · show f_M_songsThere_l4 (fu + 1) x (nI (mN M)) h = _
    rw [f_M_songsThere_l4, s.1.1.1, if_pos (nI_le (by omega) (by omega))]
/-! the class's breeding -/
def BR (f k : Nat) (z : AH) : Prop := (∀ s, s < 1024 → ¬ hI z 375 s = 0 → RH f s) ∧ ¬ hI z 375 f = 0 ∧ ∀ s, s < k → s < 1024 → ¬ hI z 375 s = 0 → ∀ c, c < 10 → chB s c → ¬ hI z 375 (addS s c) = 0
theorem breed_in {f s : Nat} (hf : f < 1024) (hs : s < 1024) (a : Int32) (K : Int32 → AH → Option AH) {z : AH} (b : BR f s z) (hz : ¬ hI z 375 s = 0) : ∃ z1, f_Mating_breed_l56 a K FU (nI s) (suL s 10) 0 z = K (nI (s + 1)) z1 ∧ Fr [375] [] z z1 ∧ BR f (s + 1) z1 := by
  have rs := b.1 s hs hz
  refine lqc (fun fu c (w : AH) => f_Mating_breed_l56 a K fu (nI s) (suL s 10) (nI c) w) (fun c w => Fr [375] [] z w ∧ BR f s w ∧ ¬ hI w 375 s = 0 ∧ ∀ d, d < c → chB s d → ¬ hI w 375 (addS s d) = 0) (fun w => K (nI (s + 1)) w) 10 (by omega) z ⟨Fr.rf _ _ _, b, hz, fun d hd => by omega⟩ (fun r e q => ⟨r, e, q.1, q.2.1.1, q.2.1.2.1, fun t ht ht' hn c hc hb => ?_⟩) (fun c fu w hc p => ?_) (fun fu w p => ?_)
  · by_cases e : t = s
    · subst e; exact q.2.2.2 c hc hb
    · exact q.2.1.2.2 t (by omega) ht' hn c hc hb
  · obtain ⟨f1, ⟨b1, b2, b3⟩, n1, d1⟩ := p
    show ∃ s', f_Mating_breed_l56 a K (fu + 1) (nI s) (suL s 10) (nI c) w = f_Mating_breed_l56 a K fu (nI s) (suL s 10) (nI (c + 1)) s' ∧ _
    rw [f_Mating_breed_l56, if_neg (show ¬ (10 : Int32) ≤ nI c from nI_ge (a := c) (b := 10) hc (by omega)), bit_v _ (show c < 32 by omega), addS_i (by omega), gx_n _ (addS_lt hs hc) (by omega), ix_n (show addS s c < 2 ^ 31 by have := addS_lt hs hc; omega)]
    simp only [lt_e, nI_1]
    have iff := suL_c hs hc
    by_cases hb : (suL s 10).toBitVec.getLsbD c = true
    · rw [if_pos hb, if_neg (by decide)]
      have hch := iff.mp hb
      have ne1 : ∀ t, ¬ hI w 375 t = 0 → ¬ hI (sI w 375 (addS s c) 1) 375 t = 0 := fun t ht => by
        rw [hI_sI]
        split
        · decide
        · exact ht
      refine ⟨_, rfl, f1.s (by simp) _ _, ⟨fun t ht hn => ?_, ne1 f b2, fun t ht ht' hn c' hc' hb' => ?_⟩, ne1 s n1, fun d hd hd' => ?_⟩
      · rw [hI_sI] at hn
        by_cases e : t = addS s c
        · rw [e]; exact rs.st hc hch
        · rw [if_neg (fun q => e q.2)] at hn; exact b1 t ht hn
      · rw [hI_sI] at hn
        have ge := addS_ge s c
        rw [if_neg (fun q => by have := q.2; omega)] at hn
        exact ne1 _ (b3 t ht ht' hn c' hc' hb')
      · by_cases e : d = c
        · subst e; rw [hI_sI_s]; decide
        · exact ne1 _ (d1 d (by omega) hd')
    · rw [if_neg hb, if_pos rfl]
      refine ⟨w, rfl, f1, ⟨b1, b2, b3⟩, n1, fun d hd hd' => ?_⟩
      by_cases e : d = c
      · subst e; exact absurd (iff.mpr hd') hb
      · exact d1 d (by omega) hd'
  · show f_Mating_breed_l56 a K (fu + 1) (nI s) (suL s 10) (nI 10) w = _
    rw [f_Mating_breed_l56, if_pos (by decide), lt_e, nI_1]
theorem i_1023 {f : Nat} (hf : f < 1024) : nI f &&& 1023 = nI f := by
  apply i_ext
  intro i hi
  rw [Int32.toBitVec_and, BitVec.getLsbD_and, nI_b hi]
  show (f.testBit i && (nI 1023).toBitVec.getLsbD i) = _
  rw [nI_b hi]
  by_cases h : i < 10
  · have : ∀ c : Fin 10, (1023 : Nat).testBit c.val = true := by decide
    rw [this ⟨i, h⟩, Bool.and_true]
  · have hb : f.testBit i = false := Nat.testBit_lt_two_pow (Nat.lt_of_lt_of_le hf (show 1024 ≤ 2 ^ i from Nat.pow_le_pow_right (n := 2) (i := 10) (by omega) (by omega)))
    rw [hb, Bool.false_and]
theorem breed_ok {f : Nat} (hf : f < 1024) (h : AH) : ∃ h1, f_Mating_breed (nI f) h = some h1 ∧ Fr [375] [(374, 1)] h h1 ∧ hI h1 374 1 = nI f ∧ ∀ s, s < 1024 → (¬ hI h1 375 s = 0 ↔ RH f s) := by
  rw [f_Mating_breed, i_1023 hf, lt_e]
  have f1 : Fr [375] [(374, 1)] h (sI h 374 1 (nI f)) := (Fr.rf _ _ _).p (by simp) _
  have v1 : hI (sI h 374 1 (nI f)) 374 1 = nI f := hI_sI_s _ _ _ _
  generalize sI h 374 1 (nI f) = h1 at f1 v1 ⊢
  obtain ⟨h2, e2, f2, a2⟩ := fill_ok (c := 375) (n := 1024) (h := h1) (by omega) rfl 0
  rw [e2, bV_s, f2.i _ _ (by simp) (by simp), v1, gx_n _ hf (by omega), lt_e, lt_e, ix_n (show f < 2 ^ 31 by omega), hI_sI_c _ _ _ _ _ (by decide), f2.i _ _ (by simp) (by simp), v1]
  have f3 : Fr [375] [(374, 1)] h (sI h2 375 f 1) := (f1.t (f2.mn (by simp) (by simp))).s (by simp) _ _
  have v3 : hI (sI h2 375 f 1) 374 1 = nI f := by rw [hI_sI_c _ _ _ _ _ (by decide), f2.i _ _ (by simp) (by simp)]; exact v1
  have b3 : BR f f (sI h2 375 f 1) := by
    have z : ∀ s, s < 1024 → ¬ s = f → hI (sI h2 375 f 1) 375 s = 0 := fun s hs hn => by rw [hI_sI, if_neg (fun q => hn q.2)]; exact a2 s hs
    refine ⟨fun s hs hn => ?_, by rw [hI_sI_s]; decide, fun s hs hs' hn => ?_⟩
    · by_cases e : s = f
      · rw [e]; exact RH.f f
      · exact absurd (z s hs e) hn
    · exact absurd (z s hs' (by omega)) hn
  generalize sI h2 375 f 1 = h3 at f3 v3 b3 ⊢
  refine lqc (fun fu j (z : AH) => f_Mating_breed_l32 (nI f) fu (nI (f + j)) z) (fun j z => Fr [375] [] h3 z ∧ BR f (f + j) z) (fun z => some z) (1024 - f) (by omega) h3 ⟨Fr.rf _ _ _, b3⟩ (fun r e q => ⟨r, e, f3.t (q.1.mn (by simp) (by simp)), by rw [q.1.i _ _ (by simp) (by simp)]; exact v3, fun s hs => ⟨q.2.1 s hs, fun r' => ?_⟩⟩) (fun j fu z hj p => ?_) (fun fu z p => ?_)
  · have qb := q.2
    have key : ∀ s, RH f s → ¬ hI r 375 s = 0 := RH.ind qb.2.1 (fun t c rt ht hc hb => qb.2.2 t (by have := RH.lt hf t rt; omega) (RH.lt hf t rt) ht c hc hb)
    exact key s r'
  · obtain ⟨f4, b4⟩ := p
    show ∃ s', f_Mating_breed_l32 (nI f) (fu + 1) (nI (f + j)) z = f_Mating_breed_l32 (nI f) fu (nI (f + j + 1)) s' ∧ Fr [375] [] h3 s' ∧ BR f (f + j + 1) s'
    rw [f_Mating_breed_l32, if_neg (show ¬ (1023 : Int32) < nI (f + j) from n_nlt (a := 1023) (b := f + j) (by omega) (by omega)), gx_n _ (show f + j < 1024 by omega) (by omega), ix_n (show f + j < 2 ^ 31 by omega)]
    by_cases h0 : hI z 375 (f + j) = 0
    · rw [if_pos h0, lt_e, nI_1]
      exact ⟨z, rfl, f4, b4.1, b4.2.1, fun s hs hs' hn => by
        by_cases e : s = f + j
        · rw [e] at hn; exact absurd h0 hn
        · exact b4.2.2 s (by omega) hs' hn⟩
    · rw [if_neg h0, sums_ok (by omega), bI_s]
      obtain ⟨z1, e1, g1, b1⟩ := breed_in hf (show f + j < 1024 by omega) (nI f) (f_Mating_breed_l32 (nI f) fu) b4 h0
      exact ⟨z1, e1, f4.t g1, b1⟩
  · show f_Mating_breed_l32 (nI f) (fu + 1) (nI (f + (1024 - f))) z = _
    rw [show f + (1024 - f) = 1024 by omega, f_Mating_breed_l32, if_pos (by decide)]
