/-! ===== copying a yard, and what an hour keeps ===== -/
theorem cpy_s {S : List Nat} {P : List (Nat × Nat)} {h h1 : AH} (f : Fr S P h h1) {c d : Nat} (hc : c ∈ S) (hd : d ∉ S) (hp : ∀ q ∈ P, ¬ q.1 = d) : Fr S P h (sF h1 c (va_cpy (hI h1 d) (hI h1 c) 0 0 6)) ∧ (∀ i, i < 6 → hI (sF h1 c (va_cpy (hI h1 d) (hI h1 c) 0 0 6)) c i = hI h d i) ∧ ∀ c', ¬ c' = c → hI (sF h1 c (va_cpy (hI h1 d) (hI h1 c) 0 0 6)) c' = hI h1 c' := by
  refine ⟨f.sf hc _, fun i hi => ?_, fun c' hc' => ?_⟩
  · rw [hI_sF, if_pos rfl]
    unfold va_cpy
    rw [if_pos (by omega), show 0 + (i - 0) = i by omega]
    exact f.i _ _ hd (fun q => hp _ q rfl)
  · rw [hI_sF, if_neg hc']
abbrev scK (t : Nat) : List Nat := [t + 1, t + 2, t + 3, t + 4, t + 5, t + 6]
theorem copy_ok {n t s : Nat} {Y : YT} {h : AH} (hn : n ≤ 6) (hts : t + 6 < s ∨ s + 6 < t) (y : YR n h s Y) : ∃ h1, f_Yard_copy t s h = some h1 ∧ Fr (scK t) (plP t) h h1 ∧ YR n h1 t Y := by
  have nS : ∀ j, j < 7 → s + j ∉ scK t := fun j hj => by simp only [scK, List.mem_cons, List.not_mem_nil, or_false]; omega
  have nP : ∀ j, j < 7 → ∀ q ∈ plP t, ¬ q.1 = s + j := fun j hj q hq => by
    simp only [plP, List.mem_cons, List.not_mem_nil, or_false] at hq
    rcases hq with rfl | rfl | rfl | rfl <;> simp only <;> omega
  rw [f_Yard_copy, lt_e]
  obtain ⟨f1, a1, o1⟩ := cpy_s (Fr.rf (scK t) (plP t) h) (c := t + 1) (d := s + 1) (by simp) (nS 1 (by omega)) (nP 1 (by omega))
  generalize sF h (t + 1) (va_cpy (hI h (s + 1)) (hI h (t + 1)) 0 0 6) = h1 at f1 a1 o1 ⊢
  rw [lt_e]
  obtain ⟨f2, a2, o2⟩ := cpy_s f1 (c := t + 2) (d := s + 2) (by simp) (nS 2 (by omega)) (nP 2 (by omega))
  generalize sF h1 (t + 2) (va_cpy (hI h1 (s + 2)) (hI h1 (t + 2)) 0 0 6) = h2 at f2 a2 o2 ⊢
  rw [lt_e]
  obtain ⟨f3, a3, o3⟩ := cpy_s f2 (c := t + 3) (d := s + 3) (by simp) (nS 3 (by omega)) (nP 3 (by omega))
  generalize sF h2 (t + 3) (va_cpy (hI h2 (s + 3)) (hI h2 (t + 3)) 0 0 6) = h3 at f3 a3 o3 ⊢
  rw [lt_e]
  obtain ⟨f4, a4, o4⟩ := cpy_s f3 (c := t + 4) (d := s + 4) (by simp) (nS 4 (by omega)) (nP 4 (by omega))
  generalize sF h3 (t + 4) (va_cpy (hI h3 (s + 4)) (hI h3 (t + 4)) 0 0 6) = h4 at f4 a4 o4 ⊢
  rw [lt_e]
  obtain ⟨f5, a5, o5⟩ := cpy_s f4 (c := t + 5) (d := s + 5) (by simp) (nS 5 (by omega)) (nP 5 (by omega))
  generalize sF h4 (t + 5) (va_cpy (hI h4 (s + 5)) (hI h4 (t + 5)) 0 0 6) = h5 at f5 a5 o5 ⊢
  rw [lt_e]
  obtain ⟨f6, a6, o6⟩ := cpy_s f5 (c := t + 6) (d := s + 6) (by simp) (nS 6 (by omega)) (nP 6 (by omega))
  generalize sF h5 (t + 6) (va_cpy (hI h5 (s + 6)) (hI h5 (t + 6)) 0 0 6) = h6 at f6 a6 o6 ⊢
  have s6 : ∀ k, hI h6 s k = hI h s k := fun k => f6.i _ _ (nS 0 (by omega)) (fun q => nP 0 (by omega) _ q rfl)
  simp only [lt_e]
  have ne : ¬ s = t := by omega
  have w : ∀ (g : AH) (k k' : Nat) (v : Int32), hI (sI g t k v) s k' = hI g s k' := fun g k k' v => by rw [hI_sI, if_neg (by omega)]
  simp only [w, s6, y.2.1, y.2.2.1, y.2.2.2.1, y.2.2.2.2]
  refine ⟨_, rfl, (((f6.p (by simp) _).p (by simp) _).p (by simp) _).p (by simp) _, fun i hi => ?_, ?_⟩
  · have g : ∀ j, ¬ j = 0 → hI (sI (sI (sI (sI h6 t 6 (Y 31)) t 7 (Y 32)) t 8 (Y 33)) t 9 (Y 34)) (t + j) = hI h6 (t + j) := fun j hj => by
      rw [hI_sI_c _ _ _ _ _ (by omega), hI_sI_c _ _ _ _ _ (by omega), hI_sI_c _ _ _ _ _ (by omega), hI_sI_c _ _ _ _ _ (by omega)]
    rw [g 1 (by omega), g 2 (by omega), g 3 (by omega), g 4 (by omega), g 5 (by omega), g 6 (by omega)]
    rw [o6 (t + 1) (by omega), o5 (t + 1) (by omega), o4 (t + 1) (by omega), o3 (t + 1) (by omega), o2 (t + 1) (by omega), a1 i (by omega)]
    rw [o6 (t + 2) (by omega), o5 (t + 2) (by omega), o4 (t + 2) (by omega), o3 (t + 2) (by omega), a2 i (by omega)]
    rw [o6 (t + 3) (by omega), o5 (t + 3) (by omega), o4 (t + 3) (by omega), a3 i (by omega)]
    rw [o6 (t + 4) (by omega), o5 (t + 4) (by omega), a4 i (by omega)]
    rw [o6 (t + 5) (by omega), a5 i (by omega), a6 i (by omega)]
    exact y.1 i hi
  · simp [hI_sI]
theorem eatN_o (M : MT) (n : Nat) (Y : YT) (k : Nat) (h : k < 6 ∨ 24 ≤ k) (hn : n ≤ 6) : eatN M n Y k = Y k := by
  unfold eatN
  rw [if_neg (by omega), if_neg (by omega), if_neg (by omega)]
theorem BN.eat {M : MT} {Y : YT} (hn : mN M ≤ 6) (b : BN M Y) : BN M (eatN M (mN M) Y) := fun i hi => by
  obtain ⟨⟨n0, n1⟩, ⟨l0, l1⟩, a1⟩ := b i hi
  refine ⟨⟨n0, n1⟩, ?_, ?_⟩
  · have e : eatN M (mN M) Y (6 + i) = (if lackS M Y i ≤ 0 then Y (6 + i) - mNd M i else Y (6 + i) - Y (6 + i)) := by
      unfold eatN
      rw [if_pos (by omega), show 6 + i - 6 = i by omega]
    rw [e]
    have hl := lack_le n0 n1 l0 l1
    unfold lackS
    by_cases hq : mNd M i ≤ Y (6 + i)
    · rw [if_pos (hl.mpr hq), i_sub (by omega) (by omega)]
      have := i_le.mp hq
      omega
    · rw [if_neg (fun q => hq (hl.mp q)), i_sf]
      exact ⟨by decide, by decide⟩
  · have e : eatN M (mN M) Y (18 + i) = (if 99 ≤ Y (18 + i) then Y (18 + i) else Y (18 + i) + 1) := by
      unfold eatN
      rw [if_neg (by omega), if_neg (by omega), if_pos (by omega)]
    rw [e]
    split
    · exact a1
    · rename_i q
      have lo := i_lo (Y (18 + i))
      have hq2 : ¬ (99 : Int) ≤ (Y (18 + i)).toInt := fun w => q (i_le.mpr w)
      rw [i_add (by show _ ≤ _ + (1 : Int); omega) (by show _ + (1 : Int) ≤ _; omega)]
      show _ + (1 : Int) ≤ 99
      omega
theorem hourS_lo (M : MT) (Y : YT) : ∃ (c : Int32) (sn : Bool), hourS M Y = hrS M (brN (mN M) (upd (upd Y 34 (seedS (Y 34))) 31 c)) ∧ c = coldS M sn (Y 31) := ⟨coldS M (snapS M (seedS (Y 34))) (Y 31), _, by
  unfold hourS passS
  rw [show upd Y 34 (seedS (Y 34)) 31 = Y 31 by rw [upd_a, if_neg (by omega)]], rfl⟩
theorem BN.hour {M : MT} {Y : YT} (hn : mN M ≤ 6) (b : BN M Y) : BN M (hourS M Y) := by
  obtain ⟨c, sn, e, -⟩ := hourS_lo M Y
  rw [e]
  have b1 : BN M (brN (mN M) (upd (upd Y 34 (seedS (Y 34))) 31 c)) := b.o hn (fun k hk => by
    unfold brN
    rw [if_neg (by omega), upd_a, if_neg (by omega), upd_a, if_neg (by omega)])
  generalize brN (mN M) (upd (upd Y 34 (seedS (Y 34))) 31 c) = Z at b1 ⊢
  unfold hrS
  split
  · exact BN.eat hn (b1.o hn (fun k hk => by rw [upd_a, if_neg (by omega), upd_a, if_neg (by omega)]))
  · exact b1.o hn (fun k hk => by rw [upd_a, if_neg (by omega)])
theorem cl_in (v m : Int32) (hm : 0 ≤ m.toInt) : 0 ≤ (cl v m).toInt ∧ (cl v m).toInt ≤ m.toInt := by
  unfold cl
  split
  · rename_i q
    have q1 : (0 : Int) ≤ v.toInt := i_le.mp q
    split
    · rename_i r
      exact ⟨q1, i_le.mp r⟩
    · exact ⟨hm, Int.le_refl _⟩
  · exact ⟨by decide, hm⟩
theorem BC.hour {M : MT} {Y : YT} (hn : mN M ≤ 6) (b : BC M Y) : BC M (hourS M Y) := by
  obtain ⟨c, sn, e, hc⟩ := hourS_lo M Y
  obtain ⟨⟨c1, c2⟩, c3⟩ := b
  refine ⟨?_, c3⟩
  have e31 : hourS M Y 31 = c := by
    rw [e]
    unfold hrS
    split
    · rw [eatN_o _ _ _ _ (by omega) hn, upd_a, if_neg (by omega), upd_a, if_neg (by omega)]
      unfold brN
      rw [if_neg (by omega), upd_a, if_pos rfl]
    · rw [upd_a, if_neg (by omega)]
      unfold brN
      rw [if_neg (by omega), upd_a, if_pos rfl]
  rw [e31, hc]
  have e1 : (Y 31 - 1).toInt = (Y 31).toInt - 1 := i_sub (by show _ ≤ _ - (1 : Int); omega) (by show _ - (1 : Int) ≤ _; omega)
  unfold coldS
  split
  · exact cl_in _ 40 (by decide)
  · split
    · exact ⟨c1, c2⟩
    · rename_i q
      have : ¬ (Y 31).toInt ≤ 0 := fun w => q (i_le.mpr w)
      omega
