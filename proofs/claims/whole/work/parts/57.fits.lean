/-! ===== fits, sure, ask ===== -/
def suF (p : Nat → Bool) : Nat → Int32
  | 0 => -1
  | k + 1 => if p k = true then (if suF p k = -1 ∨ suF p k = nI (k / 10) then nI (k / 10) else -2) else suF p k
theorem suF_2 (p : Nat → Bool) {k : Nat} (h : suF p k = -2) : ∀ n, k ≤ n → n < 1000 → suF p n = -2 := by
  intro n
  induction n with
  | zero => intro hn _; have : k = 0 := by omega
            subst this; exact h
  | succ n ih =>
    intro hn hl
    by_cases e : k = n + 1
    · subst e; exact h
    · have := ih (by omega) (by omega)
      rw [suF, this]
      split
      · rw [if_neg]
        rintro (q | q)
        · exact absurd q (by decide)
        · have := i_eq.mp q
          rw [nI_toInt (by omega), show (-2 : Int32).toInt = -2 by decide] at this
          omega
      · rfl
theorem only_ok {M : MT} {Y : YT} {E : ET} {k : Int32} {h : AH} (t : FT M Y E k 100 h) : f_Ears_onlySong h = some (suF (fitS M Y E k) 100, h) := by
  rw [f_Ears_onlySong]
  refine lpc (fun fu i (x : Int32) => f_Ears_onlySong_l4 fu x (nI i) h) (fun i x => x = suF (fitS M Y E k) i) (fun r => r = (suF (fitS M Y E k) 100, h)) 100 (by omega) (-1) rfl (fun r e q => by rw [← q]; exact e) (fun i fu x hi p => ?_) (fun fu x p => ⟨_, ?_, rfl⟩)
  · subst p
    have ed : nI i / 10 = nI (i / 10) := n_dv (a := i) (b := 10) (by omega) (by omega) (by omega)
    have er : f_Ears_onlySong_l4 (fu + 1) (suF (fitS M Y E k) i) (nI i) h = if fitS M Y E k i = true then (if suF (fitS M Y E k) i = -1 ∨ suF (fitS M Y E k) i = nI (i / 10) then f_Ears_onlySong_l4 fu (nI (i / 10)) (nI (i + 1)) h else some (-2, h)) else f_Ears_onlySong_l4 fu (suF (fitS M Y E k) i) (nI (i + 1)) h := by
      have b38 : ∀ K : Int32 → Int32 → AH → Option (Int32 × AH), f_Ears_onlySong_b38 K (nI i) h = K (nI (i / 10)) (nI (i + 1)) h := fun K => by rw [f_Ears_onlySong_b38, ed, lt_e, lt_e, nI_1]
      rw [f_Ears_onlySong_l4, if_neg (nI_ge hi (by omega)), gx_n _ hi (by omega), ix_n (show i < 2 ^ 31 by omega), t i hi, ed]
      simp only [lt_e, nI_1]
      by_cases hf : fitS M Y E k i = true
      · rw [if_pos hf, if_neg (by decide), if_pos hf, b38]
        by_cases h1 : suF (fitS M Y E k) i = -1
        · rw [if_pos h1, if_pos (Or.inl h1)]
        · rw [if_neg h1]
          by_cases h2 : suF (fitS M Y E k) i = nI (i / 10)
          · rw [if_pos h2, if_pos (Or.inr h2)]
          · rw [if_neg h2, if_neg (fun q => q.elim h1 h2)]
      · rw [if_neg hf, if_pos rfl, if_neg hf]
    show (∃ s', f_Ears_onlySong_l4 (fu + 1) (suF (fitS M Y E k) i) (nI i) h = f_Ears_onlySong_l4 fu s' (nI (i + 1)) h ∧ s' = suF (fitS M Y E k) (i + 1)) ∨ (∃ r, f_Ears_onlySong_l4 (fu + 1) (suF (fitS M Y E k) i) (nI i) h = some r ∧ _)
    rw [er]
    have es : suF (fitS M Y E k) (i + 1) = if fitS M Y E k i = true then (if suF (fitS M Y E k) i = -1 ∨ suF (fitS M Y E k) i = nI (i / 10) then nI (i / 10) else -2) else suF (fitS M Y E k) i := rfl
    by_cases hf : fitS M Y E k i = true
    · rw [if_pos hf] at es ⊢
      by_cases h1 : suF (fitS M Y E k) i = -1 ∨ suF (fitS M Y E k) i = nI (i / 10)
      · rw [if_pos h1] at es ⊢
        exact Or.inl ⟨_, rfl, es.symm⟩
      · rw [if_neg h1] at es ⊢
        refine Or.inr ⟨_, rfl, ?_⟩
        rw [suF_2 _ es 100 (by omega) (by omega)]
    · rw [if_neg hf] at es ⊢
      exact Or.inl ⟨_, rfl, es.symm⟩
  · subst p
    show f_Ears_onlySong_l4 (fu + 1) _ (nI 100) h = _
    rw [f_Ears_onlySong_l4, if_pos (nI_le (by omega) (by omega))]
def loB (M : MT) (Y : YT) (E : ET) (k c : Int32) (g i : Nat) : Bool := fitS M Y E k i && decide (¬ sgX M Y (nI g) (nI (i / 10)) (nI (i % 10)) < c)
/-- at most left, once the heat is heard -/
def owS (M : MT) (Y : YT) (E : ET) (k c : Int32) (g : Nat) : Int32 := mx (nI (cntS (loB M Y E k c g) 100)) (nI (cntS (fitS M Y E k) 100) - nI (cntS (loB M Y E k c g) 100))
theorem left_ok {M : MT} {Y : YT} {u : Nat} {E : ET} {h0 h : AH} {k : Int32} (p : EP M Y u E h0 h) (t : FT M Y E k 100 h) (n : hI h 366 9 = nI (cntS (fitS M Y E k) 100)) {g : Nat} (hg : g ≤ 40) (c : Int32) : ∃ h1, f_Ears_leftAtMost u (nI g) c h = some (owS M Y E k c g, h1) ∧ EP M Y u E h0 h1 ∧ FT M Y E k 100 h1 ∧ hI h1 366 9 = nI (cntS (fitS M Y E k) 100) := by
  have hu := p.2.1.1
  rw [f_Ears_leftAtMost]
  refine lpc (fun fu i (s : AH) => f_Ears_leftAtMost_l6 u (nI g) c fu (nI (cntS (loB M Y E k c g) i)) (nI i) s) (fun i z => EP M Y u E h0 z ∧ FT M Y E k 100 z ∧ hI z 366 9 = nI (cntS (fitS M Y E k) 100)) (fun r => r.1 = owS M Y E k c g ∧ EP M Y u E h0 r.2 ∧ FT M Y E k 100 r.2 ∧ hI r.2 366 9 = nI (cntS (fitS M Y E k) 100)) 100 (by omega) h ⟨p, t, n⟩ (fun r e q => ⟨r.2, by rw [← q.1]; exact e, q.2⟩) (fun i fu z hi q => Or.inl ?_) (fun fu z q => ?_)
  · obtain ⟨p1, t1, n1⟩ := q
    show ∃ s', f_Ears_leftAtMost_l6 u (nI g) c (fu + 1) (nI (cntS (loB M Y E k c g) i)) (nI i) z = f_Ears_leftAtMost_l6 u (nI g) c fu (nI (cntS (loB M Y E k c g) (i + 1))) (nI (i + 1)) s' ∧ _
    rw [f_Ears_leftAtMost_l6, if_neg (nI_ge hi (by omega)), gx_n _ hi (by omega), ix_n (show i < 2 ^ 31 by omega), t1 i hi]
    simp only [lt_e, nI_1]
    by_cases hf : fitS M Y E k i = true
    · rw [if_pos hf, if_neg (by decide)]
      obtain ⟨h2, e2, f2, v2⟩ := sings_ok p1.2.1 p1.2.2.2 hg hi
      rw [e2, bI_s]
      have p2 := p1.st f2 v2
      have t2 : FT M Y E k 100 h2 := fun j hj => by rw [f2.i _ _ (by simp; omega) (by simp)]; exact t1 j hj
      have n2 : hI h2 366 9 = nI (cntS (fitS M Y E k) 100) := by rw [f2.i _ _ (by simp; omega) (by simp)]; exact n1
      by_cases hl : sgX M Y (nI g) (nI (i / 10)) (nI (i % 10)) < c
      · rw [if_pos hl]
        have : loB M Y E k c g i = false := by unfold loB; simp [hl]
        exact ⟨h2, by simp [cntS, this], p2, t2, n2⟩
      · rw [if_neg hl]
        have : loB M Y E k c g i = true := by unfold loB; simp [hf, hl]
        exact ⟨h2, by simp [cntS, this], p2, t2, n2⟩
    · rw [if_neg hf, if_pos rfl]
      have : loB M Y E k c g i = false := by unfold loB; simp [hf]
      exact ⟨z, by simp [cntS, this], p1, t1, n1⟩
  · obtain ⟨p1, t1, n1⟩ := q
    refine ⟨(owS M Y E k c g, z), ?_, rfl, p1, t1, n1⟩
    show f_Ears_leftAtMost_l6 u (nI g) c (fu + 1) _ (nI 100) z = _
    rw [f_Ears_leftAtMost_l6, if_pos (nI_le (by omega) (by omega)), n1]
    rfl
def askS (M : MT) (Y : YT) (E : ET) (c a k : Int32) : Int32 := if 0 ≤ c ∧ c ≤ 99 then (if 0 ≤ a ∧ a ≤ 1 then (if cntS (fitS M Y E k) 100 = 0 then -1 else (if a = 0 then nI (edS (owS M Y E k c) false 40).1 else (edS (owS M Y E k c) false 40).2)) else -1) else -1
def YV (Y : YT) : Prop := ¬ Y 32 = -1
theorem H_fits_ok {M : MT} {Y : YT} {u : Nat} {E : ET} {h : AH} (w : EW E) (s : HS h M Y u) (m : EH h E) (v : hI h 366 7 = -1 ∨ ∃ Z, SV M Z h) (hy : YV Y) (k : Int32) : ∃ h1, f_H_fits k h = some (nI (cntS (fitS M Y E k) 100), h1) ∧ Fr (scQ u) plQ h h1 ∧ SV M Y h1 := by
  obtain ⟨h1, e1, p1, -, -⟩ := find_ok w s m v hy k
  refine ⟨h1, ?_, p1.1, p1.2.2.2⟩
  rw [f_H_fits, gd_ok _ s.2.1 (kd_u s.1), e1, bI_s]
theorem H_sure_ok {M : MT} {Y : YT} {u : Nat} {E : ET} {h : AH} (w : EW E) (s : HS h M Y u) (m : EH h E) (v : hI h 366 7 = -1 ∨ ∃ Z, SV M Z h) (hy : YV Y) (k : Int32) : ∃ h1, f_H_sure k h = some (suF (fitS M Y E k) 100, h1) ∧ Fr (scQ u) plQ h h1 ∧ SV M Y h1 := by
  obtain ⟨h1, e1, p1, t1, -⟩ := find_ok w s m v hy k
  refine ⟨h1, ?_, p1.1, p1.2.2.2⟩
  rw [f_H_sure, gd_ok _ s.2.1 (kd_u s.1), e1, bI_s, only_ok t1, bI_s]
theorem H_ask_ok {M : MT} {Y : YT} {u : Nat} {E : ET} {h : AH} (w : EW E) (s : HS h M Y u) (m : EH h E) (v : hI h 366 7 = -1 ∨ ∃ Z, SV M Z h) (hy : YV Y) (c a k : Int32) : ∃ h1, f_H_ask c a k h = some (askS M Y E c a k, h1) ∧ Fr (scQ u) plQ h h1 ∧ (hI h1 366 7 = -1 ∨ ∃ Z, SV M Z h1) := by
  rw [f_H_ask, within_e, bI_s]
  unfold askS
  by_cases hc : 0 ≤ c ∧ c ≤ 99
  · rw [if_pos hc, if_neg (by decide), if_pos hc, within_e, bI_s]
    by_cases ha : 0 ≤ a ∧ a ≤ 1
    · rw [if_pos ha, if_neg (by decide), if_pos ha, gd_ok _ s.2.1 (kd_u s.1)]
      obtain ⟨h1, e1, p1, t1, n1⟩ := find_ok w s m v hy k
      rw [e1, bI_s]
      have cl := cntS_le (fitS M Y E k) 100
      by_cases h0 : cntS (fitS M Y E k) 100 = 0
      · rw [h0, if_neg (fun q => q rfl), if_pos rfl]
        exact ⟨h1, rfl, p1.1, Or.inr ⟨Y, p1.2.2.2⟩⟩
      · rw [if_pos (fun q => h0 ((n_z (by omega)).mp q)), if_neg h0, gd_ok _ p1.2.1.2.1 (kd_u s.1)]
        obtain ⟨h2, e2, p2, t2, n2⟩ := left_ok p1 t1 n1 (g := 0) (by omega) c
        rw [show f_Ears_leftAtMost u 0 c h1 = some (owS M Y E k c 0, h2) from e2, bI_s]
        generalize hn : (40 : Nat) = n40
        refine lpc (fun fu g (x : Int32 × Int32 × AH) => f_H_ask_l61 c a k fu x.1 x.2.1 (nI (g + 1)) x.2.2) (fun g x => x.1 = nI (edS (owS M Y E k c) false g).1 ∧ x.2.1 = (edS (owS M Y E k c) false g).2 ∧ EP M Y u E h x.2.2 ∧ FT M Y E k 100 x.2.2 ∧ hI x.2.2 366 9 = nI (cntS (fitS M Y E k) 100)) (fun r => r.1 = (if a = 0 then nI (edS (owS M Y E k c) false n40).1 else (edS (owS M Y E k c) false n40).2) ∧ EP M Y u E h r.2) n40 (by omega) (0, owS M Y E k c 0, h2) ⟨rfl, rfl, p2, t2, n2⟩ (fun r e q => ⟨r.2, by rw [← q.1]; exact e, q.2.1, Or.inr ⟨Y, q.2.2.2.2⟩⟩) (fun g fu x hg q => Or.inl ?_) (fun fu x q => ?_)
        · obtain ⟨x, y, z⟩ := x
          obtain ⟨rfl, rfl, p3, t3, n3⟩ := q
          obtain ⟨h4, e4, p4, t4, n4⟩ := left_ok p3 t3 n3 (g := g + 1) (by omega) c
          refine ⟨(nI (edS (owS M Y E k c) false (g + 1)).1, (edS (owS M Y E k c) false (g + 1)).2, h4), ?_, rfl, rfl, p4, t4, n4⟩
          show f_H_ask_l61 c a k (fu + 1) (nI (edS (owS M Y E k c) false g).1) (edS (owS M Y E k c) false g).2 (nI (g + 1)) z = f_H_ask_l61 c a k fu (nI (edS (owS M Y E k c) false (g + 1)).1) (edS (owS M Y E k c) false (g + 1)).2 (nI (g + 1 + 1)) h4
          have eb : edS (owS M Y E k c) false (g + 1) = if bet false (edS (owS M Y E k c) false g).2 (owS M Y E k c (g + 1)) = true then (g + 1, owS M Y E k c (g + 1)) else edS (owS M Y E k c) false g := rfl
          rw [f_H_ask_l61, if_neg (show ¬ (40 : Int32) < nI (g + 1) from n_nlt (a := 40) (b := g + 1) (by omega) (by omega)), gd_ok _ p3.2.1.2.1 (kd_u s.1), e4, bI_s]
          simp only [lt_e, nI_1]
          generalize edS (owS M Y E k c) false (g + 1) = N at eb ⊢
          subst eb
          by_cases hb : owS M Y E k c (g + 1) < (edS (owS M Y E k c) false g).2
          · rw [if_neg (Int32.not_le.mpr hb), if_pos (show bet false (edS (owS M Y E k c) false g).2 (owS M Y E k c (g + 1)) = true by simp [bet, hb])]
          · rw [if_pos (Int32.not_lt.mp hb), if_neg (show ¬ bet false (edS (owS M Y E k c) false g).2 (owS M Y E k c (g + 1)) = true by simp [bet, hb])]
        · obtain ⟨x, y, z⟩ := x
          obtain ⟨rfl, rfl, p3, t3, n3⟩ := q
          refine ⟨((if a = 0 then nI (edS (owS M Y E k c) false n40).1 else (edS (owS M Y E k c) false n40).2), z), ?_, rfl, p3⟩
          show f_H_ask_l61 c a k (fu + 1) _ _ (nI (n40 + 1)) z = _
          rw [f_H_ask_l61, if_pos (show (40 : Int32) < nI (n40 + 1) from n_lt (a := 40) (b := n40 + 1) (by omega) (by omega))]
          by_cases h0 : a = 0
          · rw [if_neg (fun q => q h0), if_pos h0]
          · rw [if_pos h0, if_neg h0]
    · rw [if_neg ha, if_pos rfl, if_neg ha]
      exact ⟨h, rfl, Fr.rf _ _ _, v⟩
  · rw [if_neg hc, if_pos rfl, if_neg hc]
    exact ⟨h, rfl, Fr.rf _ _ _, v⟩
/-! the reference -/
abbrev scM : List Nat := [393, 395, 406, 418]
def QP (M : MT) (Y : YT) (E : ET) (h0 h : AH) : Prop := Fr scM [] h0 h ∧ MM h M ∧ AY h Y ∧ EM h E
theorem QP.st {M : MT} {Y : YT} {E : ET} {h0 h h1 : AH} (p : QP M Y E h0 h) (f : Fr [393, 395, 418] [] h h1) : QP M Y E h0 h1 := ⟨p.1.t (f.mn (by simp) (by simp)), p.2.1.fr f (by simp) (by simp), p.2.2.1.fr f (by simp) (by simp), p.2.2.2.fr f (by simp) (by simp)⟩
theorem MisFit_ok {M : MT} {Y : YT} {E : ET} {h0 h : AH} (w : EW E) (p : QP M Y E h0 h) {i : Nat} (hi : i < 100) (k : Int32) : ∃ h1, f_M_isFit (nI (i / 10)) (nI (i % 10)) k h = some (if fitS M Y E k i = true then 1 else 0, h1) ∧ Fr sc [] h h1 := by
  have h30 := w.1
  rw [f_M_isFit]
  have gg : ∀ (c : Bool) (K : Option (Int32 × AH)), gb (if c = true then 1 else 0) K = K := fun c K => by cases c; exact gb_0 K; exact gb_1 K
  refine lpc (fun fu j (x : Int32 × AH) => f_M_isFit_l6 (nI (i / 10)) (nI (i % 10)) k fu x.1 (nI j) x.2) (fun j x => x.1 = (if allB (okE M Y E i k) j = true then 1 else 0) ∧ Fr sc [] h x.2) (fun r => r.1 = (if fitS M Y E k i = true then 1 else 0) ∧ Fr sc [] h r.2) (eN E) (by omega) (1, h) ⟨rfl, Fr.rf _ _ _⟩ (fun r e q => ⟨r.2, by rw [← q.1]; exact e, q.2⟩) (fun j fu x hj q => ?_) (fun fu x q => ?_)
  · obtain ⟨x, z⟩ := x
    obtain ⟨rfl, f1⟩ := q
    have p1 := p.st (f1.mn (by simp) (by simp))
    obtain ⟨m1, m2, m3, m4, m5⟩ := p1.2.2.2.2.2 j hj
    obtain ⟨⟨g, hg, eg⟩, hd, hun⟩ := w.2.1 j hj
    have gj : ∀ K : Option (Int32 × AH), gx (nI j) 30 K = K := fun K => gx_n K (by omega) (by omega)
    have er : ∀ c : Bool, f_M_isFit_l6 (nI (i / 10)) (nI (i % 10)) k (fu + 1) (if c = true then 1 else 0) (nI j) z = if c = false then some (0, z) else f_M_isFit_l6 (nI (i / 10)) (nI (i % 10)) k (fu + 1) 1 (nI j) z := fun c => by
      cases c with
      | false => rw [f_M_isFit_l6, p1.2.2.2.1, if_neg (nI_ge hj (by omega)), if_pos (show (if false = true then (1 : Int32) else 0) = 0 from rfl), gg, if_pos rfl]; rfl
      | true => rfl
    show (∃ s' : Int32 × AH, f_M_isFit_l6 (nI (i / 10)) (nI (i % 10)) k (fu + 1) (if allB (okE M Y E i k) j = true then 1 else 0) (nI j) z = f_M_isFit_l6 (nI (i / 10)) (nI (i % 10)) k fu s'.1 (nI (j + 1)) s'.2 ∧ _) ∨ (∃ r, f_M_isFit_l6 (nI (i / 10)) (nI (i % 10)) k (fu + 1) (if allB (okE M Y E i k) j = true then 1 else 0) (nI j) z = some r ∧ _)
    rw [er]
    by_cases ha : allB (okE M Y E i k) j = false
    · rw [if_pos ha]
      have fa : ∀ n, j ≤ n → allB (okE M Y E i k) n = false := fun n hn => by
        induction n with
        | zero => have : j = 0 := by omega
                  subst this; exact ha
        | succ n ih =>
          by_cases e : j = n + 1
          · subst e; exact ha
          · show (allB _ n && _) = false
            rw [ih (by omega), Bool.false_and]
      refine Or.inr ⟨_, rfl, ?_, f1⟩
      show (0 : Int32) = if allB (okE M Y E i k) (eN E) = true then 1 else 0
      rw [fa _ (by omega)]
      rfl
    · rw [if_neg ha]
      have ht : allB (okE M Y E i k) j = true := by
        cases h : allB (okE M Y E i k) j with
        | false => exact absurd h ha
        | true => rfl
      refine Or.inl ?_
      have ek : allB (okE M Y E i k) (j + 1) = okE M Y E i k j := by
        show (allB _ j && _) = _
        rw [ht, Bool.true_and]
      obtain ⟨h2, e2, f2⟩ := M_chirpsAt_ok p1.2.1 p1.2.2.1 (eHt E j) (nI (i / 10)) (nI (i % 10)) 0
      have f12 : Fr sc [] h h2 := f1.t f2
      have p2 := p.st (f12.mn (by simp) (by simp))
      have b84 : ∀ K v, f_M_isFit_b84 (nI (i / 10)) (nI (i % 10)) k K (nI j) v h2 = if v = eHd E j then K 1 (nI (j + 1)) h2 else K 0 (nI (j + 1)) h2 := fun K v => by
        rw [f_M_isFit_b84, gj, ix_n (show j < 2 ^ 31 by omega), (p2.2.2.2.2.2 j hj).2.2.1]
        simp only [lt_e, nI_1]
        by_cases q : v = eHd E j
        · rw [if_neg (fun z => z q), if_pos q]
        · rw [if_pos q, if_neg q]
      have b55 : ∀ K, f_M_isFit_b55 (nI (i / 10)) (nI (i % 10)) k K (nI j) z = if (if sgX M Y (eHt E j) (nI (i / 10)) (nI (i % 10)) < eCh E j then (0 : Int32) else 1) = eHd E j then K 1 (nI (j + 1)) h2 else K 0 (nI (j + 1)) h2 := fun K => by
        rw [f_M_isFit_b55, gj, ix_n (show j < 2 ^ 31 by omega), m1, e2, bI_s, gj, (p2.2.2.2.2.2 j hj).2.1, b84, b84]
        show (if sgX M Y (eHt E j) (nI (i / 10)) (nI (i % 10)) < eCh E j then _ else _) = _
        split <;> rfl
      have yes : okE M Y E i k j = true → ∃ s' : Int32 × AH, f_M_isFit_l6 (nI (i / 10)) (nI (i % 10)) k fu 1 (nI (j + 1)) z = f_M_isFit_l6 (nI (i / 10)) (nI (i % 10)) k fu s'.1 (nI (j + 1)) s'.2 ∧ s'.1 = (if allB (okE M Y E i k) (j + 1) = true then 1 else 0) ∧ Fr sc [] h s'.2 := fun ho => ⟨(1, z), rfl, by rw [ek, ho]; rfl, f1⟩
      have tst : (decide (k < eTl E j) || (!decide (eUn E j = -1) && decide (eUn E j ≤ k))) = false → ∃ s' : Int32 × AH, f_M_isFit_b55 (nI (i / 10)) (nI (i % 10)) k (f_M_isFit_l6 (nI (i / 10)) (nI (i % 10)) k fu) (nI j) z = f_M_isFit_l6 (nI (i / 10)) (nI (i % 10)) k fu s'.1 (nI (j + 1)) s'.2 ∧ s'.1 = (if allB (okE M Y E i k) (j + 1) = true then 1 else 0) ∧ Fr sc [] h s'.2 := fun hc => by
        rw [b55, ek]
        unfold okE
        rw [hc, Bool.false_or]
        by_cases q : (if sgX M Y (eHt E j) (nI (i / 10)) (nI (i % 10)) < eCh E j then (0 : Int32) else 1) = eHd E j
        · rw [if_pos q, decide_eq_true q]
          exact ⟨(1, h2), rfl, rfl, f12⟩
        · rw [if_neg q, decide_eq_false q]
          exact ⟨(0, h2), rfl, rfl, f12⟩
      rw [f_M_isFit_l6, p1.2.2.2.1, if_neg (nI_ge hj (by omega)), if_neg (by decide), gj, gj, gj, ix_n (show j < 2 ^ 31 by omega), m4, m5]
      simp only [lt_e, nI_1]
      by_cases q1 : k < eTl E j
      · rw [if_pos q1]
        exact yes (by unfold okE; simp [q1])
      · rw [if_neg q1]
        by_cases q2 : eUn E j = -1
        · rw [q2, if_pos (by decide)]
          exact tst (by simp [q1, q2])
        · have q3 := hun.resolve_left q2
          rw [if_neg (Int32.not_lt.mpr q3)]
          by_cases q4 : k < eUn E j
          · rw [if_pos q4]
            exact tst (by simp [q1, Int32.not_le.mpr q4])
          · rw [if_neg q4]
            exact yes (by unfold okE; simp [q2, Int32.not_lt.mp q4])
  · obtain ⟨x, z⟩ := x
    obtain ⟨rfl, f1⟩ := q
    have p1 := p.st (f1.mn (by simp) (by simp))
    refine ⟨((if fitS M Y E k i = true then 1 else 0), z), ?_, rfl, f1⟩
    show f_M_isFit_l6 (nI (i / 10)) (nI (i % 10)) k (fu + 1) (if allB (okE M Y E i k) (eN E) = true then 1 else 0) (nI (eN E)) z = _
    rw [f_M_isFit_l6, p1.2.2.2.1, if_pos (nI_le (by omega) (by omega)), gg]
    rfl
def FM (M : MT) (Y : YT) (E : ET) (k : Int32) (m : Nat) (h : AH) : Prop := ∀ i, i < m → hI h 418 i = if fitS M Y E k i = true then 1 else 0
theorem lay_in {M : MT} {Y : YT} {E : ET} {h0 h : AH} (w : EW E) {s : Nat} (hs : s < 10) (k : Int32) (K : Int32 → Int32 → AH → Option (Int32 × AH)) (p : QP M Y E h0 h) (t : FM M Y E k (10 * s) h) : ∃ h1, f_M_layFits_l17 k K FU (nI (cntS (fitS M Y E k) (10 * s))) (nI s) 0 h = K (nI (cntS (fitS M Y E k) (10 * s + 10))) (nI (s + 1)) h1 ∧ QP M Y E h0 h1 ∧ FM M Y E k (10 * s + 10) h1 := by
  refine lqc (fun fu a (z : AH) => f_M_layFits_l17 k K fu (nI (cntS (fitS M Y E k) (10 * s + a))) (nI s) (nI a) z) (fun a z => QP M Y E h0 z ∧ FM M Y E k (10 * s + a) z) (fun z => K (nI (cntS (fitS M Y E k) (10 * s + 10))) (nI (s + 1)) z) 10 (by omega) h ⟨p, t⟩ (fun r e q => ⟨r, e, q⟩) (fun a fu z ha q => ?_) (fun fu z q => ?_)
  · obtain ⟨p1, t1⟩ := q
    have hi : 10 * s + a < 100 := by omega
    obtain ⟨h2, e2, f2⟩ := MisFit_ok w p1 hi k
    rw [show (10 * s + a) / 10 = s by omega, show (10 * s + a) % 10 = a by omega] at e2
    have p2 := p1.st (f2.mn (by simp) (by simp))
    show ∃ s', f_M_layFits_l17 k K (fu + 1) (nI (cntS (fitS M Y E k) (10 * s + a))) (nI s) (nI a) z = f_M_layFits_l17 k K fu (nI (cntS (fitS M Y E k) (10 * s + a + 1))) (nI s) (nI (a + 1)) s' ∧ QP M Y E h0 s' ∧ FM M Y E k (10 * s + a + 1) s'
    have ei : (10 : Int32) * nI s + nI a = nI (10 * s + a) := by
      rw [show (10 : Int32) = nI 10 from rfl, n_ml (by omega) (by omega) (by omega), n_add]
    have f3 : Fr [393, 395, 418] [] h2 (sI h2 418 (10 * s + a) (if fitS M Y E k (10 * s + a) = true then 1 else 0)) := (Fr.rf _ _ _).s (by simp) _ _
    refine ⟨sI h2 418 (10 * s + a) (if fitS M Y E k (10 * s + a) = true then 1 else 0), ?_, p2.st f3, fun i hi' => ?_⟩
    · rw [f_M_layFits_l17, if_neg (show ¬ (10 : Int32) ≤ nI a from nI_ge (a := a) (b := 10) ha (by omega)), e2, bI_s, ei, gx_n _ hi (by omega), ix_n (show 10 * s + a < 2 ^ 31 by omega), nar_b, lt_e, M_truth_b, bI_s, lt_e, lt_e, nI_1]
      by_cases hf : fitS M Y E k (10 * s + a) = true
      · rw [if_pos hf, if_neg (by decide), nI_1]
        simp [cntS, hf]
      · rw [if_neg hf, if_pos rfl, Int32.add_zero]
        simp [cntS, hf]
    · rw [hI_sI]
      by_cases e : i = 10 * s + a
      · subst e; rw [if_pos ⟨rfl, rfl⟩]
      · rw [if_neg (fun q => e q.2), f2.i _ _ (by simp) (by simp)]
        exact t1 i (by omega)
  · show f_M_layFits_l17 k K (fu + 1) _ (nI s) (nI 10) z = _
    rw [f_M_layFits_l17, if_pos (by decide), lt_e, nI_1]

theorem layFits_ok {M : MT} {Y : YT} {E : ET} {h : AH} (w : EW E) (s : MS h M Y) (m : EM h E) (k : Int32) : ∃ h1, f_M_layFits k h = some (nI (cntS (fitS M Y E k) 100), h1) ∧ QP M Y E h h1 ∧ FM M Y E k 100 h1 := by
  obtain ⟨h1, e1, p1⟩ := PA.ld s
  rw [f_M_layFits, e1, bV_s]
  refine lqc (fun fu s (z : AH) => f_M_layFits_l8 k fu (nI (cntS (fitS M Y E k) (10 * s))) (nI s) z) (fun s z => QP M Y E h z ∧ FM M Y E k (10 * s) z) (fun z => some (nI (cntS (fitS M Y E k) 100), z)) 10 (by omega) h1 ⟨⟨p1.1.mn (by simp) (by simp), p1.2.1, p1.2.2, m.fr p1.1 (by simp) (by simp)⟩, fun i hi => by omega⟩ (fun r e q => ⟨r, e, q⟩) (fun s fu z hs q => ?_) (fun fu z q => ?_)
  · obtain ⟨z1, e2, q2⟩ := lay_in w hs k (f_M_layFits_l8 k fu) q.1 q.2
    refine ⟨z1, ?_, by rw [show 10 * (s + 1) = 10 * s + 10 by omega]; exact q2⟩
    show f_M_layFits_l8 k (fu + 1) _ (nI s) z = f_M_layFits_l8 k fu (nI (cntS (fitS M Y E k) (10 * (s + 1)))) (nI (s + 1)) z1
    rw [f_M_layFits_l8, if_neg (show ¬ (10 : Int32) ≤ nI s from nI_ge (a := s) (b := 10) hs (by omega)), show 10 * (s + 1) = 10 * s + 10 by omega]
    exact e2
  · show f_M_layFits_l8 k (fu + 1) (nI (cntS (fitS M Y E k) 100)) (nI 10) z = _
    rw [f_M_layFits_l8, if_pos (by decide)]
theorem M_fits_ok {M : MT} {Y : YT} {E : ET} {h : AH} (w : EW E) (s : MS h M Y) (m : EM h E) (k : Int32) : ∃ h1, f_M_fits k h = some (nI (cntS (fitS M Y E k) 100), h1) ∧ Fr scM [] h h1 := by
  obtain ⟨h1, e1, p1, -⟩ := layFits_ok w s m k
  exact ⟨h1, by rw [f_M_fits, e1, bI_s], p1.1⟩
theorem cntS_0 {p : Nat → Bool} : ∀ n, cntS p n = 0 → ∀ i, i < n → p i = false := by
  intro n
  induction n with
  | zero => intro _ i hi; omega
  | succ n ih =>
    intro h i hi
    have hn : p n = false := by
      cases e : p n with
      | false => rfl
      | true => simp [cntS, e] at h
    by_cases e : i = n
    · subst e; exact hn
    · exact ih (by simpa [cntS, hn] using h) i (by omega)
theorem suF_0 {p : Nat → Bool} : ∀ n, (∀ i, i < n → p i = false) → suF p n = -1 := by
  intro n
  induction n with
  | zero => intro _; rfl
  | succ n ih =>
    intro h
    rw [suF, if_neg (by rw [h n (by omega)]; decide)]
    exact ih (fun i hi => h i (by omega))
theorem M_sure_ok {M : MT} {Y : YT} {E : ET} {h : AH} (w : EW E) (s : MS h M Y) (m : EM h E) (k : Int32) : ∃ h1, f_M_sure k h = some (suF (fitS M Y E k) 100, h1) ∧ Fr scM [] h h1 := by
  obtain ⟨h1, e1, p1, t1⟩ := layFits_ok w s m k
  have cl := cntS_le (fitS M Y E k) 100
  rw [f_M_sure, e1, bI_s]
  refine ⟨h1, ?_, p1.1⟩
  by_cases h0 : cntS (fitS M Y E k) 100 = 0
  · rw [h0, if_neg (fun q => q rfl), suF_0 100 (cntS_0 100 h0)]
  · rw [if_pos (fun q => h0 ((n_z (by omega)).mp q))]
    refine lqc (fun fu i (x : Int32) => f_M_sure_l14 k fu x (nI i) h1) (fun i x => x = suF (fitS M Y E k) i) (fun x => some (x, h1)) 100 (by omega) (-1) rfl (fun r e q => by rw [← q]; exact e) (fun i fu x hi p => ⟨suF (fitS M Y E k) (i + 1), ?_, rfl⟩) (fun fu x p => ?_)
    · subst p
      have ed : nI i / 10 = nI (i / 10) := n_dv (a := i) (b := 10) (by omega) (by omega) (by omega)
      have b49 : ∀ K x, f_M_sure_b49 k K (nI i) x h1 = K x (nI (i + 1)) h1 := fun K x => by rw [f_M_sure_b49, lt_e, nI_1]
      show f_M_sure_l14 k (fu + 1) (suF (fitS M Y E k) i) (nI i) h1 = f_M_sure_l14 k fu (suF (fitS M Y E k) (i + 1)) (nI (i + 1)) h1
      rw [f_M_sure_l14, if_neg (show ¬ (100 : Int32) ≤ nI i from nI_ge (a := i) (b := 100) hi (by omega)), gx_n _ hi (by omega), ix_n (show i < 2 ^ 31 by omega), t1 i hi, ed, suF]
      simp only [lt_e, nI_1, b49]
      by_cases hf : fitS M Y E k i = true
      · rw [if_pos hf, if_pos (by decide), if_pos hf]
        by_cases q1 : suF (fitS M Y E k) i = -1
        · rw [if_pos q1, if_pos (Or.inl q1)]
        · rw [if_neg q1]
          by_cases q2 : suF (fitS M Y E k) i = nI (i / 10)
          · rw [if_neg (fun z => z q2), if_pos (Or.inr q2)]
          · rw [if_pos q2, if_neg (fun q => q.elim q1 q2)]
      · rw [if_neg hf, if_neg (by decide), if_neg hf]
    · show f_M_sure_l14 k (fu + 1) x (nI 100) h1 = _
      rw [f_M_sure_l14, if_pos (by decide)]
theorem loud_ok {M : MT} {Y : YT} {E : ET} {h0 h : AH} {k : Int32} (p : QP M Y E h0 h) (t : FM M Y E k 100 h) (g : Nat) (c : Int32) : ∃ h1, f_M_loudAt (nI g) c h = some (nI (cntS (loB M Y E k c g) 100), h1) ∧ Fr sc [] h h1 := by
  rw [f_M_loudAt]
  refine lqc (fun fu i (z : AH) => f_M_loudAt_l5 (nI g) c fu (nI (cntS (loB M Y E k c g) i)) (nI i) z) (fun i z => Fr sc [] h z) (fun z => some (nI (cntS (loB M Y E k c g) 100), z)) 100 (by omega) h (Fr.rf _ _ _) (fun r e q => ⟨r, e, q⟩) (fun i fu z hi q => ?_) (fun fu z q => ?_)
  · have ed : nI i / 10 = nI (i / 10) := n_dv (a := i) (b := 10) (by omega) (by omega) (by omega)
    have em : nI i - nI (i / 10) * 10 = nI (i % 10) := by
      have := n_md (a := i) (b := 10) (by omega) (by omega) (by omega)
      rw [n_dv (by omega) (by omega) (by omega)] at this
      exact this
    have p1 := p.st (q.mn (by simp) (by simp))
    have b48 : ∀ (K : Int32 → Int32 → AH → Option (Int32 × AH)) (v0 : Int32) (b : Bool) (w : AH), f_M_loudAt_b48 (nI g) c K (nI i) v0 (if b = true then 1 else 0) w = K (v0 + (if b = true then 1 else 0)) (nI (i + 1)) w := fun K v0 b w => by
      rw [f_M_loudAt_b48, M_truth_b, bI_s, lt_e, lt_e, nI_1]
      cases b <;> rfl
    show ∃ s', f_M_loudAt_l5 (nI g) c (fu + 1) (nI (cntS (loB M Y E k c g) i)) (nI i) z = f_M_loudAt_l5 (nI g) c fu (nI (cntS (loB M Y E k c g) (i + 1))) (nI (i + 1)) s' ∧ Fr sc [] h s'
    have b0 : ∀ w, f_M_loudAt_b47 (nI g) c (f_M_loudAt_l5 (nI g) c fu) (nI i) (nI (cntS (loB M Y E k c g) i)) w = f_M_loudAt_l5 (nI g) c fu (nI (cntS (loB M Y E k c g) i)) (nI (i + 1)) w := fun w => by
      rw [f_M_loudAt_b47]
      exact (b48 _ _ false w).trans (by rw [if_neg (by decide), Int32.add_zero])
    have b1 : ∀ w, f_M_loudAt_b48 (nI g) c (f_M_loudAt_l5 (nI g) c fu) (nI i) (nI (cntS (loB M Y E k c g) i)) 1 w = f_M_loudAt_l5 (nI g) c fu (nI (cntS (loB M Y E k c g) i + 1)) (nI (i + 1)) w := fun w => (b48 _ _ true w).trans (by rw [if_pos rfl, nI_1])
    rw [f_M_loudAt_l5, if_neg (show ¬ (100 : Int32) ≤ nI i from nI_ge (a := i) (b := 100) hi (by omega)), gx_n _ hi (by omega), ix_n (show i < 2 ^ 31 by omega), q.i _ _ (by simp) (by simp), t i hi, ed, em, b0]
    by_cases hf : fitS M Y E k i = true
    · rw [if_pos hf, if_neg (by decide)]
      obtain ⟨h2, e2, f2⟩ := M_chirpsAt_ok p1.2.1 p1.2.2.1 (nI g) (nI (i / 10)) (nI (i % 10)) 0
      have e2' : f_M_chirpsAt (nI g) (nI (i / 10)) (nI (i % 10)) 0 z = some (sgX M Y (nI g) (nI (i / 10)) (nI (i % 10)), h2) := e2
      rw [e2', bI_s, b0, b1]
      by_cases hl : sgX M Y (nI g) (nI (i / 10)) (nI (i % 10)) < c
      · have : loB M Y E k c g i = false := by unfold loB; simp [hl]
        rw [if_pos hl]
        exact ⟨h2, by simp [cntS, this], q.t f2⟩
      · have : loB M Y E k c g i = true := by unfold loB; simp [hf, hl]
        rw [if_neg hl]
        exact ⟨h2, by simp [cntS, this], q.t f2⟩
    · have : loB M Y E k c g i = false := by unfold loB; simp [hf]
      rw [if_neg hf, if_pos rfl]
      exact ⟨z, by simp [cntS, this], q⟩
  · show f_M_loudAt_l5 (nI g) c (fu + 1) _ (nI 100) z = _
    rw [f_M_loudAt_l5, if_pos (by decide)]
theorem cntS_lo (M : MT) (Y : YT) (E : ET) (k c : Int32) (g : Nat) : ∀ n, cntS (loB M Y E k c g) n ≤ cntS (fitS M Y E k) n := by
  intro n
  induction n with
  | zero => exact Nat.le_refl _
  | succ n ih =>
    have : loB M Y E k c g n = true → fitS M Y E k n = true := fun h => by unfold loB at h; simp only [Bool.and_eq_true] at h; exact h.1
    simp only [cntS]
    by_cases q : loB M Y E k c g n = true
    · rw [if_pos q, if_pos (this q)]; omega
    · rw [if_neg q]; split <;> omega
theorem ow_le (M : MT) (Y : YT) (E : ET) (k c : Int32) (g : Nat) : (owS M Y E k c g).toInt ≤ cntS (fitS M Y E k) 100 := by
  have h1 := cntS_lo M Y E k c g 100
  have h2 := cntS_le (fitS M Y E k) 100
  unfold owS
  rw [n_sb h1 (by omega)]
  unfold mx
  split
  · rw [nI_toInt (by omega)]; omega
  · rw [nI_toInt (by omega)]; omega
theorem M_ask_ok {M : MT} {Y : YT} {E : ET} {h : AH} (w : EW E) (s : MS h M Y) (m : EM h E) (c a k : Int32) : ∃ h1, f_M_ask c a k h = some (askS M Y E c a k, h1) ∧ Fr scM [] h h1 := by
  rw [f_M_ask, isIn_e, bI_s]
  unfold askS
  by_cases hc : 0 ≤ c ∧ c ≤ 99
  · rw [if_pos hc, if_neg (by decide), if_pos hc, isIn_e, bI_s]
    by_cases ha : 0 ≤ a ∧ a ≤ 1
    · rw [if_pos ha, if_pos (by decide), if_pos ha]
      obtain ⟨h1, e1, p1, t1⟩ := layFits_ok w s m k
      rw [e1, bI_s, lt_e, nI_1]
      have cl := cntS_le (fitS M Y E k) 100
      by_cases h0 : cntS (fitS M Y E k) 100 = 0
      · rw [h0, if_pos rfl]
        refine ⟨h1, ?_, p1.1⟩
        show f_M_ask_l40 c a k (999999 + 1) 0 (-1) _ 0 h1 = _
        rw [f_M_ask_l40, if_neg (by decide), if_pos (by decide), f_M_ask_b107, if_neg (by decide)]
      · rw [if_neg h0]
        generalize hn : (40 : Nat) = n40
        have nz : ¬ nI (cntS (fitS M Y E k) 100) ≤ 0 := nI_ge (a := 0) (b := cntS (fitS M Y E k) 100) (by omega) (by omega)
        have b81 : ∀ (K : Int32 → Int32 → Int32 → Int32 → AH → Option (Int32 × AH)) (x4 x5 x6 : Int32) (g : Nat) (v : Int32) (z : AH), f_M_ask_b81 c a k K x4 x5 x6 (nI g) v z = if v < x6 then K x4 (nI g) v (nI (g + 1)) z else K x4 x5 x6 (nI (g + 1)) z := fun K x4 x5 x6 g v z => by
          rw [f_M_ask_b81]
          simp only [lt_e, nI_1]
        have stp : ∀ (fu : Nat) (x5 x6 : Int32) (g : Nat) (z : AH), g ≤ 40 → QP M Y E h z → FM M Y E k 100 z → ∃ z1, f_M_ask_l40 c a k (fu + 1) (nI (cntS (fitS M Y E k) 100)) x5 x6 (nI g) z = (if owS M Y E k c g < x6 then f_M_ask_l40 c a k fu (nI (cntS (fitS M Y E k) 100)) (nI g) (owS M Y E k c g) (nI (g + 1)) z1 else f_M_ask_l40 c a k fu (nI (cntS (fitS M Y E k) 100)) x5 x6 (nI (g + 1)) z1) ∧ QP M Y E h z1 ∧ FM M Y E k 100 z1 := fun fu x5 x6 g z hg p t => by
          obtain ⟨z1, e2, f2⟩ := loud_ok p t g c
          refine ⟨z1, ?_, p.st (f2.mn (by simp) (by simp)), fun i hi => by rw [f2.i _ _ (by simp) (by simp)]; exact t i hi⟩
          rw [f_M_ask_l40, if_neg (show ¬ (40 : Int32) < nI g from n_nlt (a := 40) (b := g) (by omega) (by omega)), if_neg nz, e2, bI_s, b81, b81]
          have cl1 := cntS_lo M Y E k c g 100
          unfold owS mx
          rw [n_sb cl1 (by omega)]
          by_cases q : nI (cntS (loB M Y E k c g) 100) < nI (cntS (fitS M Y E k) 100 - cntS (loB M Y E k c g) 100)
          · rw [if_pos (Int32.le_of_lt q), if_pos q]
          · rw [if_neg q]
            by_cases q2 : nI (cntS (loB M Y E k c g) 100) ≤ nI (cntS (fitS M Y E k) 100 - cntS (loB M Y E k c g) 100)
            · rw [if_pos q2]
              have : nI (cntS (loB M Y E k c g) 100) = nI (cntS (fitS M Y E k) 100 - cntS (loB M Y E k c g) 100) := by
                rw [i_eq]
                have w1 := i_le.mp q2
                have w2 : ¬ _ := fun z => q (i_lt.mpr z)
                omega
              rw [this]
            · rw [if_neg q2]
        obtain ⟨z1, e2, p2, t2⟩ := stp 999999 (-1) (nI (cntS (fitS M Y E k) 100 + 1)) 0 h1 (by omega) p1 t1
        have lt0 : owS M Y E k c 0 < nI (cntS (fitS M Y E k) 100 + 1) := by
          rw [i_lt, nI_toInt (by omega)]
          have := ow_le M Y E k c 0
          omega
        rw [if_pos lt0] at e2
        have fin : ∃ r, f_M_ask_l40 c a k 999999 (nI (cntS (fitS M Y E k) 100)) (nI 0) (owS M Y E k c 0) (nI (0 + 1)) z1 = some r ∧ r.1 = (if a = 0 then nI (edS (owS M Y E k c) false n40).1 else (edS (owS M Y E k c) false n40).2) ∧ Fr scM [] h r.2 := by
          have go : ∀ m g fu (z : AH), m + g = n40 → m < fu → QP M Y E h z → FM M Y E k 100 z → ∃ r, f_M_ask_l40 c a k fu (nI (cntS (fitS M Y E k) 100)) (nI (edS (owS M Y E k c) false g).1) (edS (owS M Y E k c) false g).2 (nI (g + 1)) z = some r ∧ r.1 = (if a = 0 then nI (edS (owS M Y E k c) false n40).1 else (edS (owS M Y E k c) false n40).2) ∧ Fr scM [] h r.2 := by
            intro m
            induction m with
            | zero =>
              intro g fu z hg hf p t
              obtain ⟨fu, rfl⟩ : ∃ q, fu = q + 1 := ⟨fu - 1, by omega⟩
              have hg' : g = n40 := by omega
              refine ⟨((if a = 0 then nI (edS (owS M Y E k c) false n40).1 else (edS (owS M Y E k c) false n40).2), z), ?_, rfl, p.1⟩
              rw [hg', f_M_ask_l40, if_pos (show (40 : Int32) < nI (n40 + 1) from n_lt (a := 40) (b := n40 + 1) (by omega) (by omega)), f_M_ask_b107]
              have el : ∀ j, (edS (owS M Y E k c) false j).1 ≤ j := fun j => by
                induction j with
                | zero => exact Nat.le_refl _
                | succ j ih =>
                  rw [edS]
                  split
                  · exact Nat.le_refl _
                  · omega
              have := el n40
              rw [if_pos (show (0 : Int32) ≤ nI (edS (owS M Y E k c) false n40).1 from nI_le (a := 0) (by omega) (by omega))]
              by_cases h0 : a = 0
              · rw [if_neg (fun q => q h0), if_pos h0]
              · rw [if_pos h0, if_neg h0]
            | succ m ih =>
              intro g fu z hg hf p t
              obtain ⟨fu, rfl⟩ : ∃ q, fu = q + 1 := ⟨fu - 1, by omega⟩
              obtain ⟨z2, e3, p3, t3⟩ := stp fu (nI (edS (owS M Y E k c) false g).1) (edS (owS M Y E k c) false g).2 (g + 1) z (by omega) p t
              have nx := ih (g + 1) fu z2 (by omega) (by omega) p3 t3
              rw [e3]
              have eb : edS (owS M Y E k c) false (g + 1) = if bet false (edS (owS M Y E k c) false g).2 (owS M Y E k c (g + 1)) = true then (g + 1, owS M Y E k c (g + 1)) else edS (owS M Y E k c) false g := rfl
              by_cases hb : owS M Y E k c (g + 1) < (edS (owS M Y E k c) false g).2
              · rw [if_pos (show bet false (edS (owS M Y E k c) false g).2 (owS M Y E k c (g + 1)) = true by simp [bet, hb])] at eb
                rw [eb] at nx
                rw [if_pos hb]
                exact nx
              · rw [if_neg (show ¬ bet false (edS (owS M Y E k c) false g).2 (owS M Y E k c (g + 1)) = true by simp [bet, hb])] at eb
                rw [eb] at nx
                rw [if_neg hb]
                exact nx
          exact go n40 0 999999 z1 (by omega) (by omega) p2 t2
        obtain ⟨r, e3, q1, q2⟩ := fin
        refine ⟨r.2, ?_, q2⟩
        rw [← q1]
        exact Eq.trans e2 e3
    · rw [if_neg ha, if_neg (by decide), if_neg ha]
      exact ⟨h, rfl, Fr.rf _ _ _⟩
  · rw [if_neg hc, if_pos rfl, if_neg hc]
    exact ⟨h, rfl, Fr.rf _ _ _⟩
