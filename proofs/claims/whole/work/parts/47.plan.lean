/-! ===== plan: the spec, and what it keeps ===== -/
def updN (v : Nat → Nat) (b x : Nat) : Nat → Nat := fun k => if k = b then x else v k
def smN (v : Nat → Nat) : Nat → Nat
  | 0 => 0
  | k + 1 => smN v k + v k
theorem smN_o (v : Nat → Nat) (b x : Nat) : ∀ n, n ≤ b → smN (updN v b x) n = smN v n := by
  intro n
  induction n with
  | zero => intro _; rfl
  | succ n ih =>
    intro h
    show smN (updN v b x) n + updN v b x n = smN v n + v n
    rw [ih (by omega)]
    unfold updN
    rw [if_neg (by omega)]
theorem smN_u (v : Nat → Nat) (b x : Nat) : ∀ n, b < n → smN (updN v b x) n + v b = smN v n + x := by
  intro n
  induction n with
  | zero => intro h; omega
  | succ n ih =>
    intro h
    show smN (updN v b x) n + updN v b x n + v b = smN v n + v n + x
    by_cases e : b = n
    · subst e
      rw [smN_o _ _ _ _ (by omega)]
      unfold updN
      rw [if_pos rfl]
      omega
    · have := ih (by omega)
      have e2 : updN v b x n = v n := by unfold updN; rw [if_neg (by omega)]
      omega
theorem smN_c (v : Nat → Nat) (c : Nat) : ∀ n, (∀ k, k < n → v k = c) → smN v n = c * n := by
  intro n
  induction n with
  | zero => intro _; rfl
  | succ n ih =>
    intro h
    show smN v n + v n = c * (n + 1)
    rw [ih (fun k hk => h k (by omega)), h n (by omega), Nat.mul_succ]
theorem smN_z : ∀ n, smN (fun _ => 0) n = 0 := by
  intro n
  induction n with
  | zero => rfl
  | succ n ih => show smN _ n + 0 = 0; rw [ih]
def amS (ok : Nat → Bool) (p : Nat → Int32) : Nat → Option Nat
  | 0 => none
  | k + 1 => if ok k = true then (match amS ok p k with | none => some k | some b => if p k < p b then some k else some b) else amS ok p k
theorem amS_in (ok : Nat → Bool) (p : Nat → Int32) : ∀ n b, amS ok p n = some b → b < n ∧ ok b = true := by
  intro n
  induction n with
  | zero => intro b h; cases h
  | succ n ih =>
    intro b h
    rw [amS] at h
    by_cases ho : ok n = true
    · rw [if_pos ho] at h
      cases hc : amS ok p n with
      | none =>
        rw [hc] at h
        cases h
        exact ⟨by omega, ho⟩
      | some c =>
        rw [hc] at h
        have := ih c hc
        by_cases hp : p n < p c
        · simp only [hp, if_true] at h
          cases h
          exact ⟨by omega, ho⟩
        · simp only [hp, if_false] at h
          cases h
          exact ⟨by omega, this.2⟩
    · rw [if_neg ho] at h
      have := ih b h
      exact ⟨by omega, this.2⟩
theorem amS_no (ok : Nat → Bool) (p : Nat → Int32) : ∀ n, amS ok p n = none → ∀ k, k < n → ok k = false := by
  intro n
  induction n with
  | zero => intro _ k hk; omega
  | succ n ih =>
    intro h k hk
    rw [amS] at h
    by_cases ho : ok n = true
    · rw [if_pos ho] at h
      cases hc : amS ok p n with
      | none => rw [hc] at h; cases h
      | some c =>
        rw [hc] at h
        by_cases hp : p n < p c
        · simp only [hp, if_true] at h; cases h
        · simp only [hp, if_false] at h; cases h
    · rw [if_neg ho] at h
      by_cases e : k = n
      · subst e; exact Bool.eq_false_iff.mpr ho
      · exact ih h k (by omega)
theorem amS_c (ok ok' : Nat → Bool) (p : Nat → Int32) : ∀ n, (∀ k, k < n → ok k = ok' k) → amS ok p n = amS ok' p n := by
  intro n
  induction n with
  | zero => intro _; rfl
  | succ n ih =>
    intro h
    rw [amS, amS, ih (fun k hk => h k (by omega)), h n (by omega)]
abbrev PT : Type := (Nat → Nat) × Nat × Int32
def plT1 (c : Nat) (p : Nat → Int32) (s : PT) (b : Nat) : PT := (updN s.1 b (min s.2.1 c), s.2.1 - min s.2.1 c, s.2.2 + nI (min s.2.1 c) * p b)
def plF (c H : Nat) (p : Nat → Int32) : Nat → PT → PT
  | 0, s => s
  | n + 1, s => if s.2.1 = 0 then s else match amS (fun k => decide (s.1 k = 0)) p H with | none => s | some b => plF c H p n (plT1 c p s b)
def PL (c H L t : Nat) (s : PT) : Prop := smN s.1 H + s.2.1 = L ∧ (0 < s.2.1 → smN s.1 H = c * t ∧ ∀ k, k < H → s.1 k = 0 ∨ s.1 k = c) ∧ ∀ k, k < H → s.1 k ≤ c
theorem PL.ex {c H L t : Nat} {s : PT} (p : Nat → Int32) (hc : 1 ≤ c) (hL : L ≤ c * H) (q : PL c H L t s) (h0 : 0 < s.2.1) : ∃ b, amS (fun k => decide (s.1 k = 0)) p H = some b ∧ b < H ∧ s.1 b = 0 := by
  cases h : amS (fun k => decide (s.1 k = 0)) p H with
  | some b =>
    have := amS_in _ _ _ _ h
    exact ⟨b, rfl, this.1, by simpa using this.2⟩
  | none =>
    have h1 := amS_no _ _ _ h
    have h2 : smN s.1 H = c * H := smN_c _ _ _ (fun k hk => by
      have := h1 k hk
      have h3 := (q.2.1 h0).2 k hk
      simp only [decide_eq_false_iff_not] at this
      omega)
    have := q.1
    omega
theorem PL.nx {c H L t : Nat} {s : PT} {p : Nat → Int32} (q : PL c H L t s) (h0 : 0 < s.2.1) {b : Nat} (hb : b < H) (hz : s.1 b = 0) : PL c H L (t + 1) (plT1 c p s b) := by
  obtain ⟨q1, q2, q3⟩ := q
  obtain ⟨q4, q5⟩ := q2 h0
  have u := smN_u s.1 b (min s.2.1 c) H hb
  have m1 : min s.2.1 c ≤ s.2.1 := Nat.min_le_left _ _
  have m2 : min s.2.1 c ≤ c := Nat.min_le_right _ _
  refine ⟨?_, fun h1 => ⟨?_, fun k hk => ?_⟩, fun k hk => ?_⟩
  · show smN (updN s.1 b (min s.2.1 c)) H + (s.2.1 - min s.2.1 c) = L
    omega
  · have h1' : 0 < s.2.1 - min s.2.1 c := h1
    show smN (updN s.1 b (min s.2.1 c)) H = c * (t + 1)
    have : min s.2.1 c = c := by omega
    rw [Nat.mul_succ]
    omega
  · have h1' : 0 < s.2.1 - min s.2.1 c := h1
    show updN s.1 b (min s.2.1 c) k = 0 ∨ updN s.1 b (min s.2.1 c) k = c
    unfold updN
    split
    · right; omega
    · exact q5 k hk
  · show updN s.1 b (min s.2.1 c) k ≤ c
    unfold updN
    split
    · exact m2
    · exact q3 k hk
theorem PL.en {c H L : Nat} {s : PT} (hL : L ≤ c * H) (q : PL c H L H s) : s.2.1 = 0 := by
  obtain ⟨q1, q2, q3⟩ := q
  cases h : s.2.1 with
  | zero => rfl
  | succ n =>
    have := (q2 (by omega)).1
    omega
/-! ===== the class ===== -/
def KL (c H : Nat) (p : Nat → Int32) (u : Nat) (v : Nat → Nat) (z : AH) : Prop := ((u = 3 ∨ u = 20) ∧ hR z 0 1 = some u ∧ hI z u 14 = nI c) ∧ (∀ k, k < H → hI z 382 k = p k) ∧ LH z H (fun k => nI (v k))
theorem unused_ok {c H : Nat} {p : Nat → Int32} {u : Nat} {v : Nat → Nat} {z : AH} (hH : H ≤ 12) (hv : ∀ k, k < H → v k < 1000) (q : KL c H p u v z) : f_H_cheapestUnused (nI H) z = some (mx (oI (amS (fun k => decide (v k = 0)) p H)) 0, z) := by
  rw [f_H_cheapestUnused]
  refine lqc (fun fu k (s : Int32) => f_H_cheapestUnused_l4 (nI H) fu s (nI k) z) (fun k s => s = oI (amS (fun k => decide (v k = 0)) p k)) (fun s => some (mx s 0, z)) H (by omega) (-1) rfl (fun r e w => ?_) (fun k fu s hk w => ⟨_, ?_, rfl⟩) (fun fu s w => ?_)
  · rw [← w]; exact e
  · subst w
    show f_H_cheapestUnused_l4 (nI H) (fu + 1) (oI (amS (fun k => decide (v k = 0)) p k)) (nI k) z = f_H_cheapestUnused_l4 (nI H) fu (oI (amS (fun k => decide (v k = 0)) p (k + 1))) (nI (k + 1)) z
    have hvk := hv k hk
    rw [f_H_cheapestUnused_l4, if_neg (nI_ge hk (by omega)), gx_n _ (show k < 12 by omega) (by omega), ix_n (show k < 2 ^ 31 by omega), q.2.2.2.2 k hk, amS]
    simp only [lt_e, nI_1]
    by_cases h0 : v k = 0
    · rw [if_neg (fun w => w ((n_z (by omega)).mpr h0)), if_pos (show decide (v k = 0) = true by simp [h0])]
      cases hc : amS (fun k => decide (v k = 0)) p k with
      | none =>
        rw [if_pos (show oI none = -1 from rfl)]
        rfl
      | some b =>
        have hb := (amS_in _ _ _ _ hc).1
        rw [if_neg (show ¬ oI (some b) = -1 from oI_s (by omega)), gx_n _ (show k < 25 by omega) (by omega)]
        show gx (nI b) 25 _ = _
        rw [gx_n _ (show b < 25 by omega) (by omega)]
        have xb : ix (oI (some b)) = b := ix_n (show b < 2 ^ 31 by omega)
        rw [xb, q.2.1 b (by omega), q.2.1 k hk]
        by_cases hp : p k < p b
        · rw [if_neg (Int32.not_le.mpr hp)]
          simp only [hp, if_true]
          rfl
        · rw [if_pos (Int32.not_lt.mp hp)]
          simp only [hp, if_false]
    · rw [if_pos (fun w => h0 ((n_z (by omega)).mp w)), if_neg (show ¬ decide (v k = 0) = true by simp [h0])]
  · subst w
    show f_H_cheapestUnused_l4 (nI H) (fu + 1) _ (nI H) z = _
    rw [f_H_cheapestUnused_l4, if_pos (nI_le (by omega) (by omega))]
theorem mx_n (b : Nat) (hb : b < 2 ^ 31) : mx (nI b) 0 = nI b := by
  unfold mx
  rw [if_neg (show ¬ nI b < 0 from n_nlt (b := 0) (by omega) hb)]
theorem mn_n {a b : Nat} (ha : a < 2 ^ 31) (hb : b < 2 ^ 31) : mn (nI a) (nI b) = nI (min a b) := by
  unfold mn
  by_cases h : b < a
  · rw [if_pos (n_lt h ha), Nat.min_eq_right (by omega)]
  · rw [if_neg (n_nlt (by omega) hb), Nat.min_eq_left (by omega)]
theorem H_plan_l {c H L : Nat} {p : Nat → Int32} {u : Nat} (a b x : Int32) (hc : 1 ≤ c ∧ c ≤ 9) (hH : 1 ≤ H ∧ H ≤ 12) (hL : L ≤ 20) (hLc : L ≤ c * H) {z : AH} (q : KL c H p u (fun _ => 0) z) : ∃ h1, f_H_plan_l94 a b x (nI H) FU 0 (nI L) 0 z = some ((plF c H p H (fun _ => 0, L, 0)).2.2, h1) ∧ Fr [381] [] z h1 ∧ LH h1 H (fun k => nI ((plF c H p H (fun _ => 0, L, 0)).1 k)) := by
  refine lpc (fun fu k (s : PT × AH) => f_H_plan_l94 a b x (nI H) fu s.1.2.2 (nI s.1.2.1) (nI k) s.2) (fun k s => KL c H p u s.1.1 s.2 ∧ Fr [381] [] z s.2 ∧ PL c H L k s.1 ∧ plF c H p H (fun _ => 0, L, 0) = plF c H p (H - k) s.1) (fun r => r.1 = (plF c H p H (fun _ => 0, L, 0)).2.2 ∧ Fr [381] [] z r.2 ∧ LH r.2 H (fun k => nI ((plF c H p H (fun _ => 0, L, 0)).1 k))) H (by omega) ((fun _ => 0, L, 0), z) ⟨q, Fr.rf _ _ _, ⟨by show smN (fun _ => 0) H + L = L; rw [smN_z]; omega, fun _ => ⟨smN_z _, fun k hk => Or.inl rfl⟩, fun k hk => by show 0 ≤ c; omega⟩, rfl⟩ (fun r e w => ⟨r.2, by rw [← w.1]; exact e, w.2⟩) (fun k fu s hk w => ?_) (fun fu s w => ?_)
  · obtain ⟨st, z1⟩ := s
    obtain ⟨q1, f1, pl1, e1⟩ := w
    simp only at q1 f1 pl1 e1
    have pl10 := pl1.1
    have hH' : H - k = (H - (k + 1)) + 1 := by omega
    have e1' := e1.trans (show plF c H p (H - k) st = (if st.2.1 = 0 then st else match amS (fun k => decide (st.1 k = 0)) p H with | none => st | some b => plF c H p (H - (k + 1)) (plT1 c p st b)) by rw [hH']; rfl)
    show (∃ s' : PT × AH, f_H_plan_l94 a b x (nI H) (fu + 1) st.2.2 (nI st.2.1) (nI k) z1 = f_H_plan_l94 a b x (nI H) fu s'.1.2.2 (nI s'.1.2.1) (nI (k + 1)) s'.2 ∧ _) ∨ (∃ r, f_H_plan_l94 a b x (nI H) (fu + 1) st.2.2 (nI st.2.1) (nI k) z1 = some r ∧ _)
    rw [f_H_plan_l94, if_neg (nI_ge hk (by omega))]
    by_cases h0 : st.2.1 = 0
    · rw [h0, if_pos (show nI 0 ≤ 0 from nI_le (b := 0) (by omega) (by omega))]
      rw [if_pos h0] at e1'
      refine Or.inr ⟨_, rfl, ?_, f1, ?_⟩
      · rw [e1']
      · rw [e1']; exact q1.2.2
    · rw [if_neg (show ¬ nI st.2.1 ≤ 0 from nI_ge (a := 0) (b := st.2.1) (by omega) (by omega))]
      obtain ⟨bb, eb, hb, hz⟩ := pl1.ex p hc.1 hLc (by omega)
      rw [if_neg h0, eb] at e1'
      have e1'' : plF c H p H (fun _ => 0, L, 0) = plF c H p (H - (k + 1)) (plT1 c p st bb) := e1'
      have m1 : min st.2.1 c ≤ st.2.1 := Nat.min_le_left _ _
      rw [unused_ok hH.2 (fun k hk => by have := pl1.2.2 k hk; omega) q1, bI_s, eb]
      have mxb : mx (oI (some bb)) 0 = nI bb := mx_n bb (by omega)
      rw [mxb, gd_ok _ q1.1.2.1 (kd_u q1.1.1), q1.1.2.2, mn_n (by omega) (by omega), lt_e, gx_n _ (show bb < 12 by omega) (by omega), lt_e, gx_n _ (show bb < 25 by omega) (by omega), lt_e, lt_e, lt_e, nI_1, ix_n (show bb < 2 ^ 31 by omega), n_sb m1 (by omega), hI_sI_c _ _ _ _ 382 (by decide), q1.2.1 bb hb]
      have ff : Fr [381] [] z1 (sI z1 381 bb (nI (min st.2.1 c))) := (Fr.rf _ _ _).s (by simp) _ _
      refine Or.inl ⟨(plT1 c p st bb, sI z1 381 bb (nI (min st.2.1 c))), rfl, ⟨⟨q1.1.1, by rw [ff.2.2.2]; exact q1.1.2.1, ?_⟩, fun k hk => ?_, ?_, q1.2.2.2.1, fun k hk => ?_⟩, f1.t ff, pl1.nx (by omega) hb hz, e1''⟩
      · rw [ff.i _ _ (by have := q1.1.1; simp; omega) (by simp)]; exact q1.1.2.2
      · rw [ff.i _ _ (by simp) (by simp)]; exact q1.2.1 k hk
      · rw [ff.i _ _ (by simp) (by simp)]; exact q1.2.2.1
      · show hI (sI z1 381 bb (nI (min st.2.1 c))) 381 k = nI (updN st.1 bb (min st.2.1 c) k)
        rw [hI_sI]
        unfold updN
        by_cases e : k = bb
        · rw [if_pos ⟨rfl, e⟩, if_pos e]
        · rw [if_neg (fun w => e w.2), if_neg e]
          exact q1.2.2.2.2 k hk
  · obtain ⟨st, z1⟩ := s
    obtain ⟨q1, f1, pl1, e1⟩ := w
    simp only at q1 f1 pl1 e1
    rw [Nat.sub_self] at e1
    have e1' : plF c H p H (fun _ => 0, L, 0) = st := e1
    refine ⟨(st.2.2, z1), ?_, by rw [e1'], f1, by rw [e1']; exact q1.2.2⟩
    show f_H_plan_l94 a b x (nI H) (fu + 1) st.2.2 (nI st.2.1) (nI H) z1 = _
    rw [f_H_plan_l94, if_pos (nI_le (by omega) (by omega))]
