/-! ===== clearing: rows in their order, and the search ===== -/
def fdN {σ : Type} (g : Nat → σ → σ) : Nat → σ → σ
  | 0, s => s
  | k + 1, s => g k (fdN g k s)
theorem fdN_c {σ : Type} (g g' : Nat → σ → σ) (s : σ) : ∀ k, (∀ v t, v < k → g v t = g' v t) → fdN g k s = fdN g' k s := by
  intro k
  induction k with
  | zero => intro _; rfl
  | succ k ih =>
    intro h
    show g k (fdN g k s) = g' k (fdN g' k s)
    rw [ih (fun v t hv => h v t (by omega)), h k _ (by omega)]
theorem fdN_i {σ : Type} (g : Nat → σ → σ) (s : σ) : ∀ k, (∀ v t, v < k → g v t = t) → fdN g k s = s := by
  intro k
  induction k with
  | zero => intro _; rfl
  | succ k ih =>
    intro h
    show g k (fdN g k s) = s
    rw [ih (fun v t hv => h v t (by omega)), h k _ (by omega)]
theorem fdN_a {σ : Type} (g : Nat → σ → σ) (m : Nat) (s : σ) : ∀ k, fdN g (m + k) s = fdN (fun w => g (m + w)) k (fdN g m s) := by
  intro k
  induction k with
  | zero => rfl
  | succ k ih =>
    show g (m + k) (fdN g (m + k) s) = g (m + k) (fdN (fun w => g (m + w)) k (fdN g m s))
    rw [ih]
theorem fdN_m {σ : Type} (g : Nat → σ → σ) (m : Nat) (s : σ) : ∀ b, fdN g (b * m) s = fdN (fun e t => fdN (fun w => g (e * m + w)) m t) b s := by
  intro b
  induction b with
  | zero => rw [Nat.zero_mul]; rfl
  | succ b ih =>
    rw [Nat.succ_mul, fdN_a, ih]
    rfl
/-- what a clearing needs: dealers, wants, what is over, whose gold does, prices -/
abbrev QT : Type := Nat × (Nat → Bool) × (Nat → Nat) × (Nat → Nat → Bool) × (Nat → Nat → Int32)
abbrev CS : Type := Int32 × Int32 × (Nat → Int32)
def lA (A : Nat → Nat) : Nat → Int32 := fun i => if A i = 0 then -1 else nI (A i - 1)
def preC (A : Nat → Nat) (s : Nat) : Nat → Nat
  | 0 => 0
  | m + 1 => preC A s m + (if A m = s + 1 then 1 else 0)
def manyA (A : Nat → Nat) : Nat → Nat
  | 0 => 0
  | m + 1 => manyA A m + (if A m = 0 then 0 else 1)
def paidA (P : Nat → Nat → Int32) (A : Nat → Nat) : Nat → Int32
  | 0 => 0
  | m + 1 => paidA P A m + (if A m = 0 then 0 else P m (A m - 1))
def okD (q : QT) (d e : Nat) : Bool := decide (e = 0) || (!decide (e = d + 1) && q.2.1 d && decide (0 < q.2.2.1 (e - 1)) && q.2.2.2.1 d (e - 1))
abbrev valC (q : QT) (A : Nat → Nat) : Prop := (∀ d, d < q.1 → okD q d (A d) = true) ∧ ∀ s, s < q.1 → preC A s q.1 ≤ q.2.2.1 s
def cutA (n : Nat) (A : Nat → Nat) : Nat → Nat := fun d => if d < n then A d else 0
def cmpC (st : CS) (many : Nat) (paid : Int32) (A : Nat → Nat) : CS := if st.1 < nI many then (nI many, paid, lA A) else if nI many = st.1 then (if st.2.1 ≤ paid then st else (nI many, paid, lA A)) else st
def stC (q : QT) (A : Nat → Nat) (st : CS) : CS := if valC q A then cmpC st (manyA A q.1) (paidA q.2.2.2.2 A q.1) (cutA q.1 A) else st
def extA (n k : Nat) (A : Nat → Nat) (v : Nat) : Nat → Nat := fun d => if d < n - k then A d else v / (n + 1) ^ (n - 1 - d) % (n + 1)
def rowsC (q : QT) (k : Nat) (A : Nat → Nat) (st : CS) : CS := fdN (fun v => stC q (extA q.1 k A v)) ((q.1 + 1) ^ k) st
def updA (A : Nat → Nat) (d e : Nat) : Nat → Nat := fun x => if x = d then e else A x
def okP (q : QT) (A : Nat → Nat) (d e : Nat) : Bool := okD q d e && (decide (e = 0) || decide (preC A (e - 1) d < q.2.2.1 (e - 1)))
def DF (q : QT) : Nat → (Nat → Nat) → CS → CS
  | 0, A, st => cmpC st (manyA A q.1) (paidA q.2.2.2.2 A q.1) (cutA q.1 A)
  | k + 1, A, st => fdN (fun e t => if okP q A (q.1 - (k + 1)) e = true then DF q k (updA A (q.1 - (k + 1)) e) t else t) (q.1 + 1) st
theorem preC_c {A B : Nat → Nat} (s : Nat) : ∀ m, (∀ d, d < m → A d = B d) → preC A s m = preC B s m := by
  intro m
  induction m with
  | zero => intro _; rfl
  | succ m ih =>
    intro h
    show preC A s m + _ = preC B s m + _
    rw [ih (fun d hd => h d (by omega)), h m (by omega)]
theorem manyA_c {A B : Nat → Nat} : ∀ m, (∀ d, d < m → A d = B d) → manyA A m = manyA B m := by
  intro m
  induction m with
  | zero => intro _; rfl
  | succ m ih =>
    intro h
    show manyA A m + _ = manyA B m + _
    rw [ih (fun d hd => h d (by omega)), h m (by omega)]
theorem paidA_c {A B : Nat → Nat} (P : Nat → Nat → Int32) : ∀ m, (∀ d, d < m → A d = B d) → paidA P A m = paidA P B m := by
  intro m
  induction m with
  | zero => intro _; rfl
  | succ m ih =>
    intro h
    show paidA P A m + _ = paidA P B m + _
    rw [ih (fun d hd => h d (by omega)), h m (by omega)]
theorem cutA_c {A B : Nat → Nat} {n : Nat} (h : ∀ d, d < n → A d = B d) : cutA n A = cutA n B := by
  funext d
  unfold cutA
  split
  · rename_i q; exact h d q
  · rfl
theorem stC_c (q : QT) {A B : Nat → Nat} (h : ∀ d, d < q.1 → A d = B d) (st : CS) : stC q A st = stC q B st := by
  have e : valC q A ↔ valC q B := by
    unfold valC
    have e1 : ∀ s, preC A s q.1 = preC B s q.1 := fun s => preC_c s _ h
    constructor
    · exact fun w => ⟨fun d hd => by rw [← h d hd]; exact w.1 d hd, fun s hs => by rw [← e1]; exact w.2 s hs⟩
    · exact fun w => ⟨fun d hd => by rw [h d hd]; exact w.1 d hd, fun s hs => by rw [e1]; exact w.2 s hs⟩
  unfold stC
  by_cases w : valC q A
  · rw [if_pos w, if_pos (e.mp w), manyA_c _ h, paidA_c _ _ h, cutA_c h]
  · rw [if_neg w, if_neg (fun z => w (e.mpr z))]
theorem preC_mono (A : Nat → Nat) (s m : Nat) : ∀ k, preC A s m ≤ preC A s (m + k) := by
  intro k
  induction k with
  | zero => exact Nat.le_refl _
  | succ k ih =>
    show preC A s m ≤ preC A s (m + k) + _
    omega
theorem ext_u {n k : Nat} (hk : k + 1 ≤ n) (A : Nat → Nat) (e w : Nat) (he : e < n + 1) (hw : w < (n + 1) ^ k) (d : Nat) (hd : d < n) : extA n (k + 1) A (e * (n + 1) ^ k + w) d = extA n k (updA A (n - (k + 1)) e) w d := by
  have hp : 0 < (n + 1) ^ k := Nat.pow_pos (by omega)
  unfold extA updA
  by_cases h1 : d < n - (k + 1)
  · rw [if_pos h1, if_pos (show d < n - k by omega), if_neg (by omega)]
  · rw [if_neg h1]
    by_cases h2 : d = n - (k + 1)
    · subst h2
      rw [if_pos (show n - (k + 1) < n - k by omega), if_pos rfl, show n - 1 - (n - (k + 1)) = k by omega]
      rw [Nat.mul_comm e, Nat.mul_add_div hp, Nat.div_eq_of_lt hw, Nat.add_zero, Nat.mod_eq_of_lt he]
    · rw [if_neg (show ¬ d < n - k by omega)]
      have hj : n - 1 - d < k := by omega
      obtain ⟨m, hm⟩ : ∃ m, k = (n - 1 - d) + 1 + m := ⟨k - (n - 1 - d) - 1, by omega⟩
      have hq : 0 < (n + 1) ^ (n - 1 - d) := Nat.pow_pos (by omega)
      have e1 : e * (n + 1) ^ k = (n + 1) ^ (n - 1 - d) * (e * (n + 1) ^ m * (n + 1)) := by
        rw [hm, Nat.pow_add, Nat.pow_add, Nat.pow_one]
        generalize (n + 1) ^ (n - 1 - d) = x
        generalize (n + 1) ^ m = y
        generalize n + 1 = z
        rw [Nat.mul_comm x z, Nat.mul_assoc z x y, ← Nat.mul_assoc e z, Nat.mul_comm (e * z) (x * y), Nat.mul_assoc x y, Nat.mul_comm y (e * z), Nat.mul_assoc e z y, Nat.mul_comm z y, ← Nat.mul_assoc e y z]
      rw [e1, Nat.mul_add_div hq, Nat.add_comm, Nat.add_mul_mod_self_right]
/-- the prefix may stand -/
def preV (q : QT) (A : Nat → Nat) (d : Nat) : Prop := (∀ x, x < d → okD q x (A x) = true) ∧ ∀ s, s < q.1 → preC A s d ≤ q.2.2.1 s
theorem okD_in {q : QT} {d e : Nat} (h : okD q d e = true) (he : ¬ e = 0) : ¬ e = d + 1 ∧ q.2.1 d = true ∧ 0 < q.2.2.1 (e - 1) ∧ q.2.2.2.1 d (e - 1) = true := by
  unfold okD at h
  simp only [Bool.or_eq_true, Bool.and_eq_true, decide_eq_true_eq, Bool.not_eq_true', decide_eq_false_iff_not] at h
  rcases h with h | h
  · exact absurd h he
  · exact ⟨h.1.1.1, h.1.1.2, h.1.2, h.2⟩
theorem preV.nx {q : QT} {A : Nat → Nat} {d e : Nat} (v : preV q A d) (he : e < q.1 + 1) (h : okP q A d e = true) : preV q (updA A d e) (d + 1) := by
  unfold okP at h
  rw [Bool.and_eq_true] at h
  have c : ∀ x, x < d → updA A d e x = A x := fun x hx => by unfold updA; rw [if_neg (by omega)]
  have c0 : updA A d e d = e := by unfold updA; rw [if_pos rfl]
  refine ⟨fun x hx => ?_, fun s hs => ?_⟩
  · by_cases hd : x = d
    · subst hd; rw [c0]; exact h.1
    · rw [c x (by omega)]; exact v.1 x (by omega)
  · show preC (updA A d e) s d + (if updA A d e d = s + 1 then 1 else 0) ≤ _
    rw [preC_c s d c, c0]
    have v2 := v.2 s hs
    split
    · rename_i hs2
      have := h.2
      simp only [Bool.or_eq_true, decide_eq_true_eq] at this
      rcases this with w | w
      · omega
      · rw [show e - 1 = s by omega] at w; omega
    · omega
theorem preV.no {q : QT} {A B : Nat → Nat} {d e : Nat} (hd : d < q.1) (hB : ∀ x, x < d → B x = A x) (he : B d = e) (h : ¬ okP q A d e = true) (hlt : e < q.1 + 1) : ¬ valC q B := by
  intro w
  apply h
  unfold okP
  have w1 := w.1 d hd
  rw [he] at w1
  rw [w1, Bool.true_and]
  simp only [Bool.or_eq_true, decide_eq_true_eq]
  by_cases h0 : e = 0
  · exact Or.inl h0
  · right
    have w2 := w.2 (e - 1) (by omega)
    have m := preC_mono B (e - 1) (d + 1) (q.1 - (d + 1))
    rw [show d + 1 + (q.1 - (d + 1)) = q.1 by omega] at m
    have m2 : preC B (e - 1) (d + 1) = preC A (e - 1) d + 1 := by
      show preC B (e - 1) d + (if B d = e - 1 + 1 then 1 else 0) = _
      rw [preC_c _ d hB, if_pos (by omega)]
    omega
theorem DF_eq (q : QT) : ∀ k, k ≤ q.1 → ∀ A st, preV q A (q.1 - k) → rowsC q k A st = DF q k A st := by
  intro k
  induction k with
  | zero =>
    intro _ A st v
    show stC q (extA q.1 0 A 0) st = _
    have hA : ∀ d, d < q.1 → extA q.1 0 A 0 d = A d := fun d hd => by unfold extA; rw [if_pos (by omega)]
    rw [stC_c q hA]
    unfold stC
    rw [Nat.sub_zero] at v
    rw [if_pos (show valC q A from v)]
    rfl
  | succ k ih =>
    intro hk A st v
    unfold rowsC
    rw [Nat.pow_succ, Nat.mul_comm, fdN_m]
    show _ = fdN _ (q.1 + 1) st
    refine fdN_c _ _ _ _ (fun e t he => ?_)
    have hst : ∀ w, w < (q.1 + 1) ^ k → ∀ t, stC q (extA q.1 (k + 1) A (e * (q.1 + 1) ^ k + w)) t = stC q (extA q.1 k (updA A (q.1 - (k + 1)) e) w) t := fun w hw t => stC_c q (fun d hd => ext_u hk A e w he hw d hd) t
    have h1 : fdN (fun w => stC q (extA q.1 (k + 1) A (e * (q.1 + 1) ^ k + w))) ((q.1 + 1) ^ k) t = rowsC q k (updA A (q.1 - (k + 1)) e) t := fdN_c _ _ _ _ (fun w t hw => hst w hw t)
    show fdN (fun w => stC q (extA q.1 (k + 1) A (e * (q.1 + 1) ^ k + w))) ((q.1 + 1) ^ k) t = _
    rw [h1]
    by_cases ho : okP q A (q.1 - (k + 1)) e = true
    · rw [if_pos ho]
      refine ih (by omega) _ _ ?_
      have := v.nx he ho
      rw [show q.1 - (k + 1) + 1 = q.1 - k by omega] at this
      exact this
    · rw [if_neg ho]
      refine fdN_i _ _ _ (fun w t hw => ?_)
      unfold stC
      refine if_neg (preV.no (A := A) (d := q.1 - (k + 1)) (e := e) (by omega) (fun x hx => ?_) ?_ ho he)
      · unfold extA updA
        rw [if_pos (by omega), if_neg (by omega)]
      · unfold extA updA
        rw [if_pos (by omega), if_pos rfl]
