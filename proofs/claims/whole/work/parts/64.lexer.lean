/-! ===== tokens ===== -/
/-- a token: its code (as the class has it), its place, the place behind it, its number, its word -/
abbrev LT : Type := Nat × Nat × Nat × Nat × List Nat
abbrev tC (t : LT) : Nat := t.1
abbrev tP (t : LT) : Nat := t.2.1
abbrev tX (t : LT) : Nat := t.2.2.1
abbrev tN (t : LT) : Nat := t.2.2.2.1
abbrev tW (t : LT) : List Nat := t.2.2.2.2
def isLN (b : Nat) : Bool := decide (97 ≤ b) && decide (b ≤ 122)
def isDN (b : Nat) : Bool := decide (48 ≤ b) && decide (b ≤ 57)
def isBN (b : Nat) : Bool := decide (b = 32) || decide (b = 10)
def isSN (b : Nat) : Bool := decide (b = 37) || decide (b = 40) || decide (b = 41) || decide (b = 42) || decide (b = 43) || decide (b = 45) || decide (b = 47) || decide (b = 59) || decide (b = 60) || decide (b = 61) || decide (b = 62)
def rn (p : Nat → Bool) (L : Nat) : Nat → Nat → Nat
  | 0, q => q
  | m + 1, q => if q < L ∧ p q = true then rn p L m (q + 1) else q
def wl (b : Nat → Nat) (q : Nat) : Nat → List Nat
  | 0 => []
  | n + 1 => wl b q n ++ [b (q + n)]
def c5 (l : List Nat) : Nat := l.foldl (fun a b => a * 32 + (b - 96)) 0
def c8 (l : List Nat) : Nat := l.foldl (fun a b => a * 256 + b) 0
def nm (b : Nat → Nat) (q : Nat) : Nat → Nat
  | 0 => 0
  | n + 1 => nm b q n * 10 + (b (q + n) - 48)
def kwl : List (List Nat) := [[107, 105, 110, 100], [100, 101, 97, 108, 101, 114], [111, 102], [115, 111, 110, 103], [97, 103, 101], [103, 111, 108, 100], [108, 111, 97, 100, 115], [110, 101, 101, 100, 115], [99, 104, 105, 114, 112, 115], [104, 101, 97, 116], [115, 110, 97, 112], [99, 97, 114, 116], [100, 114, 97, 119], [111, 114], [97, 110, 100], [110, 111, 116], [109, 97, 116, 101, 115], [104, 111, 117, 114], [100, 97, 121]]
def kwI (w : List Nat) : Nat → List (List Nat) → Nat
  | _, [] => 2
  | i, k :: r => if k = w then 256 + i else kwI w (i + 1) r
def kwc (w : List Nat) : Nat := kwI w 0 kwl
def lx (b : Nat → Nat) (L p : Nat) : LT :=
  let q := rn (fun k => isBN (b k)) L (L - p) p
  if L ≤ q then (0, q, q, 0, []) else
  if isLN (b q) = true then
    let e := rn (fun k => isLN (b k)) L (L - q) q
    if 8 < e - q then (3, q, q, 0, []) else (kwc (wl b q (e - q)), q, e, 0, wl b q (e - q))
  else if isDN (b q) = true then
    let e := rn (fun k => isDN (b k)) L (L - q) q
    if 4 < e - q ∨ (e < L ∧ isLN (b e) = true) then (3, q, q, 0, []) else (1, q, e, nm b q (e - q), [])
  else if isSN (b q) = true then (b q, q, q + 1, 0, [])
  else (3, q, q, 0, [])
theorem rn_ge (p : Nat → Bool) (L : Nat) : ∀ m q, q ≤ rn p L m q := by
  intro m
  induction m with
  | zero => intro q; exact Nat.le_refl _
  | succ m ih =>
    intro q
    rw [rn]
    split
    · have := ih (q + 1); omega
    · exact Nat.le_refl _
theorem rn_le (p : Nat → Bool) (L : Nat) : ∀ m q, q ≤ L → rn p L m q ≤ L := by
  intro m
  induction m with
  | zero => intro q h; exact h
  | succ m ih =>
    intro q h
    rw [rn]
    split
    · rename_i c; exact ih (q + 1) (by omega)
    · exact h
theorem rn_in (p : Nat → Bool) (L : Nat) : ∀ m q k, q ≤ k → k < rn p L m q → p k = true := by
  intro m
  induction m with
  | zero => intro q k h1 h2; simp only [rn] at h2; omega
  | succ m ih =>
    intro q k h1 h2
    rw [rn] at h2
    by_cases c : q < L ∧ p q = true
    · rw [if_pos c] at h2
      by_cases e : k = q
      · rw [e]; exact c.2
      · exact ih (q + 1) k (by omega) h2
    · rw [if_neg c] at h2; omega
theorem rn_1 (p : Nat → Bool) (L : Nat) {q : Nat} (hq : q < L) (hp : p q = true) : q < rn p L (L - q) q := by
  obtain ⟨m, hm⟩ : ∃ m, L - q = m + 1 := ⟨L - q - 1, by omega⟩
  rw [hm, rn, if_pos ⟨hq, hp⟩]
  have := rn_ge p L m (q + 1)
  omega
theorem wl_len (b : Nat → Nat) (q : Nat) : ∀ n, (wl b q n).length = n := by
  intro n
  induction n with
  | zero => rfl
  | succ n ih => rw [wl, List.length_append, ih]; rfl
theorem wl_get (b : Nat → Nat) (q : Nat) : ∀ n k, k < n → (wl b q n)[k]? = some (b (q + k)) := by
  intro n
  induction n with
  | zero => intro k hk; omega
  | succ n ih =>
    intro k hk
    rw [wl]
    by_cases e : k < n
    · rw [List.getElem?_append_left (by rw [wl_len]; exact e)]; exact ih k e
    · have : k = n := by omega
      subst this
      rw [List.getElem?_append_right (by rw [wl_len]; exact Nat.le_refl _), wl_len, Nat.sub_self]
      rfl
theorem c5_s (l : List Nat) (b : Nat) : c5 (l ++ [b]) = c5 l * 32 + (b - 96) := by unfold c5; rw [List.foldl_append]; rfl
theorem c8_s (l : List Nat) (b : Nat) : c8 (l ++ [b]) = c8 l * 256 + b := by unfold c8; rw [List.foldl_append]; rfl
theorem snoc_ind {P : List Nat → Prop} (h0 : P []) (hs : ∀ l b, P l → P (l ++ [b])) : ∀ l, P l := by
  have go : ∀ n l, l.length = n → P l := by
    intro n
    induction n with
    | zero => intro l h; have : l = [] := List.length_eq_zero_iff.mp h
              rw [this]; exact h0
    | succ n ih =>
      intro l h
      rcases List.eq_nil_or_concat l with e | ⟨m, b, e⟩
      · rw [e] at h; cases h
      · rw [List.concat_eq_append] at e
        rw [e]
        refine hs m b (ih m ?_)
        rw [e, List.length_append] at h
        simpa using h
  exact fun l => go l.length l rfl
def LTR (l : List Nat) : Prop := ∀ x ∈ l, 97 ≤ x ∧ x ≤ 122
theorem LTR.l {l : List Nat} {b : Nat} (h : LTR (l ++ [b])) : LTR l ∧ 97 ≤ b ∧ b ≤ 122 := ⟨fun x hx => h x (by simp [hx]), h b (by simp)⟩
theorem c5_b : ∀ l : List Nat, LTR l → c5 l < 32 ^ l.length := by
  refine snoc_ind (fun _ => by decide) (fun l b ih h => ?_)
  have h1 := ih h.l.1
  have h2 := h.l.2
  rw [c5_s, List.length_append]
  show _ < 32 ^ (l.length + 1)
  rw [Nat.pow_succ]
  omega
theorem c8_b : ∀ l : List Nat, LTR l → c8 l < 256 ^ l.length := by
  refine snoc_ind (fun _ => by decide) (fun l b ih h => ?_)
  have h1 := ih h.l.1
  have h2 := h.l.2
  rw [c8_s, List.length_append]
  show _ < 256 ^ (l.length + 1)
  rw [Nat.pow_succ]
  omega
theorem c5_inj : ∀ l : List Nat, LTR l → ∀ m, LTR m → c5 l = c5 m → l = m := by
  refine snoc_ind (fun _ m => ?_) (fun l b ih h m => ?_)
  · rcases List.eq_nil_or_concat m with e | ⟨n, b, e⟩
    · intro _ _; exact e.symm
    · rw [List.concat_eq_append] at e
      rw [e]
      intro hm q
      have := hm.l.2
      rw [c5_s, show c5 [] = 0 from rfl] at q
      omega
  · rcases List.eq_nil_or_concat m with e | ⟨n, d, e⟩
    · rw [e]
      intro _ q
      have := h.l.2
      rw [c5_s, show c5 [] = 0 from rfl] at q
      omega
    · rw [List.concat_eq_append] at e
      rw [e]
      intro hm q
      have h1 := h.l.2
      have h2 := hm.l.2
      rw [c5_s, c5_s] at q
      have e1 : b = d := by omega
      rw [ih h.l.1 n hm.l.1 (by omega), e1]
theorem c8_inj : ∀ l : List Nat, LTR l → ∀ m, LTR m → c8 l = c8 m → l = m := by
  refine snoc_ind (fun _ m => ?_) (fun l b ih h m => ?_)
  · rcases List.eq_nil_or_concat m with e | ⟨n, b, e⟩
    · intro _ _; exact e.symm
    · rw [List.concat_eq_append] at e
      rw [e]
      intro hm q
      have := hm.l.2
      rw [c8_s, show c8 [] = 0 from rfl] at q
      omega
  · rcases List.eq_nil_or_concat m with e | ⟨n, d, e⟩
    · rw [e]
      intro _ q
      have := h.l.2
      rw [c8_s, show c8 [] = 0 from rfl] at q
      omega
    · rw [List.concat_eq_append] at e
      rw [e]
      intro hm q
      have h1 := h.l.2
      have h2 := hm.l.2
      rw [c8_s, c8_s] at q
      have e1 : b = d := by omega
      rw [ih h.l.1 n hm.l.1 (by omega), e1]
theorem wl_ltr (b : Nat → Nat) (q : Nat) : ∀ n, (∀ k, q ≤ k → k < q + n → isLN (b k) = true) → LTR (wl b q n) := by
  intro n
  induction n with
  | zero => intro _ x hx; cases hx
  | succ n ih =>
    intro h x hx
    rw [wl, List.mem_append] at hx
    rcases hx with hx | hx
    · exact ih (fun k h1 h2 => h k h1 (by omega)) x hx
    · have := h (q + n) (by omega) (by omega)
      simp only [List.mem_singleton] at hx
      rw [hx]
      unfold isLN at this
      simpa using this
/-! longs -/
theorem l64_s {a b : Nat} (k : Nat) (hk : k = 5 ∨ k = 8) (hb : b < 2 ^ k) (ha : a * 2 ^ k + b < 2 ^ 63) : lshl (Int64.ofNat a) (nI k) ||| Int32.toInt64 (nI b) = Int64.ofNat (a * 2 ^ k + b) := by
  have hb31 : b < 2 ^ 31 := by rcases hk with rfl | rfl <;> omega
  have eb : Int32.toInt64 (nI b) = Int64.ofNat b := by
    apply Int64.toInt_inj.mp
    rw [Int32.toInt_toInt64, nI_toInt hb31, Int64.toInt_ofNat_of_lt (by omega)]
  have es : (nI k).toInt64 &&& 63 = Int64.ofNat k := by rcases hk with rfl | rfl <;> decide
  unfold lshl
  rw [eb, es]
  apply Int64.toBitVec_inj.mp
  rw [Int64.toBitVec_or, Int64.toBitVec_shiftLeft]
  have e2 : ((Int64.ofNat k).toBitVec.smod 64#64) = BitVec.ofNat 64 k := by rcases hk with rfl | rfl <;> decide
  rw [show ((Int64.ofNat k).toBitVec.smod 64) = BitVec.ofNat 64 k from e2, BitVec.shiftLeft_eq']
  apply BitVec.eq_of_toNat_eq
  rw [BitVec.toNat_or, BitVec.toNat_shiftLeft]
  show (BitVec.ofNat 64 a).toNat <<< (BitVec.ofNat 64 k).toNat % 2 ^ 64 ||| (BitVec.ofNat 64 b).toNat = (BitVec.ofNat 64 (a * 2 ^ k + b)).toNat
  have hp : 1 ≤ 2 ^ k := Nat.one_le_two_pow
  have ha2 : a ≤ a * 2 ^ k := Nat.le_mul_of_pos_right a (by omega)
  rw [BitVec.toNat_ofNat, BitVec.toNat_ofNat, BitVec.toNat_ofNat, BitVec.toNat_ofNat, Nat.mod_eq_of_lt (show a < 2 ^ 64 by omega), Nat.mod_eq_of_lt (show b < 2 ^ 64 by omega), Nat.mod_eq_of_lt (show k < 2 ^ 64 by omega), Nat.shiftLeft_eq, Nat.mod_eq_of_lt (show a * 2 ^ k < 2 ^ 64 by omega), Nat.mod_eq_of_lt (show a * 2 ^ k + b < 2 ^ 64 by omega)]
  rw [Nat.mul_comm a, ← Nat.two_pow_add_eq_or_of_lt hb]
theorem lg_0 (x y : Int64) : lg_cmp x y = 0 ↔ x = y := by
  unfold lg_cmp
  constructor
  · intro h
    by_cases h1 : x > y
    · rw [if_pos h1] at h; exact absurd h (by decide)
    · rw [if_neg h1] at h
      by_cases h2 : x = y
      · exact h2
      · rw [if_neg h2] at h; exact absurd h (by decide)
  · intro h
    have : ¬ x > y := by rw [h]; exact Int64.lt_irrefl
    rw [if_neg this, if_pos h]
theorem l64_e {a b : Nat} (ha : a < 2 ^ 63) (hb : b < 2 ^ 63) : Int64.ofNat a = Int64.ofNat b ↔ a = b := by
  constructor
  · intro h
    have := congrArg Int64.toInt h
    rw [Int64.toInt_ofNat_of_lt ha, Int64.toInt_ofNat_of_lt hb] at this
    omega
  · intro h; rw [h]
theorem kwI_or (w : List Nat) : ∀ (l : List (List Nat)) (i : Nat), kwI w i l = 2 ∨ ∃ j, j < l.length ∧ l[j]? = some w ∧ kwI w i l = 256 + i + j := by
  intro l
  induction l with
  | nil => intro i; exact Or.inl rfl
  | cons k r ih =>
    intro i
    rw [kwI]
    by_cases h : k = w
    · rw [if_pos h]
      exact Or.inr ⟨0, by simp, by simp [h], rfl⟩
    · rw [if_neg h]
      rcases ih (i + 1) with q | ⟨j, q1, q2, q3⟩
      · exact Or.inl q
      · exact Or.inr ⟨j + 1, by simp; omega, by simpa using q2, by omega⟩
theorem kwc_or (w : List Nat) : kwc w = 2 ∨ ∃ j, j < 19 ∧ kwl[j]? = some w ∧ kwc w = 256 + j := by
  rcases kwI_or w kwl 0 with q | ⟨j, q1, q2, q3⟩
  · exact Or.inl q
  · exact Or.inr ⟨j, q1, q2, by unfold kwc; omega⟩
