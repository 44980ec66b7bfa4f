/-! ===== the reference's words and signs ===== -/
/-- a word's code is its word's -/
def TKV (t : LT) : Prop := (tC t = 2 ∨ 256 ≤ tC t) → LTR (tW t) ∧ (tW t).length ≤ 8 ∧ tC t = kwc (tW t)
theorem tkv_c {c p x n : Nat} {w : List Nat} (h : ¬ (c = 2 ∨ 256 ≤ c)) (h2 : c < 300) : TKV (c, p, x, n, w) ∧ tC (c, p, x, n, w) < 300 := ⟨fun z => absurd z h, h2⟩
theorem lx_kw (b : Nat → Nat) (L p : Nat) : TKV (lx b L p) ∧ tC (lx b L p) < 300 := by
  unfold lx
  generalize hq : rn (fun k => isBN (b k)) L (L - p) p = q
  by_cases h1 : L ≤ q
  · rw [if_pos h1]; exact tkv_c (by decide) (by decide)
  rw [if_neg h1]
  by_cases h2 : isLN (b q) = true
  · rw [if_pos h2]
    have e3 := rn_in (fun k => isLN (b k)) L (L - q) q
    generalize rn (fun k => isLN (b k)) L (L - q) q = e at e3
    by_cases h8 : 8 < e - q
    · rw [show (if 8 < e - q then ((3 : Nat), q, q, 0, ([] : List Nat)) else (kwc (wl b q (e - q)), q, e, 0, wl b q (e - q))) = (3, q, q, 0, []) from if_pos h8]
      exact tkv_c (by decide) (by decide)
    · rw [show (if 8 < e - q then ((3 : Nat), q, q, 0, ([] : List Nat)) else (kwc (wl b q (e - q)), q, e, 0, wl b q (e - q))) = (kwc (wl b q (e - q)), q, e, 0, wl b q (e - q)) from if_neg h8]
      exact ⟨fun _ => ⟨wl_ltr b q _ (fun k h1 h2 => e3 k h1 (by omega)), by show (wl b q (e - q)).length ≤ 8; rw [wl_len]; omega, rfl⟩, by have := (kwc_lt (wl b q (e - q))).1; show kwc _ < 300; omega⟩
  rw [if_neg h2]
  by_cases h3 : isDN (b q) = true
  · rw [if_pos h3]
    generalize rn (fun k => isDN (b k)) L (L - q) q = e
    by_cases h4 : 4 < e - q ∨ (e < L ∧ isLN (b e) = true)
    · rw [show (if 4 < e - q ∨ (e < L ∧ isLN (b e) = true) then ((3 : Nat), q, q, 0, ([] : List Nat)) else (1, q, e, nm b q (e - q), [])) = (3, q, q, 0, []) from if_pos h4]
      exact tkv_c (by decide) (by decide)
    · rw [show (if 4 < e - q ∨ (e < L ∧ isLN (b e) = true) then ((3 : Nat), q, q, 0, ([] : List Nat)) else (1, q, e, nm b q (e - q), [])) = (1, q, e, nm b q (e - q), []) from if_neg h4]
      exact tkv_c (by decide) (by decide)
  rw [if_neg h3]
  by_cases h4 : isSN (b q) = true
  · rw [if_pos h4]
    have hb : b q < 70 ∧ 5 < b q := by
      unfold isSN at h4
      simp at h4
      omega
    exact tkv_c (by omega) (by omega)
  · rw [if_neg h4]; exact tkv_c (by decide) (by decide)
theorem srt_1 {c : Nat} (hc : c < 300) : nI (srt c) = 1 ↔ (c = 2 ∨ 256 ≤ c) := by
  have : srt c < 300 := by unfold srt; repeat' split
                           all_goals omega
  rw [show (1 : Int32) = nI 1 from rfl, tk_eq this (by omega)]
  unfold srt
  repeat' split
  all_goals omega
theorem srt_k {c k : Nat} (hc : c < 300) (hk : k < 256) (h2 : 2 < k) : nI (srt c) = nI k ↔ c = k := by
  have : srt c < 300 := by unfold srt; repeat' split
                           all_goals omega
  rw [tk_eq this (by omega)]
  unfold srt
  repeat' split
  all_goals omega
theorem srt_2 {c : Nat} (hc : c < 300) : nI (srt c) = 2 ↔ c = 1 := by
  have : srt c < 300 := by unfold srt; repeat' split
                           all_goals omega
  rw [show (2 : Int32) = nI 2 from rfl, tk_eq this (by omega)]
  unfold srt
  repeat' split
  all_goals omega
theorem c8_63 {l : List Nat} (h : LTR l) (hl : l.length ≤ 8) : c8 l < 2 ^ 63 := by
  rcases List.eq_nil_or_concat l with e | ⟨m, x, e⟩
  · rw [e]; decide
  · have gen : ∀ l : List Nat, LTR l → 1 ≤ l.length → 2 * c8 l < 256 ^ l.length := by
      intro l
      induction l using snoc_ind with
      | h0 => intro _ h; cases h
      | hs l b ih =>
        intro h _
        rw [c8_s, List.length_append]
        show _ < 256 ^ (l.length + 1)
        rw [Nat.pow_succ]
        have h2 := h.l.2
        by_cases h0 : l.length = 0
        · have : l = [] := List.length_eq_zero_iff.mp h0
          subst this
          show 2 * (0 * 256 + b) < 256 ^ 0 * 256
          omega
        · have := ih h.l.1 (by omega)
          omega
    have g := gen l h (by rw [e, List.length_concat]; omega)
    have : 256 ^ l.length ≤ 256 ^ 8 := Nat.pow_le_pow_right (by omega) hl
    have e8 : 256 ^ 8 = 2 * 2 ^ 63 := by decide
    omega
/-- the token's word is word j -/
theorem isWord_ok {b : Nat → Nat} {L : Nat} {h : AH} {t : LT} (r : RM b L h t) (v : TKV t) (hc : tC t < 300) {j : Nat} (hj : j < 19) {a : Int64} {l : List Nat} (hl : kwl[j]? = some l) (ha : a = Int64.ofNat (c8 l)) : f_M_isWord a h = some (if tC t = 256 + j then 1 else 0, h) := by
  obtain ⟨l', el, l1, l2, l3⟩ := kwl_w j hj
  rw [hl] at el
  have : l = l' := by injection el
  subst this
  rw [f_M_isWord, r.2.2.2.1]
  by_cases h1 : tC t = 2 ∨ 256 ≤ tC t
  · rw [if_neg (show ¬ ¬ nI (srt (tC t)) = (1 : Int32) from fun z => z ((srt_1 hc).mpr h1))]
    obtain ⟨v1, v2, v3⟩ := v h1
    have e9 := (r.2.2.2.2 (by omega)).2.2.2 h1
    rw [e9, ha]
    have iff : lg_cmp (Int64.ofNat (c8 (tW t))) (Int64.ofNat (c8 l)) = 0 ↔ tC t = 256 + j := by
      rw [lg_0, l64_e (c8_63 v1 v2) (c8_63 l1 l2)]
      constructor
      · intro e
        rw [v3, c8_inj _ v1 _ l1 e]; exact l3
      · intro e
        rw [v3] at e
        rcases kwc_or (tW t) with q | ⟨i, q1, q2, q3⟩
        · omega
        · have : i = j := by omega
          subst this
          rw [hl] at q2
          have : l = tW t := by injection q2
          rw [this]
    by_cases e : tC t = 256 + j
    · rw [if_neg (fun z => z (iff.mpr e)), if_pos e]
    · rw [if_pos (fun z => e (iff.mp z)), if_neg e]
  · rw [if_pos (show ¬ nI (srt (tC t)) = (1 : Int32) from fun z => h1 ((srt_1 hc).mp z)), if_neg (by omega)]
theorem tight_ok {x : Nat} (hx : x < 300) (h : AH) : f_M_tight (nI x) h = some (nI (tig x), h) := by
  have e : ∀ k, k < 300 → (nI x = nI k ↔ x = k) := fun k hk => tk_eq hx hk
  rw [f_M_tight]
  unfold tig
  by_cases c1 : x = 21
  · rw [if_pos (show nI x = (21 : Int32) from (e 21 (by omega)).mpr c1), if_pos c1]; rfl
  rw [if_neg (show ¬ nI x = (21 : Int32) from fun z => c1 ((e 21 (by omega)).mp z)), if_neg c1]
  by_cases c2 : x = 38
  · rw [if_pos (show nI x = (38 : Int32) from (e 38 (by omega)).mpr c2), if_pos c2]; rfl
  rw [if_neg (show ¬ nI x = (38 : Int32) from fun z => c2 ((e 38 (by omega)).mp z)), if_neg c2]
  by_cases c3 : x = 43
  · rw [if_pos (show nI x = (43 : Int32) from (e 43 (by omega)).mpr c3), if_pos (Or.inl c3)]; rfl
  rw [if_neg (show ¬ nI x = (43 : Int32) from fun z => c3 ((e 43 (by omega)).mp z))]
  by_cases c4 : x = 45
  · rw [if_pos (show nI x = (45 : Int32) from (e 45 (by omega)).mpr c4), if_pos (Or.inr c4)]; rfl
  rw [if_neg (show ¬ nI x = (45 : Int32) from fun z => c4 ((e 45 (by omega)).mp z)), if_neg (show ¬ (x = 43 ∨ x = 45) by omega)]
  by_cases c5 : x = 60
  · rw [if_pos (show nI x = (60 : Int32) from (e 60 (by omega)).mpr c5), if_pos (Or.inl c5)]; rfl
  rw [if_neg (show ¬ nI x = (60 : Int32) from fun z => c5 ((e 60 (by omega)).mp z))]
  by_cases c6 : x = 61
  · rw [if_pos (show nI x = (61 : Int32) from (e 61 (by omega)).mpr c6), if_pos (Or.inr (Or.inl c6))]; rfl
  rw [if_neg (show ¬ nI x = (61 : Int32) from fun z => c6 ((e 61 (by omega)).mp z))]
  by_cases c7 : x = 62
  · rw [if_pos (show nI x = (62 : Int32) from (e 62 (by omega)).mpr c7), if_pos (Or.inr (Or.inr c7))]; rfl
  rw [if_neg (show ¬ nI x = (62 : Int32) from fun z => c7 ((e 62 (by omega)).mp z)), if_neg (show ¬ (x = 60 ∨ x = 61 ∨ x = 62) by omega)]
  by_cases c8 : x = 124
  · rw [if_pos (show nI x = (124 : Int32) from (e 124 (by omega)).mpr c8), if_pos c8]; rfl
  rw [if_neg (show ¬ nI x = (124 : Int32) from fun z => c8 ((e 124 (by omega)).mp z)), if_neg c8]; rfl
theorem sign_ok {b : Nat → Nat} {L : Nat} {h : AH} {t : LT} (r : RM b L h t) (v : TKV t) (hc : tC t < 300) : f_M_sign h = some (nI (sgn (tC t)), h) := by
  rw [f_M_sign, isWord_ok r v hc (j := 14) (by omega) (l := [97, 110, 100]) rfl (by decide), bI_s]
  unfold sgn
  by_cases c1 : tC t = 270
  · rw [if_pos (show tC t = 256 + 14 from c1), if_neg (by decide), if_pos c1]; rfl
  rw [if_neg (show ¬ tC t = 256 + 14 from c1), if_pos rfl, if_neg c1, isWord_ok r v hc (j := 13) (by omega) (l := [111, 114]) rfl (by decide), bI_s]
  by_cases c2 : tC t = 269
  · rw [if_pos (show tC t = 256 + 13 from c2), if_neg (by decide), if_pos c2]; rfl
  rw [if_neg (show ¬ tC t = 256 + 13 from c2), if_pos rfl, if_neg c2, r.2.2.2.1]
  have e : ∀ k, k < 256 → 2 < k → (nI (srt (tC t)) = nI k ↔ tC t = k) := fun k hk h2 => srt_k hc hk h2
  have key : ∀ k, k < 256 → 2 < k → nI (srt (tC t)) = nI k → (k = 60 ∨ k = 62 ∨ k = 61 ∨ k = 43 ∨ k = 45 ∨ k = 42 ∨ k = 47 ∨ k = 37) → some (nI (srt (tC t)), h) = some (nI (if tC t = 60 ∨ tC t = 62 ∨ tC t = 61 ∨ tC t = 43 ∨ tC t = 45 ∨ tC t = 42 ∨ tC t = 47 ∨ tC t = 37 then tC t else 0), h) := fun k hk h2 z hz => by
    have q := (e k hk h2).mp z
    rw [if_pos (by rw [q]; exact hz), z, q]
  by_cases k1 : nI (srt (tC t)) = (60 : Int32)
  · rw [if_pos k1]; exact key 60 (by omega) (by omega) k1 (by omega)
  rw [if_neg k1]
  by_cases k2 : nI (srt (tC t)) = (62 : Int32)
  · rw [if_pos k2]; exact key 62 (by omega) (by omega) k2 (by omega)
  rw [if_neg k2]
  by_cases k3 : nI (srt (tC t)) = (61 : Int32)
  · rw [if_pos k3]; exact key 61 (by omega) (by omega) k3 (by omega)
  rw [if_neg k3]
  by_cases k4 : nI (srt (tC t)) = (43 : Int32)
  · rw [if_pos k4]; exact key 43 (by omega) (by omega) k4 (by omega)
  rw [if_neg k4]
  by_cases k5 : nI (srt (tC t)) = (45 : Int32)
  · rw [if_pos k5]; exact key 45 (by omega) (by omega) k5 (by omega)
  rw [if_neg k5]
  by_cases k6 : nI (srt (tC t)) = (42 : Int32)
  · rw [if_pos k6]; exact key 42 (by omega) (by omega) k6 (by omega)
  rw [if_neg k6]
  by_cases k7 : nI (srt (tC t)) = (47 : Int32)
  · rw [if_pos k7]; exact key 47 (by omega) (by omega) k7 (by omega)
  rw [if_neg k7]
  by_cases k8 : nI (srt (tC t)) = (37 : Int32)
  · rw [if_neg (fun z => z k8)]; exact key 37 (by omega) (by omega) k8 (by omega)
  rw [if_pos k8, if_neg (fun z => by
    rcases z with z | z | z | z | z | z | z | z
    · exact k1 ((e 60 (by omega) (by omega)).mpr z)
    · exact k2 ((e 62 (by omega) (by omega)).mpr z)
    · exact k3 ((e 61 (by omega) (by omega)).mpr z)
    · exact k4 ((e 43 (by omega) (by omega)).mpr z)
    · exact k5 ((e 45 (by omega) (by omega)).mpr z)
    · exact k6 ((e 42 (by omega) (by omega)).mpr z)
    · exact k7 ((e 47 (by omega) (by omega)).mpr z)
    · exact k8 ((e 37 (by omega) (by omega)).mpr z))]
  rfl
theorem word_iff {b : Nat → Nat} {L : Nat} {h : AH} {t : LT} (r : RM b L h t) (v : TKV t) (h1 : tC t = 2 ∨ 256 ≤ tC t) {j : Nat} (hj : j < 19) {a : Int64} {l : List Nat} (hl : kwl[j]? = some l) (ha : a = Int64.ofNat (c8 l)) : lg_cmp (hL h 383 9) a = 0 ↔ tC t = 256 + j := by
  obtain ⟨l', el, l1, l2, l3⟩ := kwl_w j hj
  rw [hl] at el
  have : l = l' := by injection el
  subst this
  obtain ⟨v1, v2, v3⟩ := v h1
  have e9 := (r.2.2.2.2 (by omega)).2.2.2 h1
  rw [e9, ha, lg_0, l64_e (c8_63 v1 v2) (c8_63 l1 l2)]
  constructor
  · intro e
    rw [v3, c8_inj _ v1 _ l1 e]; exact l3
  · intro e
    rw [v3] at e
    rcases kwc_or (tW t) with q | ⟨i, q1, q2, q3⟩
    · omega
    · have : i = j := by omega
      subst this
      rw [hl] at q2
      have : l = tW t := by injection q2
      rw [this]
theorem asked_ok {b : Nat → Nat} {L : Nat} {h : AH} {t : LT} (r : RM b L h t) (v : TKV t) (hc : tC t < 300) : f_M_asked h = some (if askT (tC t) = 0 then -1 else nI (askT (tC t) - 1), h) := by
  rw [f_M_asked, r.2.2.2.1]
  by_cases h1 : tC t = 2 ∨ 256 ≤ tC t
  · rw [if_pos (show nI (srt (tC t)) = (1 : Int32) from (srt_1 hc).mpr h1)]
    have w0 := word_iff r v h1 (j := 9) (by omega) (l := [104, 101, 97, 116]) rfl (a := 1751474548) (by decide)
    have w1 := word_iff r v h1 (j := 3) (by omega) (l := [115, 111, 110, 103]) rfl (a := 1936682599) (by decide)
    have w2 := word_iff r v h1 (j := 4) (by omega) (l := [97, 103, 101]) rfl (a := 6383461) (by decide)
    have w3 := word_iff r v h1 (j := 16) (by omega) (l := [109, 97, 116, 101, 115]) rfl (a := 469786453363) (by decide)
    have w4 := word_iff r v h1 (j := 17) (by omega) (l := [104, 111, 117, 114]) rfl (a := 1752135026) (by decide)
    have w5 := word_iff r v h1 (j := 18) (by omega) (l := [100, 97, 121]) rfl (a := 6578553) (by decide)
    by_cases k0 : tC t = 265
    · rw [if_neg (fun z => z (w0.mpr k0)), k0]; rfl
    rw [if_pos (fun z => k0 (w0.mp z))]
    by_cases k1 : tC t = 259
    · rw [if_neg (fun z => z (w1.mpr k1)), k1]; rfl
    rw [if_pos (fun z => k1 (w1.mp z))]
    by_cases k2 : tC t = 260
    · rw [if_neg (fun z => z (w2.mpr k2)), k2]; rfl
    rw [if_pos (fun z => k2 (w2.mp z))]
    by_cases k3 : tC t = 272
    · rw [if_neg (fun z => z (w3.mpr k3)), k3]; rfl
    rw [if_pos (fun z => k3 (w3.mp z))]
    by_cases k4 : tC t = 273
    · rw [if_neg (fun z => z (w4.mpr k4)), k4]; rfl
    rw [if_pos (fun z => k4 (w4.mp z))]
    by_cases k5 : tC t = 274
    · rw [if_neg (fun z => z (w5.mpr k5)), k5]; rfl
    rw [if_pos (fun z => k5 (w5.mp z))]
    have : askT (tC t) = 0 := by unfold askT; rw [if_neg k0, if_neg k1, if_neg k2, if_neg k3, if_neg k4, if_neg k5]
    rw [if_pos this]
  · rw [if_neg (show ¬ nI (srt (tC t)) = (1 : Int32) from fun z => h1 ((srt_1 hc).mp z))]
    have : askT (tC t) = 0 := by
      unfold askT
      repeat' split
      all_goals omega
    rw [if_pos this]
/-! the reference's stack -/
/-- opens: the newest first in the list -/
def SK (h : AH) (st : List Nat) : Prop := hI h 383 21 = nI st.length ∧ (∀ k, k < st.length → hI h 392 (st.length - 1 - k) = nI ((st[k]?).getD 0)) ∧ ∀ x ∈ st, x < 200
theorem SK.top {h : AH} {x : Nat} {st : List Nat} (k : SK h (x :: st)) : hI h 392 st.length = nI x ∧ x < 200 := by
  have := k.2.1 0 (by simp)
  rw [show (x :: st).length - 1 - 0 = st.length by simp] at this
  exact ⟨this, k.2.2 x (by simp)⟩
theorem SK.pop {h h1 : AH} {x : Nat} {st : List Nat} (k : SK h (x :: st)) (e : hI h1 383 21 = nI st.length) (f : ∀ k, k < st.length → hI h1 392 k = hI h 392 k) : SK h1 st := by
  refine ⟨e, fun j hj => ?_, fun y hy => k.2.2 y (by simp [hy])⟩
  rw [f _ (by omega)]
  have := k.2.1 (j + 1) (by simp; omega)
  rw [show (x :: st).length - 1 - (j + 1) = st.length - 1 - j by simp; omega] at this
  rw [this]; simp
theorem SK.push {h h1 : AH} {x : Nat} {st : List Nat} (k : SK h st) (hx : x < 200) (e : hI h1 383 21 = nI (st.length + 1)) (f : ∀ k, k < st.length → hI h1 392 k = hI h 392 k) (g : hI h1 392 st.length = nI x) : SK h1 (x :: st) := by
  refine ⟨by rw [e]; rfl, fun j hj => ?_, fun y hy => ?_⟩
  · rcases j with _ | j
    · rw [show (x :: st).length - 1 - 0 = st.length by simp, g]; rfl
    · have hj' : j < st.length := by simpa using hj
      rw [show (x :: st).length - 1 - (j + 1) = st.length - 1 - j by simp; omega, f _ (by omega), k.2.1 j hj']; simp
  · rcases List.mem_cons.mp hy with e | e
    · rw [e]; exact hx
    · exact k.2.2 y e
theorem mayNot_ok {h : AH} {st : List Nat} (k : SK h st) (hl : st.length < 150) : f_M_mayNot h = some (if mayN st = true then 1 else 0, h) := by
  rw [f_M_mayNot, k.1]
  cases st with
  | nil => rw [if_pos (show nI ([] : List Nat).length = (0 : Int32) from rfl)]; rfl
  | cons x r =>
    have hr : r.length < 150 := by simp at hl; omega
    obtain ⟨t1, t2⟩ := k.top
    rw [if_neg (show ¬ nI (x :: r).length = (0 : Int32) from fun z => by have := (n_inj (show (x :: r).length < 2 ^ 31 by omega) (show 0 < 2 ^ 31 by omega)).mp z; simp at this), show nI (x :: r).length - 1 = nI r.length from nI_s1 r.length, gx_n _ (show r.length < 160 by omega) (by omega), ix_n (by omega), t1]
    by_cases c : x = 20
    · rw [if_pos (show nI x = (20 : Int32) by rw [c]; rfl)]
      have : mayN (x :: r) = true := by unfold mayN; simp [c]
      rw [if_pos this]
    · rw [if_neg (show ¬ nI x = (20 : Int32) from fun z => c ((tk_eq (k := 20) (by omega) (by omega)).mp z)), gx_n _ (show r.length < 160 by omega) (by omega), tight_ok (by omega), bI_s]
      have ti := tig_in x
      by_cases c4 : 4 ≤ tig x
      · rw [if_pos (show (4 : Int32) ≤ nI (tig x) from nI_le (a := 4) c4 (by omega))]
        have : ¬ mayN (x :: r) = true := by unfold mayN; simp [c]; omega
        rw [if_neg this]
      · rw [if_neg (show ¬ (4 : Int32) ≤ nI (tig x) from nI_ge (b := 4) (by omega) (by omega))]
        have : mayN (x :: r) = true := by unfold mayN; simp [c]; omega
        rw [if_pos this]
