/-! ===== an hour ===== -/
def lackS (M : MT) (Y : YT) (d : Nat) : Int32 := mNd M d - Y (6 + d)
/-- the first n dealers' beasts have eaten -/
def eatN (M : MT) (n : Nat) (Y : YT) : YT := fun k =>
  if 6 ≤ k ∧ k < 6 + n then (if lackS M Y (k - 6) ≤ 0 then Y k - mNd M (k - 6) else Y k - Y k)
  else if 12 ≤ k ∧ k < 12 + n then Y k + (if lackS M Y (k - 12) ≤ 0 then 0 else lackS M Y (k - 12))
  else if 18 ≤ k ∧ k < 18 + n then (if 99 ≤ Y k then Y k else Y k + 1) else Y k
def brN (n : Nat) (Y : YT) : YT := fun k => if 24 ≤ k ∧ k < 24 + n then 0 else Y k
def coldS (M : MT) (sn : Bool) (c : Int32) : Int32 := if sn = true then cl ((if c ≤ 0 then c else c - 1) + mSn M) 40 else (if c ≤ 0 then c else c - 1)
def hrS (M : MT) (Y : YT) : YT := if 24 ≤ Y 32 + 1 then eatN M (mN M) (upd (upd Y 32 0) 33 (Y 33 + 1)) else upd Y 32 (Y 32 + 1)
def passS (M : MT) (sn : Bool) (Y : YT) : YT := hrS M (brN (mN M) (upd Y 31 (coldS M sn (Y 31))))
def seedS (s : Int32) : Int32 := (s * 137 + 71) - (s * 137 + 71) / 1000 * 1000
def snapS (M : MT) (s : Int32) : Bool := decide (s - s / 100 * 100 < mCh M)
def hourS (M : MT) (Y : YT) : YT := passS M (snapS M (seedS (Y 34))) (upd Y 34 (seedS (Y 34)))
def farS (M : MT) : Nat → YT → YT
  | 0, Y => Y
  | n + 1, Y => farS M n (hourS M Y)
theorem farS_s (M : MT) : ∀ n Y, farS M (n + 1) Y = hourS M (farS M n Y) := by
  intro n
  induction n with
  | zero => intro Y; rfl
  | succ n ih => intro Y; rw [farS, ih, farS]
abbrev sca : List Nat := [393, 395, 406]
theorem AY.s {h : AH} {Y : YT} (m : AY h Y) (k : Nat) (v : Int32) : AY (sI h 406 k v) (upd Y k v) := fun j hj => by
  rw [hI_sI_u]
  unfold upd
  split
  · rfl
  · exact m j hj
theorem M_load_l {Y : YT} {h : AH} (hY : ∀ k, k < 35 → hI h 405 k = Y k) : ∀ (m k fu : Nat) (h1 : AH), m + k = 35 → m < fu → Fr sca [] h h1 → (∀ j, j < k → hI h1 406 j = Y j) → ∃ h2, f_M_load_l2 fu (nI k) h1 = some h2 ∧ Fr sca [] h h2 ∧ AY h2 Y := by
  intro m
  induction m with
  | zero =>
    intro k fu h1 hk hf f1 a1
    obtain ⟨fu, rfl⟩ : ∃ q, fu = q + 1 := ⟨fu - 1, by omega⟩
    rw [f_M_load_l2, show (35 : Int32) = nI 35 from rfl, if_pos (nI_le (by omega) (by omega))]
    exact ⟨h1, rfl, f1, fun j hj => a1 j (by omega)⟩
  | succ m ih =>
    intro k fu h1 hk hf f1 a1
    obtain ⟨fu, rfl⟩ : ∃ q, fu = q + 1 := ⟨fu - 1, by omega⟩
    rw [f_M_load_l2, show (35 : Int32) = nI 35 from rfl, if_neg (nI_ge (show k < 35 by omega) (by omega)), gx_n _ (show k < 35 by omega) (by omega), gx_n _ (show k < 35 by omega) (by omega), lt_e, lt_e, nI_1, ix_n (show k < 2 ^ 31 by omega), f1.i _ _ (by simp) (by simp), hY k (by omega)]
    refine ih (k + 1) fu _ (by omega) (by omega) (f1.s (by simp) _ _) (fun j hj => ?_)
    rw [hI_sI_u]
    unfold upd
    split
    · rename_i e; rw [e]
    · exact a1 j (by omega)
theorem M_load_ok {Y : YT} {h : AH} (hY : ∀ k, k < 35 → hI h 405 k = Y k) : ∃ h1, f_M_load h = some h1 ∧ Fr sca [] h h1 ∧ AY h1 Y := M_load_l hY 35 0 FU h (by omega) (by show 35 < 1000000; omega) (Fr.rf _ _ _) (fun j hj => by omega)
def eatS (M : MT) (d : Nat) (Y : YT) : YT :=
  let Y1 := upd Y (6 + d) (Y (6 + d) - (if lackS M Y d ≤ 0 then mNd M d else Y (6 + d)))
  let Y2 := upd Y1 (12 + d) (Y1 (12 + d) + (if lackS M Y d ≤ 0 then 0 else lackS M Y d))
  if 99 ≤ Y2 (18 + d) then Y2 else upd Y2 (18 + d) (Y2 (18 + d) + 1)
theorem upd_a {Y : YT} {k j : Nat} {v : Int32} : upd Y k v j = (if j = k then v else Y j) := rfl
theorem eatS_p (M : MT) (Z : YT) (d k : Nat) : eatS M d Z k = (if k = 18 + d then (if 99 ≤ Z (18 + d) then Z (18 + d) else Z (18 + d) + 1) else if k = 12 + d then Z (12 + d) + (if lackS M Z d ≤ 0 then 0 else lackS M Z d) else if k = 6 + d then Z (6 + d) - (if lackS M Z d ≤ 0 then mNd M d else Z (6 + d)) else Z k) := by
  have y1 : ∀ a, upd Z (6 + d) a (12 + d) = Z (12 + d) := fun a => by rw [upd_a, if_neg (by omega)]
  have y2 : ∀ a b, upd (upd Z (6 + d) a) (12 + d) b (18 + d) = Z (18 + d) := fun a b => by rw [upd_a, if_neg (by omega), upd_a, if_neg (by omega)]
  unfold eatS
  simp only [y1, y2]
  by_cases h9 : 99 ≤ Z (18 + d)
  · rw [if_pos h9, if_pos h9, upd_a, upd_a]
    by_cases h3 : k = 18 + d
    · rw [if_pos h3, if_neg (by omega), if_neg (by omega), h3]
    · rw [if_neg h3]
  · rw [if_neg h9, if_neg h9, upd_a, upd_a, upd_a]
theorem eatN_s (M : MT) (Y : YT) {d : Nat} (hd : d < 6) : eatS M d (eatN M d Y) = eatN M (d + 1) Y := by
  have e1 : ∀ k, k = 6 + d ∨ k = 12 + d ∨ k = 18 + d → eatN M d Y k = Y k := fun k hk => by
    unfold eatN
    rw [if_neg (by omega), if_neg (by omega), if_neg (by omega)]
  have e2 : lackS M (eatN M d Y) d = lackS M Y d := by unfold lackS; rw [e1 _ (by simp)]
  funext k
  rw [eatS_p, e2, e1 (6 + d) (by simp), e1 (12 + d) (by simp), e1 (18 + d) (by simp)]
  by_cases h3 : k = 18 + d
  · have q : eatN M (d + 1) Y k = (if 99 ≤ Y k then Y k else Y k + 1) := by
      unfold eatN
      rw [if_neg (by omega), if_neg (by omega), if_pos (by omega)]
    rw [if_pos h3, q, h3]
  · rw [if_neg h3]
    by_cases h2 : k = 12 + d
    · have q : eatN M (d + 1) Y k = Y k + (if lackS M Y (k - 12) ≤ 0 then 0 else lackS M Y (k - 12)) := by
        unfold eatN
        rw [if_neg (by omega), if_pos (by omega)]
      rw [if_pos h2, q, h2, show 12 + d - 12 = d by omega]
    · rw [if_neg h2]
      by_cases h1 : k = 6 + d
      · have q : eatN M (d + 1) Y k = (if lackS M Y (k - 6) ≤ 0 then Y k - mNd M (k - 6) else Y k - Y k) := by
          unfold eatN
          rw [if_pos (by omega)]
        rw [if_pos h1, q, h1, show 6 + d - 6 = d by omega]
        split <;> rfl
      · rw [if_neg h1]
        have c1 : (6 ≤ k ∧ k < 6 + (d + 1)) = (6 ≤ k ∧ k < 6 + d) := propext (by omega)
        have c2 : (12 ≤ k ∧ k < 12 + (d + 1)) = (12 ≤ k ∧ k < 12 + d) := propext (by omega)
        have c3 : (18 ≤ k ∧ k < 18 + (d + 1)) = (18 ≤ k ∧ k < 18 + d) := propext (by omega)
        simp only [eatN, c1, c2, c3]
theorem M_eat_ok {M : MT} {Z : YT} {h : AH} (hM : MM h M) (hY : AY h Z) {d : Nat} (hd : d < mN M) : ∃ h1, f_M_eat (nI d) h = some h1 ∧ Fr sca [] h h1 ∧ AY h1 (eatS M d Z) := by
  have h6 := hM.1.2.1
  have i6 : (6 : Int32) + nI d = nI (6 + d) := n_add 6 d
  have i12 : (12 : Int32) + nI d = nI (12 + d) := n_add 12 d
  have i18 : (18 : Int32) + nI d = nI (18 + d) := n_add 18 d
  have x0 : ix (nI d) = d := ix_n (by omega)
  have x6 : ix (nI (6 + d)) = 6 + d := ix_n (by omega)
  have x12 : ix (nI (12 + d)) = 12 + d := ix_n (by omega)
  have x18 : ix (nI (18 + d)) = 18 + d := ix_n (by omega)
  have g : ∀ (j : Nat) (K : Option AH), j < 35 → gx (nI j) 35 K = K := fun j K hj => gx_n K hj (by omega)
  have n6 := (hM.1.2.2 d hd).2.2
  have key : ∀ v3 w : Int32, v3 = (if lackS M Z d ≤ 0 then mNd M d else Z (6 + d)) → ∃ h1, f_M_eat_b49 (nI d) (lackS M Z d) (nI (6 + d)) (Z (6 + d)) v3 h = some h1 ∧ Fr sca [] h h1 ∧ AY h1 (eatS M d Z) := by
    intro v3 _ hv
    rw [f_M_eat_b49, g _ _ (by omega), lt_e, lt_e, i12, g _ _ (by omega), x6, x12]
    have a1 := hY.s (6 + d) (Z (6 + d) - v3)
    have f1 : Fr sca [] h (sI h 406 (6 + d) (Z (6 + d) - v3)) := (Fr.rf _ _ _).s (by simp) _ _
    generalize sI h 406 (6 + d) (Z (6 + d) - v3) = h1 at a1 f1 ⊢
    have tail : ∀ v : Int32, v = (if lackS M Z d ≤ 0 then 0 else lackS M Z d) → ∃ h2, f_M_eat_b70 (nI d) (nI (12 + d)) (hI h1 406 (12 + d)) v h1 = some h2 ∧ Fr sca [] h h2 ∧ AY h2 (eatS M d Z) := by
      intro v hv2
      rw [f_M_eat_b70, g _ _ (by omega), lt_e, x12, i18, g _ _ (by omega), a1 (12 + d) (by omega), x18]
      have a2 := a1.s (12 + d) (upd Z (6 + d) (Z (6 + d) - v3) (12 + d) + v)
      have f2 : Fr sca [] h (sI h1 406 (12 + d) (upd Z (6 + d) (Z (6 + d) - v3) (12 + d) + v)) := f1.s (by simp) _ _
      generalize sI h1 406 (12 + d) (upd Z (6 + d) (Z (6 + d) - v3) (12 + d) + v) = h2 at a2 f2 ⊢
      rw [a2 (18 + d) (by omega)]
      unfold eatS
      rw [← hv, ← hv2]
      split
      · rename_i q
        refine ⟨h2, rfl, f2, ?_⟩
        simp only [if_pos q]
        exact a2
      · rename_i q
        rw [lt_e, g _ _ (by omega), g _ _ (by omega), lt_e, x18]
        refine ⟨_, rfl, f2.s (by simp) _ _, ?_⟩
        simp only [if_neg q]
        rw [a2 (18 + d) (by omega)]
        exact a2.s _ _
    split
    · rename_i q
      exact tail 0 (by rw [if_pos q])
    · rename_i q
      exact tail _ (by rw [if_neg q])
  rw [f_M_eat, gx_n _ (show d < 6 by omega) (by omega), i6, g _ _ (by omega), lt_e, lt_e, g _ _ (by omega), x0, x6, n6, hY (6 + d) (by omega)]
  show ∃ h1, (if lackS M Z d ≤ 0 then _ else _) = some h1 ∧ _
  split
  · rename_i q
    rw [gx_n _ (show d < 6 by omega) (by omega)]
    exact key _ 0 (by rw [if_pos q])
  · rename_i q
    rw [g _ _ (by omega)]
    exact key _ 0 (by rw [if_neg q])
theorem M_eats_l {M : MT} {Y : YT} {h : AH} {az : Int32} (hM : MM h M) : ∀ (m k fu : Nat) (h1 : AH), m + k = mN M → m < fu → Fr sca [] h h1 → AY h1 (eatN M k Y) → ∃ h2, f_M_pass_l120 az fu (nI k) h1 = some h2 ∧ Fr sca [] h h2 ∧ AY h2 (eatN M (mN M) Y) := by
  have h6 := hM.1.2.1
  intro m
  induction m with
  | zero =>
    intro k fu h1 hk hf f1 a1
    obtain ⟨fu, rfl⟩ : ∃ q, fu = q + 1 := ⟨fu - 1, by omega⟩
    have hM1 := hM.fr f1 (by simp) (by simp)
    rw [f_M_pass_l120, hM1.1.1, if_pos (nI_le (by omega) (by omega))]
    have : k = mN M := by omega
    subst this
    exact ⟨h1, rfl, f1, a1⟩
  | succ m ih =>
    intro k fu h1 hk hf f1 a1
    obtain ⟨fu, rfl⟩ : ∃ q, fu = q + 1 := ⟨fu - 1, by omega⟩
    have hM1 := hM.fr f1 (by simp) (by simp)
    rw [f_M_pass_l120, hM1.1.1, if_neg (nI_ge (show k < mN M by omega) (by omega))]
    obtain ⟨h2, e2, f2, a2⟩ := M_eat_ok hM1 a1 (show k < mN M by omega)
    rw [e2, bV_s, lt_e, nI_1]
    rw [eatN_s M Y (show k < 6 by omega)] at a2
    exact ih (k + 1) fu h2 (by omega) (by omega) (f1.t f2) a2
theorem M_pass_l {M : MT} {Y : YT} {h : AH} {az : Int32} (hM : MM h M) : ∀ (m k fu : Nat) (h1 : AH), m + k = mN M → m < fu → Fr sca [] h h1 → AY h1 (brN k Y) → ∃ h2, f_M_pass_l51 az fu (nI k) h1 = some h2 ∧ Fr sca [] h h2 ∧ AY h2 (hrS M (brN (mN M) Y)) := by
  have h6 := hM.1.2.1
  intro m
  induction m with
  | zero =>
    intro k fu h1 hk hf f1 a1
    obtain ⟨fu, rfl⟩ : ∃ q, fu = q + 1 := ⟨fu - 1, by omega⟩
    have hM1 := hM.fr f1 (by simp) (by simp)
    have : k = mN M := by omega
    subst this
    rw [f_M_pass_l51, hM1.1.1, if_pos (nI_le (by omega) (by omega)), lt_e, a1 32 (by omega), hI_sI_s]
    unfold hrS
    have a2 := a1.s 32 (brN (mN M) Y 32 + 1)
    have f2 : Fr sca [] h (sI h1 406 32 (brN (mN M) Y 32 + 1)) := f1.s (by simp) _ _
    generalize sI h1 406 32 (brN (mN M) Y 32 + 1) = h2 at a2 f2 ⊢
    split
    · rw [lt_e, lt_e]
      have a3 := a2.s 32 0
      have f3 : Fr sca [] h (sI h2 406 32 0) := f2.s (by simp) _ _
      generalize sI h2 406 32 0 = h3 at a3 f3 ⊢
      rw [a3 33 (by omega)]
      have a4 := a3.s 33 (upd (upd (brN (mN M) Y) 32 (brN (mN M) Y 32 + 1)) 32 0 33 + 1)
      have f4 : Fr sca [] h (sI h3 406 33 (upd (upd (brN (mN M) Y) 32 (brN (mN M) Y 32 + 1)) 32 0 33 + 1)) := f3.s (by simp) _ _
      generalize sI h3 406 33 (upd (upd (brN (mN M) Y) 32 (brN (mN M) Y 32 + 1)) 32 0 33 + 1) = h4 at a4 f4 ⊢
      have e4 : upd (upd (upd (brN (mN M) Y) 32 (brN (mN M) Y 32 + 1)) 32 0) 33 (upd (upd (brN (mN M) Y) 32 (brN (mN M) Y 32 + 1)) 32 0 33 + 1) = upd (upd (brN (mN M) Y) 32 0) 33 (brN (mN M) Y 33 + 1) := by
        funext j
        by_cases h33 : j = 33
        · simp [upd, h33]
        · by_cases h32 : j = 32
          · simp [upd, h32]
          · simp [upd, h33, h32]
      rw [e4] at a4
      have e5 : ∀ Z : YT, eatN M 0 Z = Z := fun Z => by
        funext j
        unfold eatN
        rw [if_neg (by omega), if_neg (by omega), if_neg (by omega)]
      obtain ⟨h5, e6, f6, a6⟩ := M_eats_l (az := az) (Y := upd (upd (brN (mN M) Y) 32 0) 33 (brN (mN M) Y 33 + 1)) hM (mN M) 0 FU h4 (by omega) (by show mN M < 1000000; omega) f4 (by rw [e5]; exact a4)
      exact ⟨h5, e6, f6, a6⟩
    · exact ⟨h2, rfl, f2, a2⟩
  | succ m ih =>
    intro k fu h1 hk hf f1 a1
    obtain ⟨fu, rfl⟩ : ∃ q, fu = q + 1 := ⟨fu - 1, by omega⟩
    have hM1 := hM.fr f1 (by simp) (by simp)
    rw [f_M_pass_l51, hM1.1.1, if_neg (nI_ge (show k < mN M by omega) (by omega)), show (24 : Int32) = nI 24 from rfl, n_add, gx_n _ (show 24 + k < 35 by omega) (by omega), lt_e, lt_e, nI_1, ix_n (show 24 + k < 2 ^ 31 by omega)]
    refine ih (k + 1) fu _ (by omega) (by omega) (f1.s (by simp) _ _) (fun j hj => ?_)
    have := a1.s (24 + k) 0 j hj
    rw [this]
    unfold upd brN
    by_cases h2 : j = 24 + k
    · rw [if_pos h2, if_pos (by omega)]
    · rw [if_neg h2]
      by_cases h3 : 24 ≤ j ∧ j < 24 + k
      · rw [if_pos h3, if_pos (by omega)]
      · rw [if_neg h3, if_neg (by omega)]
theorem M_pass_ok {M : MT} {Y : YT} {h : AH} (hM : MM h M) (hY : AY h Y) (sn : Bool) : ∃ h1, f_M_pass (if sn = true then 1 else 0) h = some h1 ∧ Fr sca [] h h1 ∧ AY h1 (passS M sn Y) := by
  have h6 := hM.1.2.1
  have e5 : ∀ Z : YT, brN 0 Z = Z := fun Z => by
    funext j
    unfold brN
    rw [if_neg (by omega)]
  have tail : ∀ (a1 : Int32) (h1 : AH), Fr sca [] h h1 → AY h1 (upd Y 31 (coldS M sn (Y 31))) → ∃ h2, f_M_pass_b49 a1 h1 = some h2 ∧ Fr sca [] h h2 ∧ AY h2 (passS M sn Y) := by
    intro a1 h1 f1 b1
    rw [f_M_pass_b49]
    exact M_pass_l (az := a1) hM (mN M) 0 FU h1 (by omega) (by show mN M < 1000000; omega) f1 (by rw [e5]; exact b1)
  have mid : ∀ (c : Int32) (h1 : AH), c = (if Y 31 ≤ 0 then Y 31 else Y 31 - 1) → Fr sca [] h h1 → AY h1 (upd Y 31 c) → ∃ h2, f_M_pass_b21 (if sn = true then 1 else 0) h1 = some h2 ∧ Fr sca [] h h2 ∧ AY h2 (passS M sn Y) := by
    intro c h1 hc f1 b1
    have hM1 := hM.fr f1 (by simp) (by simp)
    rw [f_M_pass_b21]
    cases sn with
    | false =>
      rw [if_pos (by simp)]
      exact tail _ h1 f1 (by rw [show coldS M false (Y 31) = c by unfold coldS; rw [if_neg (by simp), hc]]; exact b1)
    | true =>
      rw [if_neg (by simp), b1 31 (by omega), hM1.2.2.2.2.1, M_within_ok, bI_s, lt_e]
      refine tail _ _ (f1.s (by simp) _ _) ?_
      have b2 := b1.s 31 (cl (upd Y 31 c 31 + mSn M) 40)
      have e6 : upd (upd Y 31 c) 31 (cl (upd Y 31 c 31 + mSn M) 40) = upd Y 31 (coldS M true (Y 31)) := by
        funext j
        by_cases hj : j = 31
        · simp [upd, hj, coldS, hc]
        · simp [upd, hj]
      rw [e6] at b2
      exact b2
  rw [f_M_pass, hY 31 (by omega)]
  split
  · rename_i q
    refine mid (Y 31) h (by rw [if_pos q]) (Fr.rf _ _ _) ?_
    have : upd Y 31 (Y 31) = Y := by funext j; unfold upd; split <;> simp_all
    rw [this]; exact hY
  · rename_i q
    rw [lt_e]
    exact mid (Y 31 - 1) _ (by rw [if_neg q]) ((Fr.rf _ _ _).s (by simp) _ _) (hY.s _ _)
theorem M_goHour_ok {M : MT} {Y : YT} {h : AH} (hM : MM h M) (hY : AY h Y) : ∃ h1, f_M_goHour h = some h1 ∧ Fr sca [] h h1 ∧ AY h1 (hourS M Y) := by
  rw [f_M_goHour, hY 34 (by omega), lt_e]
  have f1 : Fr sca [] h (sI h 406 34 (seedS (Y 34))) := (Fr.rf _ _ _).s (by simp) _ _
  have a1 := hY.s 34 (seedS (Y 34))
  have es : Y 34 * 137 + 71 - (Y 34 * 137 + 71) / 1000 * 1000 = seedS (Y 34) := rfl
  rw [es]
  generalize sI h 406 34 (seedS (Y 34)) = h1 at f1 a1 ⊢
  have hM1 := hM.fr f1 (by simp) (by simp)
  have e34 : hI h1 406 34 = seedS (Y 34) := by rw [a1 34 (by omega)]; rfl
  rw [hM1.2.2.2.1, e34]
  unfold hourS
  split
  · rename_i q
    have hs : snapS M (seedS (Y 34)) = false := by unfold snapS; simpa using Int32.not_lt.mpr q
    obtain ⟨h2, e2, f2, a2⟩ := M_pass_ok hM1 a1 false
    rw [f_M_goHour_b48, hs]
    have e2' : f_M_pass 0 h1 = some h2 := by simpa using e2
    rw [e2', bV_s]
    exact ⟨h2, rfl, f1.t f2, a2⟩
  · rename_i q
    have hs : snapS M (seedS (Y 34)) = true := by unfold snapS; simpa using Int32.not_le.mp q
    obtain ⟨h2, e2, f2, a2⟩ := M_pass_ok hM1 a1 true
    rw [f_M_goHour_b48, hs]
    have e2' : f_M_pass 1 h1 = some h2 := by simpa using e2
    rw [e2', bV_s]
    exact ⟨h2, rfl, f1.t f2, a2⟩
