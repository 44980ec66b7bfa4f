abbrev AJ {α : Type} (G : AE) (n : Nat) (y : MI) (d : Nat) (φ : α → Option Value × AH) (pc : Nat) (lv : List (Option Value)) (st : List Value) (h : AH) (X : Option α) : Prop := AR G (Std n) y (rmM d 0 0) (qM G (Std n) 0 0) φ (0, 0) pc lv st h X
abbrev OK {α : Type} (G : AE) (n : Nat) (y : MI) (d : Nat) (φ : α → Option Value × AH) (vs : List Value) (h : AH) (X : Option α) : Prop := Ok G (Std n) y d 0 0 φ vs h X
def FU : Nat := 1000000
def lt {α β : Type} (e : β) (K : β → α) : α := K e
section C0
variable {α : Type} {G : AE} {S : AH → Prop} {y y2 : MI} {R : Room} {Z : AZ} {φ : α → Option Value × AH} {kn : Nat × Nat} {pc d2 idx : Nat} {lv : List (Option Value)} {st st0 As : List Value} {h : AH} {X : Option α}
theorem r_ltI {x : Int32} {K : Int32 → Option α} (k : ∀ v, AR G S y R Z φ kn pc lv (.int v :: st) h (K v)) : AR G S y R Z φ kn pc lv (.int x :: st) h (lt x K) := k x
theorem r_ltL {x : Int64} {K : Int64 → Option α} (k : ∀ v, AR G S y R Z φ kn pc lv (.long v :: st) h (K v)) : AR G S y R Z φ kn pc lv (.long x :: st) h (lt x K) := k x
theorem r_ltH {h : AH} {K : AH → Option α} (k : ∀ h1, AR G S y R Z φ kn pc lv st h1 (K h1)) : AR G S y R Z φ kn pc lv st h (lt h K) := k h
theorem r_cVi {b0 ci N : Nat} {T : u_T} {f : Option (Int32 × AH)} {K0 : Int32 → AH → Option α} (ok : Ok G S y2 d2 0 0 φI (.ref b0 :: As) h f) (hk : S h → b0 < hN h ∧ hK h b0 = .inr ci) (hr : classes[ci]? = some (y2.1.cls, T, N)) (wc : Cond.code y2.1 y2.2.1 y2.2.2.1 y2.2.2.2 ∈ lw_good) (wi : Cond.initialized y2.1.cls ∈ lw_good) (wl : Cond.methodLink y.1.cls idx y2.1 ∈ lw_good) (wn : Cond.instanceMethod y2.1 ∈ lw_good) (wz : Cond.selects y2.1.cls y2.1 y2.1 ∈ lw_good) (hy : y2.1.cls ≠ "java/lang/invoke/MethodHandle" ∧ y2.1.cls ≠ "java/lang/invoke/VarHandle" ∧ (parseMethodDescriptor y2.1.desc).map (fun d => d.parameters.length) = some As.length) (hf : d2 + 1 ≤ R.frames ∧ 8 + (y2.2.2.1 + 11) + 60 * d2 ≤ R.locals) (hcs : kn.1 ≤ R.cells ∧ kn.2 ≤ R.slots) (hst : st0 = As.reverse ++ .ref b0 :: st) (hcat : (st.map fun v => v.category).sum ≤ 8) (hd : decode y.2.1 pc = .ok (.invokevirtual idx, 3))
    (kk : ∀ (r : Int32) (h1 : AH), AR G S y R Z φ kn (pc + 3) lv (.int r :: st) h1 (K0 r h1)) : AR G S y R Z φ kn pc lv st0 h (bI f K0) := r_callVi ok hk hr wc wi wl wn wz hy hf hcs hst hcat hd (fun s => s) (fun _ _ s => s) (fun r h1 _ => kk r h1)
theorem r_cVv {b0 ci N : Nat} {T : u_T} {f : Option (AH)} {K0 : AH → Option α} (ok : Ok G S y2 d2 0 0 φV (.ref b0 :: As) h f) (hk : S h → b0 < hN h ∧ hK h b0 = .inr ci) (hr : classes[ci]? = some (y2.1.cls, T, N)) (wc : Cond.code y2.1 y2.2.1 y2.2.2.1 y2.2.2.2 ∈ lw_good) (wi : Cond.initialized y2.1.cls ∈ lw_good) (wl : Cond.methodLink y.1.cls idx y2.1 ∈ lw_good) (wn : Cond.instanceMethod y2.1 ∈ lw_good) (wz : Cond.selects y2.1.cls y2.1 y2.1 ∈ lw_good) (hy : y2.1.cls ≠ "java/lang/invoke/MethodHandle" ∧ y2.1.cls ≠ "java/lang/invoke/VarHandle" ∧ (parseMethodDescriptor y2.1.desc).map (fun d => d.parameters.length) = some As.length) (hf : d2 + 1 ≤ R.frames ∧ 8 + (y2.2.2.1 + 11) + 60 * d2 ≤ R.locals) (hcs : kn.1 ≤ R.cells ∧ kn.2 ≤ R.slots) (hst : st0 = As.reverse ++ .ref b0 :: st) (hcat : (st.map fun v => v.category).sum ≤ 8) (hd : decode y.2.1 pc = .ok (.invokevirtual idx, 3))
    (kk : ∀ (h1 : AH), AR G S y R Z φ kn (pc + 3) lv st h1 (K0 h1)) : AR G S y R Z φ kn pc lv st0 h (bV f K0) := r_callVv ok hk hr wc wi wl wn wz hy hf hcs hst hcat hd (fun s => s) (fun _ _ s => s) (fun h1 _ => kk h1)
theorem r_cVNi {b0 ci N : Nat} {T : u_T} {f : Option (Int32 × AH)} {K0 : Int32 → AH → Option α} (ok : Ok G S y2 d2 0 0 φI (.ref b0 :: As) h f) (hk : S h → b0 < hN h ∧ hK h b0 = .inr ci) (hr : classes[ci]? = some (y2.1.cls, T, N)) (wc : Cond.code y2.1 y2.2.1 y2.2.2.1 y2.2.2.2 ∈ lw_good) (wi : Cond.initialized y2.1.cls ∈ lw_good) {host : String} (wl : (y.1.cls, idx, y2.1, host) ∈ nestW) (wn : Cond.instanceMethod y2.1 ∈ lw_good) (wz : Cond.selects y2.1.cls y2.1 y2.1 ∈ lw_good) (hy : y2.1.cls ≠ "java/lang/invoke/MethodHandle" ∧ y2.1.cls ≠ "java/lang/invoke/VarHandle" ∧ (parseMethodDescriptor y2.1.desc).map (fun d => d.parameters.length) = some As.length) (hf : d2 + 1 ≤ R.frames ∧ 8 + (y2.2.2.1 + 11) + 60 * d2 ≤ R.locals) (hcs : kn.1 ≤ R.cells ∧ kn.2 ≤ R.slots) (hst : st0 = As.reverse ++ .ref b0 :: st) (hcat : (st.map fun v => v.category).sum ≤ 8) (hd : decode y.2.1 pc = .ok (.invokevirtual idx, 3))
    (kk : ∀ (r : Int32) (h1 : AH), AR G S y R Z φ kn (pc + 3) lv (.int r :: st) h1 (K0 r h1)) : AR G S y R Z φ kn pc lv st0 h (bI f K0) := r_callVNi ok hk hr wc wi wl wn wz hy hf hcs hst hcat hd (fun s => s) (fun _ _ s => s) (fun r h1 _ => kk r h1)
theorem r_cVNv {b0 ci N : Nat} {T : u_T} {f : Option (AH)} {K0 : AH → Option α} (ok : Ok G S y2 d2 0 0 φV (.ref b0 :: As) h f) (hk : S h → b0 < hN h ∧ hK h b0 = .inr ci) (hr : classes[ci]? = some (y2.1.cls, T, N)) (wc : Cond.code y2.1 y2.2.1 y2.2.2.1 y2.2.2.2 ∈ lw_good) (wi : Cond.initialized y2.1.cls ∈ lw_good) {host : String} (wl : (y.1.cls, idx, y2.1, host) ∈ nestW) (wn : Cond.instanceMethod y2.1 ∈ lw_good) (wz : Cond.selects y2.1.cls y2.1 y2.1 ∈ lw_good) (hy : y2.1.cls ≠ "java/lang/invoke/MethodHandle" ∧ y2.1.cls ≠ "java/lang/invoke/VarHandle" ∧ (parseMethodDescriptor y2.1.desc).map (fun d => d.parameters.length) = some As.length) (hf : d2 + 1 ≤ R.frames ∧ 8 + (y2.2.2.1 + 11) + 60 * d2 ≤ R.locals) (hcs : kn.1 ≤ R.cells ∧ kn.2 ≤ R.slots) (hst : st0 = As.reverse ++ .ref b0 :: st) (hcat : (st.map fun v => v.category).sum ≤ 8) (hd : decode y.2.1 pc = .ok (.invokevirtual idx, 3))
    (kk : ∀ (h1 : AH), AR G S y R Z φ kn (pc + 3) lv st h1 (K0 h1)) : AR G S y R Z φ kn pc lv st0 h (bV f K0) := r_callVNv ok hk hr wc wi wl wn wz hy hf hcs hst hcat hd (fun s => s) (fun _ _ s => s) (fun h1 _ => kk h1)
theorem r_cSi {f : Option (Int32 × AH)} {K0 : Int32 → AH → Option α} (ok : Ok G S y2 d2 0 0 φI (As) h f) (wc : Cond.code y2.1 y2.2.1 y2.2.2.1 y2.2.2.2 ∈ lw_good) (wi : Cond.initialized y2.1.cls ∈ lw_good) (wl : Cond.methodLink y.1.cls idx y2.1 ∈ lw_good) (wn : Cond.static y2.1 ∈ lw_good) (hy : y2.1.cls ≠ "java/lang/invoke/MethodHandle" ∧ y2.1.cls ≠ "java/lang/invoke/VarHandle" ∧ (parseMethodDescriptor y2.1.desc).map (fun d => d.parameters.length) = some As.length) (hf : d2 + 1 ≤ R.frames ∧ 8 + (y2.2.2.1 + 11) + 60 * d2 ≤ R.locals) (hcs : kn.1 ≤ R.cells ∧ kn.2 ≤ R.slots) (hst : st0 = As.reverse ++ st) (hcat : (st.map fun v => v.category).sum ≤ 8) (hd : decode y.2.1 pc = .ok (.invokestatic idx, 3))
    (kk : ∀ (r : Int32) (h1 : AH), AR G S y R Z φ kn (pc + 3) lv (.int r :: st) h1 (K0 r h1)) : AR G S y R Z φ kn pc lv st0 h (bI f K0) := r_callSi ok wc wi wl wn hy hf hcs hst hcat hd (fun s => s) (fun _ _ s => s) (fun r h1 _ => kk r h1)
theorem r_cSv {f : Option (AH)} {K0 : AH → Option α} (ok : Ok G S y2 d2 0 0 φV (As) h f) (wc : Cond.code y2.1 y2.2.1 y2.2.2.1 y2.2.2.2 ∈ lw_good) (wi : Cond.initialized y2.1.cls ∈ lw_good) (wl : Cond.methodLink y.1.cls idx y2.1 ∈ lw_good) (wn : Cond.static y2.1 ∈ lw_good) (hy : y2.1.cls ≠ "java/lang/invoke/MethodHandle" ∧ y2.1.cls ≠ "java/lang/invoke/VarHandle" ∧ (parseMethodDescriptor y2.1.desc).map (fun d => d.parameters.length) = some As.length) (hf : d2 + 1 ≤ R.frames ∧ 8 + (y2.2.2.1 + 11) + 60 * d2 ≤ R.locals) (hcs : kn.1 ≤ R.cells ∧ kn.2 ≤ R.slots) (hst : st0 = As.reverse ++ st) (hcat : (st.map fun v => v.category).sum ≤ 8) (hd : decode y.2.1 pc = .ok (.invokestatic idx, 3))
    (kk : ∀ (h1 : AH), AR G S y R Z φ kn (pc + 3) lv st h1 (K0 h1)) : AR G S y R Z φ kn pc lv st0 h (bV f K0) := r_callSv ok wc wi wl wn hy hf hcs hst hcat hd (fun s => s) (fun _ _ s => s) (fun h1 _ => kk h1)
theorem r_wk {lv1 : List (Option Value)} (K : AR G S y R Z φ kn pc lv1 st h X) (hw : wk lv1 lv) : AR G S y R Z φ kn pc lv st h X := r_weak hw K
theorem r_ltE {β : Type} {e : β} {K : β → Option α} (k : ∀ v, v = e → AR G S y R Z φ kn pc lv st h (K v)) : AR G S y R Z φ kn pc lv st h (lt e K) := k e rfl
end C0
theorem kd_ar {c t n : Nat} (h : kdF c = .inl (t, n)) (ht : t < 4) : c < NN := Nat.lt_of_not_le fun hc => by rw [kd_big c hc] at h; cases h; omega
theorem rf_arr : ∀ c k, (rfL.getD c []).length = 0 → rfF c k = 0 := fun c k h => by rw [rfF, List.eq_nil_of_length_eq_zero h]; rfl
theorem lc {c B n : Nat} (hn : B ≤ n) (h : Nat.ble (c + 1) B = true) : c < n := Nat.lt_of_lt_of_le (Nat.le_of_ble_eq_true h) hn
theorem ltn {c B n : Nat} (hn : B ≤ n) (h : c < B) : c < n := Nat.lt_of_lt_of_le h hn
theorem hf_of {d2 D nl : Nat} (h : d2 + 1 ≤ D) (hn : nl ≤ 41) : d2 + 1 ≤ (rmM D 0 0).frames ∧ 8 + (nl + 11) + 60 * d2 ≤ (rmM D 0 0).locals := ⟨h, by show _ ≤ 60 * D; omega⟩
theorem r_tableD {α : Type} {G : AE} {S : AH → Prop} {y : MI} {R : Room} {Z : AZ} {φ : α → Option Value × AH} {kn : Nat × Nat} {pc : Nat} {lv : List (Option Value)} {st : List Value} {h : AH} {X : Option α} {dflt lo hi : Int} {offs : Array Int} {len : Nat} {x : Int32} {tgt : Nat} (hd : decode y.2.1 pc = .ok (.tableswitch dflt lo hi offs, len)) (keys : List Int) (hk : ∀ q ∈ keys, x.toInt ≠ q) (hc : (List.range (hi - lo + 1).toNat).all (fun k => offs[k]? == some dflt || keys.contains (lo + k)) = true) (ht : (pc : Int) + dflt = (tgt : Int)) (K : AR G S y R Z φ kn tgt lv st h X) : AR G S y R Z φ kn pc lv (.int x :: st) h X := by
  by_cases h9 : x.toInt < lo ∨ hi < x.toInt
  · exact r_tableOut hd h9 ht K
  · have h1 : ¬ x.toInt < lo := fun q => h9 (Or.inl q)
    have h2 : ¬ hi < x.toInt := fun q => h9 (Or.inr q)
    have h3 := List.all_eq_true.mp hc (x.toInt - lo).toNat (List.mem_range.mpr (by omega))
    have h4 : lo + ((x.toInt - lo).toNat : Int) = x.toInt := by omega
    rw [h4, Bool.or_eq_true] at h3
    rcases h3 with h3 | h3
    · exact r_tableIn hd h1 h2 (by simpa using h3) ht K
    · exact absurd rfl (hk _ (by simpa using h3))
theorem cm {n : Nat} (hn : NN ≤ n) : CM ≤ n := Nat.le_trans (Nat.le_of_ble_eq_true rfl) hn
theorem vr {G : AE} {h : AH} {c k ci x : Nat} (hj : am_V G h c (tyF ci) k = va_rf ((hR h c k).map (eB G + ·))) (hx : hR h c k = some x) : am_V G h c (tyF ci) k = cv G (.ref x) := by
  rw [hj, hx]; rfl
theorem vin {i : Int32} {n k : Nat} (h : i.toInt = (k : Int)) (hk : Nat.ble (k + 1) n = true) : vp_in i n := vp_in_iff.mpr (by rw [h]; have := Nat.le_of_ble_eq_true hk; omega)
theorem kq_0 : kdF 0 = .inr 11 := by decide +kernel
theorem rq_0_0 : rfF 0 0 = 0 + 1 := by decide +kernel
theorem rq_0_3 : rfF 0 3 = 36 + 1 := by decide +kernel
theorem rq_0_4 : rfF 0 4 = 43 + 1 := by decide +kernel
theorem rq_0_5 : rfF 0 5 = 50 + 1 := by decide +kernel
theorem rq_0_6 : rfF 0 6 = 52 + 1 := by decide +kernel
theorem rq_0_7 : rfF 0 7 = 341 + 1 := by decide +kernel
theorem rq_0_8 : rfF 0 8 = 365 + 1 := by decide +kernel
theorem rq_0_9 : rfF 0 9 = 373 + 1 := by decide +kernel
theorem rq_0_10 : rfF 0 10 = 375 + 1 := by decide +kernel
theorem rq_0_11 : rfF 0 11 = 379 + 1 := by decide +kernel
theorem rq_0_12 : rfF 0 12 = 381 + 1 := by decide +kernel
theorem kq_1 : kdF 1 = .inr 9 := by decide +kernel
theorem rq_1_0 : rfF 1 0 = 1 + 1 := by decide +kernel
theorem kq_2 : kdF 2 = .inl (0, 1600) := by decide +kernel
theorem kq_3 : kdF 3 = .inr 7 := by decide +kernel
theorem rq_3_0 : rfF 3 0 = 3 + 1 := by decide +kernel
theorem rq_3_1 : rfF 3 1 = 4 + 1 := by decide +kernel
theorem rq_3_2 : rfF 3 2 = 5 + 1 := by decide +kernel
theorem rq_3_3 : rfF 3 3 = 6 + 1 := by decide +kernel
theorem rq_3_4 : rfF 3 4 = 7 + 1 := by decide +kernel
theorem rq_3_5 : rfF 3 5 = 8 + 1 := by decide +kernel
theorem rq_3_6 : rfF 3 6 = 9 + 1 := by decide +kernel
theorem rq_3_7 : rfF 3 7 = 10 + 1 := by decide +kernel
theorem rq_3_8 : rfF 3 8 = 11 + 1 := by decide +kernel
theorem rq_3_9 : rfF 3 9 = 15 + 1 := by decide +kernel
theorem kq_4 : kdF 4 = .inl (2, 3) := by decide +kernel
theorem kq_5 : kdF 5 = .inl (2, 6) := by decide +kernel
theorem kq_6 : kdF 6 = .inl (0, 6) := by decide +kernel
theorem kq_7 : kdF 7 = .inl (0, 6) := by decide +kernel
theorem kq_8 : kdF 8 = .inl (0, 6) := by decide +kernel
theorem kq_9 : kdF 9 = .inl (0, 6) := by decide +kernel
theorem kq_10 : kdF 10 = .inl (0, 6) := by decide +kernel
theorem kq_11 : kdF 11 = .inl (0, 6) := by decide +kernel
theorem kq_12 : kdF 12 = .inr 5 := by decide +kernel
theorem rq_12_0 : rfF 12 0 = 12 + 1 := by decide +kernel
theorem rq_12_1 : rfF 12 1 = 13 + 1 := by decide +kernel
theorem rq_12_2 : rfF 12 2 = 14 + 1 := by decide +kernel
theorem kq_13 : kdF 13 = .inl (0, 270) := by decide +kernel
theorem kq_14 : kdF 14 = .inl (0, 270) := by decide +kernel
theorem kq_15 : kdF 15 = .inl (0, 30) := by decide +kernel
theorem kq_16 : kdF 16 = .inr 5 := by decide +kernel
theorem rq_16_0 : rfF 16 0 = 16 + 1 := by decide +kernel
theorem rq_16_1 : rfF 16 1 = 17 + 1 := by decide +kernel
theorem rq_16_2 : rfF 16 2 = 18 + 1 := by decide +kernel
theorem kq_17 : kdF 17 = .inl (0, 270) := by decide +kernel
theorem kq_18 : kdF 18 = .inl (0, 270) := by decide +kernel
theorem kq_19 : kdF 19 = .inl (0, 30) := by decide +kernel
theorem kq_20 : kdF 20 = .inr 7 := by decide +kernel
theorem rq_20_0 : rfF 20 0 = 20 + 1 := by decide +kernel
theorem rq_20_1 : rfF 20 1 = 21 + 1 := by decide +kernel
theorem rq_20_2 : rfF 20 2 = 22 + 1 := by decide +kernel
theorem rq_20_3 : rfF 20 3 = 23 + 1 := by decide +kernel
theorem rq_20_4 : rfF 20 4 = 24 + 1 := by decide +kernel
theorem rq_20_5 : rfF 20 5 = 25 + 1 := by decide +kernel
theorem rq_20_6 : rfF 20 6 = 26 + 1 := by decide +kernel
theorem rq_20_7 : rfF 20 7 = 27 + 1 := by decide +kernel
theorem rq_20_8 : rfF 20 8 = 28 + 1 := by decide +kernel
theorem rq_20_9 : rfF 20 9 = 32 + 1 := by decide +kernel
theorem kq_21 : kdF 21 = .inl (2, 3) := by decide +kernel
theorem kq_22 : kdF 22 = .inl (2, 6) := by decide +kernel
theorem kq_23 : kdF 23 = .inl (0, 6) := by decide +kernel
theorem kq_24 : kdF 24 = .inl (0, 6) := by decide +kernel
theorem kq_25 : kdF 25 = .inl (0, 6) := by decide +kernel
theorem kq_26 : kdF 26 = .inl (0, 6) := by decide +kernel
theorem kq_27 : kdF 27 = .inl (0, 6) := by decide +kernel
theorem kq_28 : kdF 28 = .inl (0, 6) := by decide +kernel
theorem kq_29 : kdF 29 = .inr 5 := by decide +kernel
theorem rq_29_0 : rfF 29 0 = 29 + 1 := by decide +kernel
theorem rq_29_1 : rfF 29 1 = 30 + 1 := by decide +kernel
theorem rq_29_2 : rfF 29 2 = 31 + 1 := by decide +kernel
theorem kq_30 : kdF 30 = .inl (0, 270) := by decide +kernel
theorem kq_31 : kdF 31 = .inl (0, 270) := by decide +kernel
theorem kq_32 : kdF 32 = .inl (0, 30) := by decide +kernel
theorem kq_33 : kdF 33 = .inr 5 := by decide +kernel
theorem rq_33_0 : rfF 33 0 = 33 + 1 := by decide +kernel
theorem rq_33_1 : rfF 33 1 = 34 + 1 := by decide +kernel
theorem rq_33_2 : rfF 33 2 = 35 + 1 := by decide +kernel
theorem kq_34 : kdF 34 = .inl (0, 270) := by decide +kernel
theorem kq_35 : kdF 35 = .inl (0, 270) := by decide +kernel
theorem kq_36 : kdF 36 = .inl (0, 30) := by decide +kernel
theorem kq_37 : kdF 37 = .inr 10 := by decide +kernel
theorem rq_37_0 : rfF 37 0 = 37 + 1 := by decide +kernel
theorem rq_37_1 : rfF 37 1 = 38 + 1 := by decide +kernel
theorem rq_37_2 : rfF 37 2 = 39 + 1 := by decide +kernel
theorem rq_37_3 : rfF 37 3 = 40 + 1 := by decide +kernel
theorem rq_37_4 : rfF 37 4 = 41 + 1 := by decide +kernel
theorem rq_37_5 : rfF 37 5 = 42 + 1 := by decide +kernel
theorem kq_38 : kdF 38 = .inl (0, 6) := by decide +kernel
theorem kq_39 : kdF 39 = .inl (0, 6) := by decide +kernel
theorem kq_40 : kdF 40 = .inl (0, 6) := by decide +kernel
theorem kq_41 : kdF 41 = .inl (0, 6) := by decide +kernel
theorem kq_42 : kdF 42 = .inl (0, 6) := by decide +kernel
theorem kq_43 : kdF 43 = .inl (0, 6) := by decide +kernel
theorem kq_44 : kdF 44 = .inr 10 := by decide +kernel
theorem rq_44_0 : rfF 44 0 = 44 + 1 := by decide +kernel
theorem rq_44_1 : rfF 44 1 = 45 + 1 := by decide +kernel
theorem rq_44_2 : rfF 44 2 = 46 + 1 := by decide +kernel
theorem rq_44_3 : rfF 44 3 = 47 + 1 := by decide +kernel
theorem rq_44_4 : rfF 44 4 = 48 + 1 := by decide +kernel
theorem rq_44_5 : rfF 44 5 = 49 + 1 := by decide +kernel
theorem kq_45 : kdF 45 = .inl (0, 6) := by decide +kernel
theorem kq_46 : kdF 46 = .inl (0, 6) := by decide +kernel
theorem kq_47 : kdF 47 = .inl (0, 6) := by decide +kernel
theorem kq_48 : kdF 48 = .inl (0, 6) := by decide +kernel
theorem kq_49 : kdF 49 = .inl (0, 6) := by decide +kernel
theorem kq_50 : kdF 50 = .inl (0, 6) := by decide +kernel
theorem kq_51 : kdF 51 = .inr 2 := by decide +kernel
theorem rq_51_0 : rfF 51 0 = 51 + 1 := by decide +kernel
theorem kq_52 : kdF 52 = .inl (0, 6) := by decide +kernel
theorem kq_53 : kdF 53 = .inr 0 := by decide +kernel
theorem rq_53_0 : rfF 53 0 = 53 + 1 := by decide +kernel
theorem kq_54 : kdF 54 = .inl (3, 41) := by decide +kernel
theorem kq_342 : kdF 342 = .inr 1 := by decide +kernel
theorem rq_342_0 : rfF 342 0 = 342 + 1 := by decide +kernel
theorem rq_342_1 : rfF 342 1 = 343 + 1 := by decide +kernel
theorem kq_343 : kdF 343 = .inl (3, 3) := by decide +kernel
theorem kq_344 : kdF 344 = .inl (1, 3) := by decide +kernel
theorem kq_366 : kdF 366 = .inr 4 := by decide +kernel
theorem rq_366_0 : rfF 366 0 = 366 + 1 := by decide +kernel
theorem rq_366_1 : rfF 366 1 = 367 + 1 := by decide +kernel
theorem rq_366_2 : rfF 366 2 = 368 + 1 := by decide +kernel
theorem rq_366_3 : rfF 366 3 = 369 + 1 := by decide +kernel
theorem rq_366_4 : rfF 366 4 = 370 + 1 := by decide +kernel
theorem rq_366_5 : rfF 366 5 = 371 + 1 := by decide +kernel
theorem rq_366_6 : rfF 366 6 = 372 + 1 := by decide +kernel
theorem kq_367 : kdF 367 = .inl (0, 30) := by decide +kernel
theorem kq_368 : kdF 368 = .inl (0, 30) := by decide +kernel
theorem kq_369 : kdF 369 = .inl (1, 30) := by decide +kernel
theorem kq_370 : kdF 370 = .inl (0, 30) := by decide +kernel
theorem kq_371 : kdF 371 = .inl (0, 30) := by decide +kernel
theorem kq_372 : kdF 372 = .inl (1, 100) := by decide +kernel
theorem kq_373 : kdF 373 = .inl (0, 4100) := by decide +kernel
theorem kq_374 : kdF 374 = .inr 8 := by decide +kernel
theorem rq_374_0 : rfF 374 0 = 374 + 1 := by decide +kernel
theorem kq_375 : kdF 375 = .inl (0, 1024) := by decide +kernel
theorem kq_376 : kdF 376 = .inr 3 := by decide +kernel
theorem rq_376_0 : rfF 376 0 = 376 + 1 := by decide +kernel
theorem rq_376_1 : rfF 376 1 = 377 + 1 := by decide +kernel
theorem rq_376_2 : rfF 376 2 = 378 + 1 := by decide +kernel
theorem kq_377 : kdF 377 = .inl (0, 6) := by decide +kernel
theorem kq_378 : kdF 378 = .inl (0, 6) := by decide +kernel
theorem kq_379 : kdF 379 = .inl (0, 6) := by decide +kernel
theorem kq_380 : kdF 380 = .inr 6 := by decide +kernel
theorem rq_380_0 : rfF 380 0 = 380 + 1 := by decide +kernel
theorem kq_381 : kdF 381 = .inl (0, 12) := by decide +kernel
theorem kq_382 : kdF 382 = .inl (0, 25) := by decide +kernel
theorem kq_383 : kdF 383 = .inr 12 := by decide +kernel
theorem rq_383_0 : rfF 383 0 = 383 + 1 := by decide +kernel
theorem rq_383_10 : rfF 383 10 = 384 + 1 := by decide +kernel
theorem rq_383_11 : rfF 383 11 = 385 + 1 := by decide +kernel
theorem rq_383_12 : rfF 383 12 = 386 + 1 := by decide +kernel
theorem rq_383_13 : rfF 383 13 = 387 + 1 := by decide +kernel
theorem rq_383_14 : rfF 383 14 = 388 + 1 := by decide +kernel
theorem rq_383_15 : rfF 383 15 = 389 + 1 := by decide +kernel
theorem rq_383_16 : rfF 383 16 = 390 + 1 := by decide +kernel
theorem rq_383_17 : rfF 383 17 = 391 + 1 := by decide +kernel
theorem rq_383_18 : rfF 383 18 = 392 + 1 := by decide +kernel
theorem rq_383_19 : rfF 383 19 = 393 + 1 := by decide +kernel
theorem rq_383_26 : rfF 383 26 = 394 + 1 := by decide +kernel
theorem rq_383_27 : rfF 383 27 = 395 + 1 := by decide +kernel
theorem rq_383_28 : rfF 383 28 = 396 + 1 := by decide +kernel
theorem rq_383_29 : rfF 383 29 = 397 + 1 := by decide +kernel
theorem rq_383_30 : rfF 383 30 = 398 + 1 := by decide +kernel
theorem rq_383_31 : rfF 383 31 = 399 + 1 := by decide +kernel
theorem rq_383_32 : rfF 383 32 = 400 + 1 := by decide +kernel
theorem rq_383_33 : rfF 383 33 = 401 + 1 := by decide +kernel
theorem rq_383_34 : rfF 383 34 = 402 + 1 := by decide +kernel
theorem rq_383_35 : rfF 383 35 = 403 + 1 := by decide +kernel
theorem rq_383_50 : rfF 383 50 = 404 + 1 := by decide +kernel
theorem rq_383_51 : rfF 383 51 = 405 + 1 := by decide +kernel
theorem rq_383_52 : rfF 383 52 = 406 + 1 := by decide +kernel
theorem rq_383_55 : rfF 383 55 = 407 + 1 := by decide +kernel
theorem rq_383_56 : rfF 383 56 = 408 + 1 := by decide +kernel
theorem rq_383_58 : rfF 383 58 = 409 + 1 := by decide +kernel
theorem rq_383_59 : rfF 383 59 = 410 + 1 := by decide +kernel
theorem rq_383_62 : rfF 383 62 = 411 + 1 := by decide +kernel
theorem rq_383_63 : rfF 383 63 = 412 + 1 := by decide +kernel
theorem rq_383_64 : rfF 383 64 = 413 + 1 := by decide +kernel
theorem rq_383_65 : rfF 383 65 = 414 + 1 := by decide +kernel
theorem rq_383_66 : rfF 383 66 = 415 + 1 := by decide +kernel
theorem rq_383_67 : rfF 383 67 = 416 + 1 := by decide +kernel
theorem rq_383_70 : rfF 383 70 = 417 + 1 := by decide +kernel
theorem rq_383_71 : rfF 383 71 = 418 + 1 := by decide +kernel
theorem rq_383_72 : rfF 383 72 = 419 + 1 := by decide +kernel
theorem kq_384 : kdF 384 = .inl (0, 1600) := by decide +kernel
theorem kq_385 : kdF 385 = .inl (2, 9) := by decide +kernel
theorem kq_386 : kdF 386 = .inl (0, 640) := by decide +kernel
theorem kq_387 : kdF 387 = .inl (0, 640) := by decide +kernel
theorem kq_388 : kdF 388 = .inl (0, 2) := by decide +kernel
theorem kq_389 : kdF 389 = .inl (0, 640) := by decide +kernel
theorem kq_390 : kdF 390 = .inl (0, 640) := by decide +kernel
theorem kq_391 : kdF 391 = .inl (0, 2) := by decide +kernel
theorem kq_392 : kdF 392 = .inl (0, 160) := by decide +kernel
theorem kq_393 : kdF 393 = .inl (0, 64) := by decide +kernel
theorem kq_394 : kdF 394 = .inl (1, 2) := by decide +kernel
theorem kq_395 : kdF 395 = .inl (0, 6) := by decide +kernel
theorem kq_396 : kdF 396 = .inl (0, 6) := by decide +kernel
theorem kq_397 : kdF 397 = .inl (0, 6) := by decide +kernel
theorem kq_398 : kdF 398 = .inl (0, 6) := by decide +kernel
theorem kq_399 : kdF 399 = .inl (0, 6) := by decide +kernel
theorem kq_400 : kdF 400 = .inl (0, 6) := by decide +kernel
theorem kq_401 : kdF 401 = .inl (0, 6) := by decide +kernel
theorem kq_402 : kdF 402 = .inl (0, 6) := by decide +kernel
theorem kq_403 : kdF 403 = .inl (0, 6) := by decide +kernel
theorem kq_404 : kdF 404 = .inl (0, 6) := by decide +kernel
theorem kq_405 : kdF 405 = .inl (0, 35) := by decide +kernel
theorem kq_406 : kdF 406 = .inl (0, 35) := by decide +kernel
theorem kq_407 : kdF 407 = .inl (0, 1400) := by decide +kernel
theorem kq_408 : kdF 408 = .inl (0, 12) := by decide +kernel
theorem kq_409 : kdF 409 = .inl (0, 12) := by decide +kernel
theorem kq_410 : kdF 410 = .inl (0, 6) := by decide +kernel
theorem kq_411 : kdF 411 = .inl (0, 6) := by decide +kernel
theorem kq_412 : kdF 412 = .inl (0, 1024) := by decide +kernel
theorem kq_413 : kdF 413 = .inl (0, 30) := by decide +kernel
theorem kq_414 : kdF 414 = .inl (0, 30) := by decide +kernel
theorem kq_415 : kdF 415 = .inl (0, 30) := by decide +kernel
theorem kq_416 : kdF 416 = .inl (0, 30) := by decide +kernel
theorem kq_417 : kdF 417 = .inl (1, 30) := by decide +kernel
theorem kq_418 : kdF 418 = .inl (1, 100) := by decide +kernel
theorem kq_419 : kdF 419 = .inl (1, 3) := by decide +kernel
theorem kq_420 : kdF 420 = .inl (0, 105) := by decide +kernel
theorem kl_Y {c : Nat} (h : kdF c = .inr 10) : c < CM := (kd_Y h).1
theorem rr_Y_0 {c : Nat} (h : kdF c = .inr 10) : rfF c 0 = c + 0 + 1 := (kd_Y h).2.1
theorem kk_Y_0 {c : Nat} (h : kdF c = .inr 10) : kdF (c + 1) = .inl (0, 6) := (kd_Y h).2.2.2.2.2.2.2.1
theorem kj_Y_0 {c : Nat} (h : kdF c = .inr 10) : c + 1 < CM := (kd_Y h).2.2.2.2.2.2.2.2.2.2.2.2.2.1
theorem rr_Y_1 {c : Nat} (h : kdF c = .inr 10) : rfF c 1 = c + 1 + 1 := (kd_Y h).2.2.1
theorem kk_Y_1 {c : Nat} (h : kdF c = .inr 10) : kdF (c + 2) = .inl (0, 6) := (kd_Y h).2.2.2.2.2.2.2.2.1
theorem kj_Y_1 {c : Nat} (h : kdF c = .inr 10) : c + 2 < CM := (kd_Y h).2.2.2.2.2.2.2.2.2.2.2.2.2.2.1
theorem rr_Y_2 {c : Nat} (h : kdF c = .inr 10) : rfF c 2 = c + 2 + 1 := (kd_Y h).2.2.2.1
theorem kk_Y_2 {c : Nat} (h : kdF c = .inr 10) : kdF (c + 3) = .inl (0, 6) := (kd_Y h).2.2.2.2.2.2.2.2.2.1
theorem kj_Y_2 {c : Nat} (h : kdF c = .inr 10) : c + 3 < CM := (kd_Y h).2.2.2.2.2.2.2.2.2.2.2.2.2.2.2.1
theorem rr_Y_3 {c : Nat} (h : kdF c = .inr 10) : rfF c 3 = c + 3 + 1 := (kd_Y h).2.2.2.2.1
theorem kk_Y_3 {c : Nat} (h : kdF c = .inr 10) : kdF (c + 4) = .inl (0, 6) := (kd_Y h).2.2.2.2.2.2.2.2.2.2.1
theorem kj_Y_3 {c : Nat} (h : kdF c = .inr 10) : c + 4 < CM := (kd_Y h).2.2.2.2.2.2.2.2.2.2.2.2.2.2.2.2.1
theorem rr_Y_4 {c : Nat} (h : kdF c = .inr 10) : rfF c 4 = c + 4 + 1 := (kd_Y h).2.2.2.2.2.1
theorem kk_Y_4 {c : Nat} (h : kdF c = .inr 10) : kdF (c + 5) = .inl (0, 6) := (kd_Y h).2.2.2.2.2.2.2.2.2.2.2.1
theorem kj_Y_4 {c : Nat} (h : kdF c = .inr 10) : c + 5 < CM := (kd_Y h).2.2.2.2.2.2.2.2.2.2.2.2.2.2.2.2.2.1
theorem rr_Y_5 {c : Nat} (h : kdF c = .inr 10) : rfF c 5 = c + 5 + 1 := (kd_Y h).2.2.2.2.2.2.1
theorem kk_Y_5 {c : Nat} (h : kdF c = .inr 10) : kdF (c + 6) = .inl (0, 6) := (kd_Y h).2.2.2.2.2.2.2.2.2.2.2.2.1
theorem kj_Y_5 {c : Nat} (h : kdF c = .inr 10) : c + 6 < CM := (kd_Y h).2.2.2.2.2.2.2.2.2.2.2.2.2.2.2.2.2.2
theorem kl_M {c : Nat} (h : kdF c = .inr 7) : c < CM := (kd_M h).1
theorem rr_M_0 {c : Nat} (h : kdF c = .inr 7) : rfF c 0 = c + 0 + 1 := (kd_M h).2.1
theorem kk_M_0 {c : Nat} (h : kdF c = .inr 7) : kdF (c + 1) = .inl (2, 3) := (kd_M h).2.2.2.2.2.2.2.2.2.2.2.1
theorem kj_M_0 {c : Nat} (h : kdF c = .inr 7) : c + 1 < CM := (kd_M h).2.2.2.2.2.2.2.2.2.2.2.2.2.2.2.2.2.2.2.2.2.1
theorem rr_M_1 {c : Nat} (h : kdF c = .inr 7) : rfF c 1 = c + 1 + 1 := (kd_M h).2.2.1
theorem kk_M_1 {c : Nat} (h : kdF c = .inr 7) : kdF (c + 2) = .inl (2, 6) := (kd_M h).2.2.2.2.2.2.2.2.2.2.2.2.1
theorem kj_M_1 {c : Nat} (h : kdF c = .inr 7) : c + 2 < CM := (kd_M h).2.2.2.2.2.2.2.2.2.2.2.2.2.2.2.2.2.2.2.2.2.2.1
theorem rr_M_2 {c : Nat} (h : kdF c = .inr 7) : rfF c 2 = c + 2 + 1 := (kd_M h).2.2.2.1
theorem kk_M_2 {c : Nat} (h : kdF c = .inr 7) : kdF (c + 3) = .inl (0, 6) := (kd_M h).2.2.2.2.2.2.2.2.2.2.2.2.2.1
theorem kj_M_2 {c : Nat} (h : kdF c = .inr 7) : c + 3 < CM := (kd_M h).2.2.2.2.2.2.2.2.2.2.2.2.2.2.2.2.2.2.2.2.2.2.2.1
theorem rr_M_3 {c : Nat} (h : kdF c = .inr 7) : rfF c 3 = c + 3 + 1 := (kd_M h).2.2.2.2.1
theorem kk_M_3 {c : Nat} (h : kdF c = .inr 7) : kdF (c + 4) = .inl (0, 6) := (kd_M h).2.2.2.2.2.2.2.2.2.2.2.2.2.2.1
theorem kj_M_3 {c : Nat} (h : kdF c = .inr 7) : c + 4 < CM := (kd_M h).2.2.2.2.2.2.2.2.2.2.2.2.2.2.2.2.2.2.2.2.2.2.2.2.1
theorem rr_M_4 {c : Nat} (h : kdF c = .inr 7) : rfF c 4 = c + 4 + 1 := (kd_M h).2.2.2.2.2.1
theorem kk_M_4 {c : Nat} (h : kdF c = .inr 7) : kdF (c + 5) = .inl (0, 6) := (kd_M h).2.2.2.2.2.2.2.2.2.2.2.2.2.2.2.1
theorem kj_M_4 {c : Nat} (h : kdF c = .inr 7) : c + 5 < CM := (kd_M h).2.2.2.2.2.2.2.2.2.2.2.2.2.2.2.2.2.2.2.2.2.2.2.2.2.1
theorem rr_M_5 {c : Nat} (h : kdF c = .inr 7) : rfF c 5 = c + 5 + 1 := (kd_M h).2.2.2.2.2.2.1
theorem kk_M_5 {c : Nat} (h : kdF c = .inr 7) : kdF (c + 6) = .inl (0, 6) := (kd_M h).2.2.2.2.2.2.2.2.2.2.2.2.2.2.2.2.1
theorem kj_M_5 {c : Nat} (h : kdF c = .inr 7) : c + 6 < CM := (kd_M h).2.2.2.2.2.2.2.2.2.2.2.2.2.2.2.2.2.2.2.2.2.2.2.2.2.2.1
theorem rr_M_6 {c : Nat} (h : kdF c = .inr 7) : rfF c 6 = c + 6 + 1 := (kd_M h).2.2.2.2.2.2.2.1
theorem kk_M_6 {c : Nat} (h : kdF c = .inr 7) : kdF (c + 7) = .inl (0, 6) := (kd_M h).2.2.2.2.2.2.2.2.2.2.2.2.2.2.2.2.2.1
theorem kj_M_6 {c : Nat} (h : kdF c = .inr 7) : c + 7 < CM := (kd_M h).2.2.2.2.2.2.2.2.2.2.2.2.2.2.2.2.2.2.2.2.2.2.2.2.2.2.2.1
theorem rr_M_7 {c : Nat} (h : kdF c = .inr 7) : rfF c 7 = c + 7 + 1 := (kd_M h).2.2.2.2.2.2.2.2.1
theorem kk_M_7 {c : Nat} (h : kdF c = .inr 7) : kdF (c + 8) = .inl (0, 6) := (kd_M h).2.2.2.2.2.2.2.2.2.2.2.2.2.2.2.2.2.2.1
theorem kj_M_7 {c : Nat} (h : kdF c = .inr 7) : c + 8 < CM := (kd_M h).2.2.2.2.2.2.2.2.2.2.2.2.2.2.2.2.2.2.2.2.2.2.2.2.2.2.2.2.1
theorem rr_M_8 {c : Nat} (h : kdF c = .inr 7) : rfF c 8 = c + 8 + 1 := (kd_M h).2.2.2.2.2.2.2.2.2.1
theorem kk_M_8 {c : Nat} (h : kdF c = .inr 7) : kdF (c + 9) = .inr 5 := (kd_M h).2.2.2.2.2.2.2.2.2.2.2.2.2.2.2.2.2.2.2.1
theorem kj_M_8 {c : Nat} (h : kdF c = .inr 7) : c + 9 < CM := (kd_M h).2.2.2.2.2.2.2.2.2.2.2.2.2.2.2.2.2.2.2.2.2.2.2.2.2.2.2.2.2.1
theorem rr_M_9 {c : Nat} (h : kdF c = .inr 7) : rfF c 9 = c + 12 + 1 := (kd_M h).2.2.2.2.2.2.2.2.2.2.1
theorem kk_M_9 {c : Nat} (h : kdF c = .inr 7) : kdF (c + 13) = .inr 5 := (kd_M h).2.2.2.2.2.2.2.2.2.2.2.2.2.2.2.2.2.2.2.2.1
theorem kj_M_9 {c : Nat} (h : kdF c = .inr 7) : c + 13 < CM := (kd_M h).2.2.2.2.2.2.2.2.2.2.2.2.2.2.2.2.2.2.2.2.2.2.2.2.2.2.2.2.2.2
theorem kl_F {c : Nat} (h : kdF c = .inr 5) : c < CM := (kd_F h).1
theorem rr_F_0 {c : Nat} (h : kdF c = .inr 5) : rfF c 0 = c + 0 + 1 := (kd_F h).2.1
theorem kk_F_0 {c : Nat} (h : kdF c = .inr 5) : kdF (c + 1) = .inl (0, 270) := (kd_F h).2.2.2.2.1
theorem kj_F_0 {c : Nat} (h : kdF c = .inr 5) : c + 1 < CM := (kd_F h).2.2.2.2.2.2.2.1
theorem rr_F_1 {c : Nat} (h : kdF c = .inr 5) : rfF c 1 = c + 1 + 1 := (kd_F h).2.2.1
theorem kk_F_1 {c : Nat} (h : kdF c = .inr 5) : kdF (c + 2) = .inl (0, 270) := (kd_F h).2.2.2.2.2.1
theorem kj_F_1 {c : Nat} (h : kdF c = .inr 5) : c + 2 < CM := (kd_F h).2.2.2.2.2.2.2.2.1
theorem rr_F_2 {c : Nat} (h : kdF c = .inr 5) : rfF c 2 = c + 2 + 1 := (kd_F h).2.2.2.1
theorem kk_F_2 {c : Nat} (h : kdF c = .inr 5) : kdF (c + 3) = .inl (0, 30) := (kd_F h).2.2.2.2.2.2.1
theorem kj_F_2 {c : Nat} (h : kdF c = .inr 5) : c + 3 < CM := (kd_F h).2.2.2.2.2.2.2.2.2
