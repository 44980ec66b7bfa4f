theorem good_in {ws : List Cond} (h : ∀ w ∈ ws, w ∈ lw_good) : GoodIn lw_good ws := fun w hw => ⟨h w hw, good_of_word (List.mem_filter.mp (h w hw)).2⟩
theorem good_ws {y : MI} (h : Cond.code y.1 y.2.1 y.2.2.1 y.2.2.2 ∈ lw_good) : ∀ w ∈ wsM y, w ∈ lw_good := fun w hw => by
  rcases List.mem_cons.mp hw with rfl | hw
  · exact h
  · exact hw
def am_Pc (G : AE) (h : AH) : State → Prop := fun U => Rep G h U.heap ∧ va_K (eD G) classes (atys G) U ∧ xw G U U.heap ∧ eB G ≤ U.heap.size
theorem pc_blind (G : AE) (vs : List Value) (h : AH) : FrameBlind (va_Pc (vs.map (cv G)) (am_Pc G h)) := fun a U g mk q => by
  obtain ⟨q0, q1, q2, q3, q4⟩ := q
  exact ⟨q0, q1, va_K.moved (u := U) (U := U.calling g mk a) (Vm.Alike.refl U.vm) q2, xw.go (s := U) (U := U.calling g mk a) q3 (State.WarmedH.refl U) q4 (fun _ _ => rfl), q4⟩
theorem pc_at {G : AE} {y : MI} {p : Program} {s : State} {m : MethodId} {args : Array Value} {meth : Method} {c : Code} {h : AH} {H : Heap} {locs : List Loc} (C : Cx G y p s m args meth c) (hR0 : Rep G h H) (hSv : va_S (fun q => eB G ≤ q) s.heap H locs) (vs : List Value) :
    ∀ U : State, U.heap = H → s.WarmedH U.vm → va_Pc (vs.map (cv G)) (am_Pc G h) (vs.map (cv G)).toArray U := fun U hU hW => by
  obtain ⟨hx, hb, hml, hrt, hown, hts, hlocks, hK0, hxw, hbs, hnm⟩ := id C
  refine ⟨rfl, by rw [hU]; exact hR0, hK0.moved hW.alike, ?_, by rw [hU]; exact Nat.le_trans hbs hSv.1⟩
  rw [hU]
  exact hxw.go hW hbs (fun q hq => hSv.2.1 q (Nat.lt_of_lt_of_le hq hbs) (Nat.not_le.mpr hq))
theorem w_call {G : AE} {S2 : AH → Prop} {p : Program} {l : Launch} {e : Env} {R : Room} {s : State} {m : MethodId} {args : Array Value} {below : List Frame} {meth : Method} {c : Code} {H : Heap} {locs : List Loc} {cells slots mc ms pc : Nat} {ls : Array Slot} {st0 rest : List Value} {r2 : Option Value} {h2 : AH} {a : Array Value} {Q : State → Prop}
    (hr : va_Run p l e R s m args below meth c H locs cells slots mc ms (F0 m pc ls st0) rest (AQ G S2 r2 h2 a) (fun q => eB G ≤ q)) (hSv : va_S (fun q => eB G ≤ q) s.heap H locs)
    (kk : ∀ (H1 : Heap) (locs1 : List Loc), S2 h2 → Rep G h2 H1 → va_S (fun q => eB G ≤ q) s.heap H1 locs1 → W p l e R s m args below meth c H1 locs1 (cells + mc) (slots + ms) Q (F0 m (pc + 3) ls ((r2.map (cv G)).toList ++ rest))) : W p l e R s m args below meth c H locs cells slots Q (F0 m pc ls st0) := by
  intro T hT X
  obtain ⟨v, st₀, t, T', L, h0, X', hL, e1, e2, ⟨hv, hS2, hrep, hz, hk⟩, st⟩ := hr T hT X
  cases hv
  rw [h0] at hz hk
  obtain ⟨t2, a1, b1⟩ := kk T'.heap (locs ++ L) hS2 (by rw [e1]; exact hrep)
    ⟨Nat.le_trans hSv.1 (by rw [e1]; exact hz), fun q h1 h2 => by rw [e1, hk q (Nat.lt_of_lt_of_le h1 hSv.1) h2]; exact hSv.2.1 q h1 h2, fun q hq => by
      rcases List.mem_append.mp hq with h | h
      · exact hSv.2.2 q h
      · exact hL q h⟩ T' rfl X'
  exact ⟨t2, st t2 a1, b1⟩
theorem lv_recv {G : AE} {h : AH} {H : Heap} {s : State} {c ci : Nat} {r : vw_C} (hK0 : va_K (eD G) classes (atys G) s) (hR0 : Rep G h H) (hk : c < hN h ∧ hK h c = .inr ci) (hr : classes[ci]? = some r) : ∃ cell : Cell, H[eB G + c]? = some cell ∧ cell.vm.isStatics = false ∧ s.vm.findClass r.1 = some cell.cls := by
  obtain ⟨cell, q1, q2, q3, q4⟩ := am_obj hR0 hk hr
  obtain ⟨hS', hfc, kC, hkC, hkind⟩ := hK0.1 ci _ hr
  exact ⟨cell, q1, by rw [q3]; rfl, by rw [q2]; exact hfc⟩
def gd {α : Type} (h : AH) (c k ci : Nat) (K : Nat → Option α) : Option α := match hR h c k with
  | some x => if kdF x = .inr ci then K x else none
  | none => none
def g1 {α : Type} (h : AH) (c k x : Nat) (K : Option α) : Option α := if hR h c k = some x then K else none
def gk {α : Type} (c t : Nat) (K : Nat → Option α) : Option α := match kdF c with
  | .inl q => if q.1 = t then K q.2 else none
  | .inr _ => none
def mx (x y : Int32) : Int32 := if x < y then y else x
def mn (x y : Int32) : Int32 := if y < x then y else x
def mab (x : Int32) : Int32 := if 0 ≤ x then x else 0 - x
section CA
variable {α β : Type} {G : AE} {S S2 : AH → Prop} {y y2 : MI} {R : Room} {Z : AZ} {φ : α → Option Value × AH} {φ2 : β → Option Value × AH} {kn : Nat × Nat} {pc d2 mc ms idx : Nat} {lv : List (Option Value)} {st st0 As : List Value} {h : AH} {X : Option α}
theorem r_gx {i : Int32} {n : Nat} (K : vp_in i n → AR G S y R Z φ kn pc lv st h X) : AR G S y R Z φ kn pc lv st h (gx i n X) := by
  intro a hX
  unfold gx at hX
  split at hX
  · rename_i hq
    exact K (gx_in hq) a hX
  · cases hX
theorem r_gz {v : Int32} (K : ¬ v = 0 → AR G S y R Z φ kn pc lv st h X) : AR G S y R Z φ kn pc lv st h (gz v X) := by
  intro a hX
  unfold gz at hX
  split at hX
  · cases hX
  · rename_i hq
    exact K hq a hX
theorem r_gb {v : Int32} (K : vp_nar .boolean v = v → AR G S y R Z φ kn pc lv st h X) : AR G S y R Z φ kn pc lv st h (gb v X) := by
  intro a hX
  unfold gb at hX
  split at hX
  · rename_i hq
    exact K hq a hX
  · cases hX
theorem r_gd {h0 : AH} {c k ci : Nat} {K0 : Nat → Option α} (K : ∀ x, hR h0 c k = some x → kdF x = .inr ci → AR G S y R Z φ kn pc lv st h (K0 x)) : AR G S y R Z φ kn pc lv st h (gd h0 c k ci K0) := by
  intro a hX
  unfold gd at hX
  split at hX
  · rename_i x hx
    split at hX
    · rename_i hq
      exact K x hx hq a hX
    · cases hX
  · cases hX
theorem r_g1 {h0 : AH} {c k x : Nat} (K : hR h0 c k = some x → AR G S y R Z φ kn pc lv st h X) : AR G S y R Z φ kn pc lv st h (g1 h0 c k x X) := by
  intro a hX
  unfold g1 at hX
  split at hX
  · rename_i hq
    exact K hq a hX
  · cases hX
theorem r_gk {c t : Nat} {K0 : Nat → Option α} (K : ∀ n, kdF c = .inl (t, n) → AR G S y R Z φ kn pc lv st h (K0 n)) : AR G S y R Z φ kn pc lv st h (gk c t K0) := by
  intro a hX
  unfold gk at hX
  split at hX
  · rename_i q hq
    split at hX
    · rename_i ht
      exact K q.2 (by rw [hq, ← ht]) a hX
    · cases hX
  · cases hX
theorem st_map (o : Option Value) : ((o.toList ++ st).map (cv G)) = (o.map (cv G)).toList ++ st.map (cv G) := by cases o <;> rfl
theorem st_cat (G : AE) (hc : (st.map fun v => v.category).sum ≤ 8) : 2 * 0 + ((st.map (cv G)).map fun v => v.category).sum ≤ 8 := by
  have e : ((st.map (cv G)).map fun v => v.category) = st.map fun v => v.category := by
    rw [List.map_map]
    apply List.map_congr_left
    intro v _
    exact cv_cat G v
  rw [e]
  omega

theorem r_callVi {b0 ci N : Nat} {T : u_T} {f : Option (Int32 × AH)} {K0 : Int32 → AH → Option α} (ok : Ok G S2 y2 d2 mc ms φI (.ref b0 :: As) h f) (hk : S h → b0 < hN h ∧ hK h b0 = .inr ci) (hr : classes[ci]? = some (y2.1.cls, T, N)) (wc : Cond.code y2.1 y2.2.1 y2.2.2.1 y2.2.2.2 ∈ lw_good) (wi : Cond.initialized y2.1.cls ∈ lw_good) (wl : Cond.methodLink y.1.cls idx y2.1 ∈ lw_good) (wn : Cond.instanceMethod y2.1 ∈ lw_good) (wz : Cond.selects y2.1.cls y2.1 y2.1 ∈ lw_good) (hy : y2.1.cls ≠ "java/lang/invoke/MethodHandle" ∧ y2.1.cls ≠ "java/lang/invoke/VarHandle" ∧ (parseMethodDescriptor y2.1.desc).map (fun d => d.parameters.length) = some As.length) (hf : d2 + 1 ≤ R.frames ∧ 8 + (y2.2.2.1 + 11) + 60 * d2 ≤ R.locals) (hcs : kn.1 + mc ≤ R.cells ∧ kn.2 + ms ≤ R.slots) (hst : st0 = As.reverse ++ .ref b0 :: st) (hcat : (st.map fun v => v.category).sum ≤ 8) (hd : decode y.2.1 pc = .ok (.invokevirtual idx, 3)) (h2 : S h → S2 h) (h3 : ∀ q, f = some q → S2 q.2 → S q.2)
    (kk : ∀ (r : Int32) (h1 : AH), f = some (r, h1) → AR G S y R Z φ (kn.1 + mc, kn.2 + ms) (pc + 3) lv (.int r :: st) h1 (K0 r h1)) : AR G S y R Z φ kn pc lv st0 h (bI f K0) := by
  intro a hX hS p e s m args below meth c H ls locs C hR0 hSv hl
  subst hst
  cases hq : f with
  | none => rw [hq] at hX; cases hX
  | some q =>
    rw [hq] at hX
    obtain ⟨hx, hb, hml, hrt, hown, hts, hlocks, hK0, hxw, hbs, hnm⟩ := id C
    have hM := ok q hq (h2 hS)
    have hpre := pc_at C hR0 hSv (.ref b0 :: As)
    obtain ⟨r, h1⟩ := q
    refine w_call (r2 := some (.int r)) (h2 := h1) (va_runV (As := As.map (cv G)) (rest := st.map (cv G)) (Ts := lw_good) (n := As.length) ⟨hx, hb, hml, hown, hts⟩ hM (cwV As.length hts (good_in (fun w hw => by
        rcases List.mem_append.mp hw with hw | hw
        · simp only [List.mem_cons, List.not_mem_nil, or_false] at hw
          rcases hw with rfl | rfl | rfl | rfl
          · exact wl
          · exact wn
          · exact wz
          · exact wi
        · exact good_ws wc w hw)) rfl rfl rfl ⟨rfl, hy⟩ hf) ⟨pc_blind G _ h, lv_recv hK0 hR0 (hk hS) hr, hpre⟩ rfl (by simp) hl.1 (by simp [cv]) (st_cat G hcat) hd hcs) hSv (fun H1 locs1 hS2 hrep hSv1 => ?_)
    exact kk r h1 hq a hX (h3 _ hq hS2) p e s m args below meth c H1 ls locs1 C hrep hSv1 hl
theorem r_callVv {b0 ci N : Nat} {T : u_T} {f : Option (AH)} {K0 : AH → Option α} (ok : Ok G S2 y2 d2 mc ms φV (.ref b0 :: As) h f) (hk : S h → b0 < hN h ∧ hK h b0 = .inr ci) (hr : classes[ci]? = some (y2.1.cls, T, N)) (wc : Cond.code y2.1 y2.2.1 y2.2.2.1 y2.2.2.2 ∈ lw_good) (wi : Cond.initialized y2.1.cls ∈ lw_good) (wl : Cond.methodLink y.1.cls idx y2.1 ∈ lw_good) (wn : Cond.instanceMethod y2.1 ∈ lw_good) (wz : Cond.selects y2.1.cls y2.1 y2.1 ∈ lw_good) (hy : y2.1.cls ≠ "java/lang/invoke/MethodHandle" ∧ y2.1.cls ≠ "java/lang/invoke/VarHandle" ∧ (parseMethodDescriptor y2.1.desc).map (fun d => d.parameters.length) = some As.length) (hf : d2 + 1 ≤ R.frames ∧ 8 + (y2.2.2.1 + 11) + 60 * d2 ≤ R.locals) (hcs : kn.1 + mc ≤ R.cells ∧ kn.2 + ms ≤ R.slots) (hst : st0 = As.reverse ++ .ref b0 :: st) (hcat : (st.map fun v => v.category).sum ≤ 8) (hd : decode y.2.1 pc = .ok (.invokevirtual idx, 3)) (h2 : S h → S2 h) (h3 : ∀ q, f = some q → S2 q → S q)
    (kk : ∀ (h1 : AH), f = some h1 → AR G S y R Z φ (kn.1 + mc, kn.2 + ms) (pc + 3) lv st h1 (K0 h1)) : AR G S y R Z φ kn pc lv st0 h (bV f K0) := by
  intro a hX hS p e s m args below meth c H ls locs C hR0 hSv hl
  subst hst
  cases hq : f with
  | none => rw [hq] at hX; cases hX
  | some q =>
    rw [hq] at hX
    obtain ⟨hx, hb, hml, hrt, hown, hts, hlocks, hK0, hxw, hbs, hnm⟩ := id C
    have hM := ok q hq (h2 hS)
    have hpre := pc_at C hR0 hSv (.ref b0 :: As)
    refine w_call (r2 := none) (h2 := q) (va_runV (As := As.map (cv G)) (rest := st.map (cv G)) (Ts := lw_good) (n := As.length) ⟨hx, hb, hml, hown, hts⟩ hM (cwV As.length hts (good_in (fun w hw => by
        rcases List.mem_append.mp hw with hw | hw
        · simp only [List.mem_cons, List.not_mem_nil, or_false] at hw
          rcases hw with rfl | rfl | rfl | rfl
          · exact wl
          · exact wn
          · exact wz
          · exact wi
        · exact good_ws wc w hw)) rfl rfl rfl ⟨rfl, hy⟩ hf) ⟨pc_blind G _ h, lv_recv hK0 hR0 (hk hS) hr, hpre⟩ rfl (by simp) hl.1 (by simp [cv]) (st_cat G hcat) hd hcs) hSv (fun H1 locs1 hS2 hrep hSv1 => ?_)
    exact kk q hq a hX (h3 _ hq hS2) p e s m args below meth c H1 ls locs1 C hrep hSv1 hl
theorem r_callVNi {b0 ci N : Nat} {T : u_T} {f : Option (Int32 × AH)} {K0 : Int32 → AH → Option α} (ok : Ok G S2 y2 d2 mc ms φI (.ref b0 :: As) h f) (hk : S h → b0 < hN h ∧ hK h b0 = .inr ci) (hr : classes[ci]? = some (y2.1.cls, T, N)) (wc : Cond.code y2.1 y2.2.1 y2.2.2.1 y2.2.2.2 ∈ lw_good) (wi : Cond.initialized y2.1.cls ∈ lw_good) {host : String} (wl : (y.1.cls, idx, y2.1, host) ∈ nestW) (wn : Cond.instanceMethod y2.1 ∈ lw_good) (wz : Cond.selects y2.1.cls y2.1 y2.1 ∈ lw_good) (hy : y2.1.cls ≠ "java/lang/invoke/MethodHandle" ∧ y2.1.cls ≠ "java/lang/invoke/VarHandle" ∧ (parseMethodDescriptor y2.1.desc).map (fun d => d.parameters.length) = some As.length) (hf : d2 + 1 ≤ R.frames ∧ 8 + (y2.2.2.1 + 11) + 60 * d2 ≤ R.locals) (hcs : kn.1 + mc ≤ R.cells ∧ kn.2 + ms ≤ R.slots) (hst : st0 = As.reverse ++ .ref b0 :: st) (hcat : (st.map fun v => v.category).sum ≤ 8) (hd : decode y.2.1 pc = .ok (.invokevirtual idx, 3)) (h2 : S h → S2 h) (h3 : ∀ q, f = some q → S2 q.2 → S q.2)
    (kk : ∀ (r : Int32) (h1 : AH), f = some (r, h1) → AR G S y R Z φ (kn.1 + mc, kn.2 + ms) (pc + 3) lv (.int r :: st) h1 (K0 r h1)) : AR G S y R Z φ kn pc lv st0 h (bI f K0) := by
  intro a hX hS p e s m args below meth c H ls locs C hR0 hSv hl
  subst hst
  cases hq : f with
  | none => rw [hq] at hX; cases hX
  | some q =>
    rw [hq] at hX
    obtain ⟨hx, hb, hml, hrt, hown, hts, hlocks, hK0, hxw, hbs, hnm⟩ := id C
    have hM := ok q hq (h2 hS)
    have hpre := pc_at C hR0 hSv (.ref b0 :: As)
    obtain ⟨r, h1⟩ := q
    refine w_call (r2 := some (.int r)) (h2 := h1) (va_runVN (As := As.map (cv G)) (rest := st.map (cv G)) (Ts := lw_good) (n := As.length) ⟨hx, hb, hml, hown, hts⟩ hM ⟨va_cnB As.length hts (good_in (good_ws wc)) rfl rfl rfl (hxw.2.1 _ wl) (hts _ wi) hy hf, hts _ wn, hts _ wz⟩ ⟨pc_blind G _ h, lv_recv hK0 hR0 (hk hS) hr, hpre⟩ rfl (by simp) hl.1 (by simp [cv]) (st_cat G hcat) hd hcs) hSv (fun H1 locs1 hS2 hrep hSv1 => ?_)
    exact kk r h1 hq a hX (h3 _ hq hS2) p e s m args below meth c H1 ls locs1 C hrep hSv1 hl
theorem r_callVNv {b0 ci N : Nat} {T : u_T} {f : Option (AH)} {K0 : AH → Option α} (ok : Ok G S2 y2 d2 mc ms φV (.ref b0 :: As) h f) (hk : S h → b0 < hN h ∧ hK h b0 = .inr ci) (hr : classes[ci]? = some (y2.1.cls, T, N)) (wc : Cond.code y2.1 y2.2.1 y2.2.2.1 y2.2.2.2 ∈ lw_good) (wi : Cond.initialized y2.1.cls ∈ lw_good) {host : String} (wl : (y.1.cls, idx, y2.1, host) ∈ nestW) (wn : Cond.instanceMethod y2.1 ∈ lw_good) (wz : Cond.selects y2.1.cls y2.1 y2.1 ∈ lw_good) (hy : y2.1.cls ≠ "java/lang/invoke/MethodHandle" ∧ y2.1.cls ≠ "java/lang/invoke/VarHandle" ∧ (parseMethodDescriptor y2.1.desc).map (fun d => d.parameters.length) = some As.length) (hf : d2 + 1 ≤ R.frames ∧ 8 + (y2.2.2.1 + 11) + 60 * d2 ≤ R.locals) (hcs : kn.1 + mc ≤ R.cells ∧ kn.2 + ms ≤ R.slots) (hst : st0 = As.reverse ++ .ref b0 :: st) (hcat : (st.map fun v => v.category).sum ≤ 8) (hd : decode y.2.1 pc = .ok (.invokevirtual idx, 3)) (h2 : S h → S2 h) (h3 : ∀ q, f = some q → S2 q → S q)
    (kk : ∀ (h1 : AH), f = some h1 → AR G S y R Z φ (kn.1 + mc, kn.2 + ms) (pc + 3) lv st h1 (K0 h1)) : AR G S y R Z φ kn pc lv st0 h (bV f K0) := by
  intro a hX hS p e s m args below meth c H ls locs C hR0 hSv hl
  subst hst
  cases hq : f with
  | none => rw [hq] at hX; cases hX
  | some q =>
    rw [hq] at hX
    obtain ⟨hx, hb, hml, hrt, hown, hts, hlocks, hK0, hxw, hbs, hnm⟩ := id C
    have hM := ok q hq (h2 hS)
    have hpre := pc_at C hR0 hSv (.ref b0 :: As)
    refine w_call (r2 := none) (h2 := q) (va_runVN (As := As.map (cv G)) (rest := st.map (cv G)) (Ts := lw_good) (n := As.length) ⟨hx, hb, hml, hown, hts⟩ hM ⟨va_cnB As.length hts (good_in (good_ws wc)) rfl rfl rfl (hxw.2.1 _ wl) (hts _ wi) hy hf, hts _ wn, hts _ wz⟩ ⟨pc_blind G _ h, lv_recv hK0 hR0 (hk hS) hr, hpre⟩ rfl (by simp) hl.1 (by simp [cv]) (st_cat G hcat) hd hcs) hSv (fun H1 locs1 hS2 hrep hSv1 => ?_)
    exact kk q hq a hX (h3 _ hq hS2) p e s m args below meth c H1 ls locs1 C hrep hSv1 hl
theorem r_callSi {f : Option (Int32 × AH)} {K0 : Int32 → AH → Option α} (ok : Ok G S2 y2 d2 mc ms φI (As) h f) (wc : Cond.code y2.1 y2.2.1 y2.2.2.1 y2.2.2.2 ∈ lw_good) (wi : Cond.initialized y2.1.cls ∈ lw_good) (wl : Cond.methodLink y.1.cls idx y2.1 ∈ lw_good) (wn : Cond.static y2.1 ∈ lw_good) (hy : y2.1.cls ≠ "java/lang/invoke/MethodHandle" ∧ y2.1.cls ≠ "java/lang/invoke/VarHandle" ∧ (parseMethodDescriptor y2.1.desc).map (fun d => d.parameters.length) = some As.length) (hf : d2 + 1 ≤ R.frames ∧ 8 + (y2.2.2.1 + 11) + 60 * d2 ≤ R.locals) (hcs : kn.1 + mc ≤ R.cells ∧ kn.2 + ms ≤ R.slots) (hst : st0 = As.reverse ++ st) (hcat : (st.map fun v => v.category).sum ≤ 8) (hd : decode y.2.1 pc = .ok (.invokestatic idx, 3)) (h2 : S h → S2 h) (h3 : ∀ q, f = some q → S2 q.2 → S q.2)
    (kk : ∀ (r : Int32) (h1 : AH), f = some (r, h1) → AR G S y R Z φ (kn.1 + mc, kn.2 + ms) (pc + 3) lv (.int r :: st) h1 (K0 r h1)) : AR G S y R Z φ kn pc lv st0 h (bI f K0) := by
  intro a hX hS p e s m args below meth c H ls locs C hR0 hSv hl
  subst hst
  cases hq : f with
  | none => rw [hq] at hX; cases hX
  | some q =>
    rw [hq] at hX
    obtain ⟨hx, hb, hml, hrt, hown, hts, hlocks, hK0, hxw, hbs, hnm⟩ := id C
    have hM := ok q hq (h2 hS)
    have hpre := pc_at C hR0 hSv (As)
    obtain ⟨r, h1⟩ := q
    refine w_call (r2 := some (.int r)) (h2 := h1) (va_runS (As := As.map (cv G)) (rest := st.map (cv G)) (Ts := lw_good) (n := As.length) ⟨hx, hb, hml, hown, hts⟩ hM (va_cwS As.length hts (good_in (fun w hw => by
        rcases List.mem_append.mp hw with hw | hw
        · simp only [List.mem_cons, List.not_mem_nil, or_false] at hw
          rcases hw with rfl | rfl | rfl
          · exact wl
          · exact wn
          · exact wi
        · exact good_ws wc w hw)) rfl rfl rfl hy hf) ⟨pc_blind G _ h, hpre⟩ rfl (by simp) hl.1 (by simp) (st_cat G hcat) hd hcs) hSv (fun H1 locs1 hS2 hrep hSv1 => ?_)
    exact kk r h1 hq a hX (h3 _ hq hS2) p e s m args below meth c H1 ls locs1 C hrep hSv1 hl
theorem r_callSv {f : Option (AH)} {K0 : AH → Option α} (ok : Ok G S2 y2 d2 mc ms φV (As) h f) (wc : Cond.code y2.1 y2.2.1 y2.2.2.1 y2.2.2.2 ∈ lw_good) (wi : Cond.initialized y2.1.cls ∈ lw_good) (wl : Cond.methodLink y.1.cls idx y2.1 ∈ lw_good) (wn : Cond.static y2.1 ∈ lw_good) (hy : y2.1.cls ≠ "java/lang/invoke/MethodHandle" ∧ y2.1.cls ≠ "java/lang/invoke/VarHandle" ∧ (parseMethodDescriptor y2.1.desc).map (fun d => d.parameters.length) = some As.length) (hf : d2 + 1 ≤ R.frames ∧ 8 + (y2.2.2.1 + 11) + 60 * d2 ≤ R.locals) (hcs : kn.1 + mc ≤ R.cells ∧ kn.2 + ms ≤ R.slots) (hst : st0 = As.reverse ++ st) (hcat : (st.map fun v => v.category).sum ≤ 8) (hd : decode y.2.1 pc = .ok (.invokestatic idx, 3)) (h2 : S h → S2 h) (h3 : ∀ q, f = some q → S2 q → S q)
    (kk : ∀ (h1 : AH), f = some h1 → AR G S y R Z φ (kn.1 + mc, kn.2 + ms) (pc + 3) lv st h1 (K0 h1)) : AR G S y R Z φ kn pc lv st0 h (bV f K0) := by
  intro a hX hS p e s m args below meth c H ls locs C hR0 hSv hl
  subst hst
  cases hq : f with
  | none => rw [hq] at hX; cases hX
  | some q =>
    rw [hq] at hX
    obtain ⟨hx, hb, hml, hrt, hown, hts, hlocks, hK0, hxw, hbs, hnm⟩ := id C
    have hM := ok q hq (h2 hS)
    have hpre := pc_at C hR0 hSv (As)
    refine w_call (r2 := none) (h2 := q) (va_runS (As := As.map (cv G)) (rest := st.map (cv G)) (Ts := lw_good) (n := As.length) ⟨hx, hb, hml, hown, hts⟩ hM (va_cwS As.length hts (good_in (fun w hw => by
        rcases List.mem_append.mp hw with hw | hw
        · simp only [List.mem_cons, List.not_mem_nil, or_false] at hw
          rcases hw with rfl | rfl | rfl
          · exact wl
          · exact wn
          · exact wi
        · exact good_ws wc w hw)) rfl rfl rfl hy hf) ⟨pc_blind G _ h, hpre⟩ rfl (by simp) hl.1 (by simp) (st_cat G hcat) hd hcs) hSv (fun H1 locs1 hS2 hrep hSv1 => ?_)
    exact kk q hq a hX (h3 _ hq hS2) p e s m args below meth c H1 ls locs1 C hrep hSv1 hl
theorem r_callIv {b0 : Nat} {f : Option (AH)} {K0 : AH → Option α} (ok : Ok G S2 y2 d2 mc ms φV (.ref b0 :: As) h f) (wc : Cond.code y2.1 y2.2.1 y2.2.2.1 y2.2.2.2 ∈ lw_good) (wi : Cond.initialized y2.1.cls ∈ lw_good) (wl : Cond.methodLink y.1.cls idx y2.1 ∈ lw_good) (wn : Cond.instanceMethod y2.1 ∈ lw_good) (hi : y2.1.name = "<init>") (hrn : y2.2.2.2 = none) (hy : y2.1.cls ≠ "java/lang/invoke/MethodHandle" ∧ y2.1.cls ≠ "java/lang/invoke/VarHandle" ∧ (parseMethodDescriptor y2.1.desc).map (fun d => d.parameters.length) = some As.length) (hf : d2 + 1 ≤ R.frames ∧ 8 + (y2.2.2.1 + 11) + 60 * d2 ≤ R.locals) (hcs : kn.1 + mc ≤ R.cells ∧ kn.2 + ms ≤ R.slots) (hst : st0 = As.reverse ++ .ref b0 :: st) (hcat : (st.map fun v => v.category).sum ≤ 8) (hd : decode y.2.1 pc = .ok (.invokespecial idx, 3)) (h2 : S h → S2 h) (h3 : ∀ q, f = some q → S2 q → S q)
    (kk : ∀ (h1 : AH), f = some h1 → AR G S y R Z φ (kn.1 + mc, kn.2 + ms) (pc + 3) lv st h1 (K0 h1)) : AR G S y R Z φ kn pc lv st0 h (bV f K0) := by
  intro a hX hS p e s m args below meth c H ls locs C hR0 hSv hl
  subst hst
  cases hq : f with
  | none => rw [hq] at hX; cases hX
  | some q =>
    rw [hq] at hX
    obtain ⟨hx, hb, hml, hrt, hown, hts, hlocks, hK0, hxw, hbs, hnm⟩ := id C
    have hM := ok q hq (h2 hS)
    have hpre := pc_at C hR0 hSv (.ref b0 :: As)
    refine w_call (r2 := none) (h2 := q) (va_runI (As := As.map (cv G)) (rest := st.map (cv G)) (Ts := lw_good) (n := As.length) ⟨hx, hb, hml, hown, hts⟩ hM (cwI (ws' := lw_good) As.length hts (good_in (good_ws wc)) (by rw [← hrn]; rfl) rfl rfl (hts _ wi) (hts _ wl) (hts _ wn) hi hy hf) ⟨pc_blind G _ h, hpre⟩ rfl (by simp) hl.1 (by simp [cv]) (st_cat G hcat) hd hcs) hSv (fun H1 locs1 hS2 hrep hSv1 => ?_)
    exact kk q hq a hX (h3 _ hq hS2) p e s m args below meth c H1 ls locs1 C hrep hSv1 hl
theorem r_callINv {b0 : Nat} {f : Option (AH)} {K0 : AH → Option α} (ok : Ok G S2 y2 d2 mc ms φV (.ref b0 :: As) h f) (wc : Cond.code y2.1 y2.2.1 y2.2.2.1 y2.2.2.2 ∈ lw_good) (wi : Cond.initialized y2.1.cls ∈ lw_good) {host : String} (wl : (y.1.cls, idx, y2.1, host) ∈ nestW) (wn : Cond.instanceMethod y2.1 ∈ lw_good) (hi : y2.1.name = "<init>") (hrn : y2.2.2.2 = none) (hy : y2.1.cls ≠ "java/lang/invoke/MethodHandle" ∧ y2.1.cls ≠ "java/lang/invoke/VarHandle" ∧ (parseMethodDescriptor y2.1.desc).map (fun d => d.parameters.length) = some As.length) (hf : d2 + 1 ≤ R.frames ∧ 8 + (y2.2.2.1 + 11) + 60 * d2 ≤ R.locals) (hcs : kn.1 + mc ≤ R.cells ∧ kn.2 + ms ≤ R.slots) (hst : st0 = As.reverse ++ .ref b0 :: st) (hcat : (st.map fun v => v.category).sum ≤ 8) (hd : decode y.2.1 pc = .ok (.invokespecial idx, 3)) (h2 : S h → S2 h) (h3 : ∀ q, f = some q → S2 q → S q)
    (kk : ∀ (h1 : AH), f = some h1 → AR G S y R Z φ (kn.1 + mc, kn.2 + ms) (pc + 3) lv st h1 (K0 h1)) : AR G S y R Z φ kn pc lv st0 h (bV f K0) := by
  intro a hX hS p e s m args below meth c H ls locs C hR0 hSv hl
  subst hst
  cases hq : f with
  | none => rw [hq] at hX; cases hX
  | some q =>
    rw [hq] at hX
    obtain ⟨hx, hb, hml, hrt, hown, hts, hlocks, hK0, hxw, hbs, hnm⟩ := id C
    have hM := ok q hq (h2 hS)
    have hpre := pc_at C hR0 hSv (.ref b0 :: As)
    refine w_call (r2 := none) (h2 := q) (va_runIN (As := As.map (cv G)) (rest := st.map (cv G)) (Ts := lw_good) (n := As.length) ⟨hx, hb, hml, hown, hts⟩ hM ⟨va_cnB (ws' := lw_good) As.length hts (good_in (good_ws wc)) (by rw [← hrn]; rfl) rfl rfl (hxw.2.1 _ wl) (hts _ wi) hy hf, hi, hts _ wn⟩ ⟨pc_blind G _ h, hpre⟩ rfl (by simp) hl.1 (by simp [cv]) (st_cat G hcat) hd hcs) hSv (fun H1 locs1 hS2 hrep hSv1 => ?_)
    exact kk q hq a hX (h3 _ hq hS2) p e s m args below meth c H1 ls locs1 C hrep hSv1 hl
theorem r_objInit {b0 : Nat} (wl : Cond.methodLink y.1.cls idx Lib.objectInit ∈ lw_good) (wn : Cond.instanceMethod Lib.objectInit ∈ lw_good) (wc : Cond.code Lib.objectInit ⟨#[0xb1]⟩ 1 none ∈ lw_good) (hf : 1 ≤ R.frames) (hlo : (st.map fun v => v.category).sum + 12 ≤ R.locals) (hd : decode y.2.1 pc = .ok (.invokespecial idx, 3)) (K : AR G S y R Z φ kn (pc + 3) lv st h X) : AR G S y R Z φ kn pc lv (.ref b0 :: st) h X := by
  intro a hX hS p e s m args below meth c H ls locs C hR0 hSv hl
  obtain ⟨hx, hb, hml, hrt, hown, hts, hlocks, hK0, hxw, hbs, hnm⟩ := id C
  refine W.objInit hx hb hown (hts _ wl) (hts _ wn) (hts _ wc) rfl (by rw [hml]; exact hl.1) rfl hd hf ?_ (W.eq (g2 := F0 m (pc + 3) ls (st.map (cv G))) rfl (K a hX hS p e s m args below meth c H ls locs C hR0 hSv hl))
  show 2 * 0 + ((st.map (cv G)).map fun v => v.category).sum + 12 ≤ _
  rw [List.map_map, show ((fun v => v.category) ∘ cv G) = (fun v : Value => v.category) from funext fun v => cv_cat G v]
  omega
theorem r_mmax {x y1 : Int32} (wl : Cond.methodLink y.1.cls idx Lib.Math.max.name ∈ lw_good) (wn : Cond.static Lib.Math.max.name ∈ lw_good) (wi : Cond.initialized "java/lang/Math" ∈ lw_good) (wc : Cond.code Lib.Math.max.name Lib.Math.max.code 2 (some .int) ∈ lw_good) (hf : 1 ≤ R.frames) (hlo : (st.map fun v => v.category).sum + 13 ≤ R.locals) (hcs : kn.1 ≤ R.cells ∧ kn.2 ≤ R.slots) (hd : decode y.2.1 pc = .ok (.invokestatic idx, 3)) (K : AR G S y R Z φ kn (pc + 3) lv (.int (mx x y1) :: st) h X) : AR G S y R Z φ kn pc lv (.int y1 :: .int x :: st) h X := by
  intro a hX hS p e s m args below meth c H ls locs C hR0 hSv hl
  obtain ⟨hx, hb, hml, hrt, hown, hts, hlocks, hK0, hxw, hbs, hnm⟩ := id C
  refine va_mmax hx hb (by rw [hml]; exact hl.1.symm) hown (hts _ wl) (hts _ wn) (hts _ wi) (hts _ wc) hf ?_ hcs.1 hcs.2 hd (K a hX hS p e s m args below meth c H ls locs C hR0 hSv hl)
  show ((st.map (cv G)).map fun v => v.category).sum + 13 ≤ _
  rw [List.map_map, show ((fun v => v.category) ∘ cv G) = (fun v : Value => v.category) from funext fun v => cv_cat G v]
  exact hlo
theorem r_mmin {x y1 : Int32} (wl : Cond.methodLink y.1.cls idx Lib.Math.min.name ∈ lw_good) (wn : Cond.static Lib.Math.min.name ∈ lw_good) (wi : Cond.initialized "java/lang/Math" ∈ lw_good) (wc : Cond.code Lib.Math.min.name Lib.Math.min.code 2 (some .int) ∈ lw_good) (hf : 1 ≤ R.frames) (hlo : (st.map fun v => v.category).sum + 13 ≤ R.locals) (hcs : kn.1 ≤ R.cells ∧ kn.2 ≤ R.slots) (hd : decode y.2.1 pc = .ok (.invokestatic idx, 3)) (K : AR G S y R Z φ kn (pc + 3) lv (.int (mn x y1) :: st) h X) : AR G S y R Z φ kn pc lv (.int y1 :: .int x :: st) h X := by
  intro a hX hS p e s m args below meth c H ls locs C hR0 hSv hl
  obtain ⟨hx, hb, hml, hrt, hown, hts, hlocks, hK0, hxw, hbs, hnm⟩ := id C
  refine va_mmin hx hb (by rw [hml]; exact hl.1.symm) hown (hts _ wl) (hts _ wn) (hts _ wi) (hts _ wc) hf ?_ hcs.1 hcs.2 hd (K a hX hS p e s m args below meth c H ls locs C hR0 hSv hl)
  show ((st.map (cv G)).map fun v => v.category).sum + 13 ≤ _
  rw [List.map_map, show ((fun v => v.category) ∘ cv G) = (fun v : Value => v.category) from funext fun v => cv_cat G v]
  exact hlo
theorem r_mabs {x : Int32} (wl : Cond.methodLink y.1.cls idx Lib.Math.abs.name ∈ lw_good) (wn : Cond.static Lib.Math.abs.name ∈ lw_good) (wi : Cond.initialized "java/lang/Math" ∈ lw_good) (wc : Cond.code Lib.Math.abs.name Lib.Math.abs.code 1 (some .int) ∈ lw_good) (hf : 1 ≤ R.frames) (hlo : (st.map fun v => v.category).sum + 13 ≤ R.locals) (hcs : kn.1 ≤ R.cells ∧ kn.2 ≤ R.slots) (hd : decode y.2.1 pc = .ok (.invokestatic idx, 3)) (K : AR G S y R Z φ kn (pc + 3) lv (.int (mab x) :: st) h X) : AR G S y R Z φ kn pc lv (.int x :: st) h X := by
  intro a hX hS p e s m args below meth c H ls locs C hR0 hSv hl
  obtain ⟨hx, hb, hml, hrt, hown, hts, hlocks, hK0, hxw, hbs, hnm⟩ := id C
  refine va_mabs hx hb (by rw [hml]; exact hl.1.symm) hown (hts _ wl) (hts _ wn) (hts _ wi) (hts _ wc) hf ?_ hcs.1 hcs.2 hd (K a hX hS p e s m args below meth c H ls locs C hR0 hSv hl)
  show ((st.map (cv G)).map fun v => v.category).sum + 13 ≤ _
  rw [List.map_map, show ((fun v => v.category) ∘ cv G) = (fun v : Value => v.category) from funext fun v => cv_cat G v]
  exact hlo
end CA
section EN
variable {G : AE} {S : AH → Prop} {y : MI} {R : Room} {mc ms pc : Nat} {lv : List (Option Value)} {h : AH}
theorem r_iret {v : Int32} (hr : y.2.2.2 = some .int) (hd : decode y.2.1 pc = .ok (.ireturn, 1)) : AR G S y R (qM G S mc ms) φI (mc, ms) pc lv [.int v] h (some (v, h)) := by
  intro a hX hS p e s m args below meth c H ls locs C hR0 hSv hl
  cases hX
  obtain ⟨hx, hb, hml, hrt, hown, hts, hlocks, hK0, hxw, hbs, hnm⟩ := id C
  exact W.iret (v := v) hx hb (by rw [hrt, hr]) (fun t ht hW => ⟨rfl, hS, by rw [ht]; exact hR0, hSv.F ht⟩) hSv.2.2 hd hlocks
theorem r_zret {v : Int32} (hr : y.2.2.2 = some .boolean) (hn : vp_nar .boolean v = v) (hd : decode y.2.1 pc = .ok (.ireturn, 1)) : AR G S y R (qM G S mc ms) φI (mc, ms) pc lv [.int v] h (some (v, h)) := by
  intro a hX hS p e s m args below meth c H ls locs C hR0 hSv hl
  cases hX
  obtain ⟨hx, hb, hml, hrt, hown, hts, hlocks, hK0, hxw, hbs, hnm⟩ := id C
  exact W.zret (v := v) hx hb (by rw [hrt, hr]) (by rw [show narrow .boolean (.int v) = .int (vp_nar .boolean v) from rfl, hn]) (fun t ht hW => ⟨rfl, hS, by rw [ht]; exact hR0, hSv.F ht⟩) hSv.2.2 hd hlocks
theorem r_vret (hr : y.2.2.2 = none) (hd : decode y.2.1 pc = .ok (.return_, 1)) : AR G S y R (qM G S mc ms) φV (mc, ms) pc lv [] h (some h) := by
  intro a hX hS p e s m args below meth c H ls locs C hR0 hSv hl
  cases hX
  obtain ⟨hx, hb, hml, hrt, hown, hts, hlocks, hK0, hxw, hbs, hnm⟩ := id C
  exact W.vret hx hb (by rw [hrt, hr]) (fun t ht hW => ⟨rfl, hS, by rw [ht]; exact hR0, hSv.F ht⟩) hSv.2.2 hd hlocks
def ent : List Value → List (Option Value)
  | [] => []
  | v :: t => if v.category = 2 then some v :: none :: ent t else some v :: ent t
theorem ent_args (G : AE) : ∀ (vs : List Value) (i : Nat), lvp (cv G) i (ent vs) = lv_args i (vs.map (cv G)) := by
  intro vs
  induction vs with
  | nil => intro i; rfl
  | cons v t ih =>
    intro i
    rw [List.map_cons, lv_args, cv_cat, ent]
    split
    · rw [lvp, lvp, ih]
    · rw [lvp, ih]
theorem lg_len (G : AE) : ∀ vs : List Value, (lg_sl (vs.map (cv G))).length = (lg_sl vs).length := by
  intro vs
  induction vs with
  | nil => rfl
  | cons v t ih =>
    unfold lg_sl at ih ⊢
    rw [List.map_cons, List.flatMap_cons, List.flatMap_cons, List.length_append, List.length_append, ih, cv_cat]
    split <;> rfl
theorem ok_of {α : Type} {φ : α → Option Value × AH} {d : Nat} {vs : List Value} {X : Option α} {lv0 : List (Option Value)} (hp : plainName y.1.cls = true) (hl : (lg_sl vs).length ≤ y.2.2.1) (hw : wk lv0 (ent vs)) (K : AR G S y (rmM d mc ms) (qM G S mc ms) φ (0, 0) 0 lv0 [] h X) : Ok G S y d mc ms φ vs h X := by
  intro a hX hS
  refine Met.ofW (cc := y.2.1) (maxL := y.2.2.1) (ret := y.2.2.2) hp rfl ?_
  intro p e s m args below meth c s₁ B hml hv
  obtain ⟨rfl, hrep, hK0, hxw, hbs⟩ := hv
  have hts := atoms_spec (ws := wsM y) B.pre
  have C : Cx G y p s m (vs.map (cv G)).toArray meth c := ⟨B.exec, B.bytes, hml, B.returns, findClass_of_methodNamed B.named, fun w hw => hts w (List.mem_cons_of_mem _ hw), B.notSynchronized, hK0, hxw, hbs, (name_of_methodNamed B.named B.method).1⟩
  rw [lg_entry_eq]
  have h1 := lv_entry (vs.map (cv G)) (n := y.2.2.1) (by rw [lg_len]; exact hl)
  rw [← ent_args G vs 0] at h1
  exact K a hX hS p e s m _ below meth c s.heap _ [] C hrep va_S.rf (al_wk hw h1)
end EN
section CP
variable {α : Type} {G : AE} {S : AH → Prop} {y : MI} {R : Room} {Z : AZ} {φ : α → Option Value × AH} {kn : Nat × Nat} {pc idx : Nat} {lv : List (Option Value)} {st : List Value} {h : AH} {X : Option α}
set_option maxHeartbeats 1000000 in
theorem r_acopy {c0 c1 n0 n1 : Nat} {n : Int32} {k : Nat} (hk0 : S h → c0 < hN h ∧ hK h c0 = .inl (0, n0)) (hk1 : S h → c1 < hN h ∧ hK h c1 = .inl (0, n1)) (hn : n.toInt = (k : Int)) (h4 : k ≤ n0) (h5 : k ≤ n1) (wl : Cond.methodLink y.1.cls idx arraycopyName ∈ lw_good) (wt : Cond.native arraycopyName ∈ lw_good) (wn : Cond.static arraycopyName ∈ lw_good) (wi : Cond.initialized "java/lang/System" ∈ lw_good)
    (hf : 1 ≤ R.frames) (hlo : (st.map fun v => v.category).sum + (nativeFrameWords "java/lang/System" "arraycopy" 5 + 11) ≤ R.locals) (hS1 : S h → S (sF h c1 (va_cpy (hI h c0) (hI h c1) 0 0 k))) (hd : decode y.2.1 pc = .ok (.invokestatic idx, 3)) (K : AR G S y R Z φ kn (pc + 3) lv st (sF h c1 (va_cpy (hI h c0) (hI h c1) 0 0 k)) X) : AR G S y R Z φ kn pc lv (.int n :: .int 0 :: .ref c1 :: .int 0 :: .ref c0 :: st) h X := by
  intro a hX hS p e s m args below meth c H ls locs C hR0 hSv hl
  obtain ⟨hx, hb, hml, hrt, hown, hts, hlocks, hK0, hxw, hbs, hnm⟩ := id C
  have hkn : n.toNatClampNeg = k := by
    show n.toInt.toNat = k
    rw [hn]; rfl
  have hz : ((0 : Int32)).toNatClampNeg = 0 := rfl
  have a0 := (am_ar hR0 (hk0 hS)).2
  have a1 := (am_ar hR0 (hk1 hS)).2
  have hc0 : H[eB G + c0]? = some (vp_cell (eA G 0) (n0, .inl (hI h c0))) := a0
  have hc1 : H[eB G + c1]? = some (vp_cell (eA G 0) (n1, .inl (hI h c1))) := a1
  intro T hT X0
  obtain ⟨-, q0, hq0, cm0, hqq0⟩ := (hK0.2 0 _ (at_tys G 0 (by decide))).1 n0 (fun j => .int (hI h c0 j))
  obtain ⟨-, q1, hq1, cm1, hqq1⟩ := (hK0.2 0 _ (at_tys G 0 (by decide))).1 n1 (fun j => .int (hI h c1 j))
  obtain ⟨vm', X', step⟩ := X0.arraycopy hx hown (hts _ wl) (hts _ wt) (hts _ wn) (hts _ wi) (src := eB G + c0) (dst := eB G + c1) (cs := vp_cell (eA G 0) (n0, .inl (hI h c0))) (cd := vp_cell (eA G 0) (n1, .inl (hI h c1))) (srcPos := 0) (destPos := 0) (n := n) (by rw [hT]; exact hc0) (by rw [hT]; exact hc1)
    (fun _ h => by cases h) (fun _ h => by cases h) (fun h => by cases h) (fun h => by cases h) hq0 hq1 hqq0 hqq1 (by simp [aty, refKind]) (by decide) (by decide) (by rw [Int32.lt_iff_toInt_lt, hn]; show ¬ (k : Int) < 0; omega)
    (by rw [hn]; show ¬ (0 : Int) + k > ((arrV (eA G 0) n0 (fun j => .int (hI h c0 j))).slots.size : Int); rw [arrV_size]; omega)
    (by rw [hn]; show ¬ (0 : Int) + k > ((arrV (eA G 0) n1 (fun j => .int (hI h c1 j))).slots.size : Int); rw [arrV_size]; omega)
    (fun vm₁ _ i hi => by
      rw [hkn] at hi
      have e : (vp_cell (eA G 0) (n0, .inl (hI h c0))).slots.getD ((0 : Int32).toNatClampNeg + i) .null = .int (hI h c0 i) := by
        show (arrV (eA G 0) n0 (fun j => .int (hI h c0 j))).slots.getD _ _ = _
        rw [hz, Nat.zero_add, Array.getD_eq_getD_getElem?, arrV_read _ _ (by omega)]
        rfl
      refine ⟨?_, ?_⟩
      · rw [e]
        rfl
      · rw [e]
        exact trivial)
    (g := F0 m pc ls (.int n :: .int 0 :: .ref (eB G + c1) :: .int 0 :: .ref (eB G + c0) :: st.map (cv G))) rfl (by rw [hml]; exact hl.1) (rest := st.map (cv G)) rfl (by rw [hb]; exact hd) hf (by
      show 2 * 0 + ((st.map (cv G)).map fun v => v.category).sum + _ ≤ _
      rw [List.map_map, show ((fun v => v.category) ∘ cv G) = (fun v : Value => v.category) from funext fun v => cv_cat G v]
      omega)
  have e1 : copied (vp_cell (eA G 0) (n0, .inl (hI h c0))) (vp_cell (eA G 0) (n1, .inl (hI h c1))) 0 0 n = vp_cell (eA G 0) (n1, .inl (va_cpy (hI h c0) (hI h c1) (0 : Int32).toNatClampNeg (0 : Int32).toNatClampNeg n.toNatClampNeg)) := va_copied (fun z => .int z) (eA G 0) (eA G 0) (hI h c0) (hI h c1) (by rw [hkn, hz, Nat.zero_add]; exact h4)
  rw [hkn, hz] at e1
  rw [e1] at X' step
  have hlt : eB G + c1 < H.size := (Array.getElem?_eq_some_iff.mp hc1).1
  have hheap : ((T.setVm vm').setCell (eB G + c1) (vp_cell (eA G 0) (n1, .inl (va_cpy (hI h c0) (hI h c1) 0 0 k)))).heap = H.setIfInBounds (eB G + c1) (vp_cell (eA G 0) (n1, .inl (va_cpy (hI h c0) (hI h c1) 0 0 k))) := by rw [← hT]; rfl
  have oq : ∀ q : Nat, q ≠ eB G + c1 → (H.setIfInBounds (eB G + c1) (vp_cell (eA G 0) (n1, .inl (va_cpy (hI h c0) (hI h c1) 0 0 k))))[q]? = H[q]? := fun q hq => by simp [Array.getElem?_setIfInBounds, Ne.symm hq]
  have z : (H.setIfInBounds (eB G + c1) (vp_cell (eA G 0) (n1, .inl (va_cpy (hI h c0) (hI h c1) 0 0 k)))).size = H.size := by simp
  have hF : hI (sF h c1 (va_cpy (hI h c0) (hI h c1) 0 0 k)) c1 = va_cpy (hI h c0) (hI h c1) 0 0 k := by funext j; simp [hI, sF]
  have hcc : am_at G (sF h c1 (va_cpy (hI h c0) (hI h c1) 0 0 k)) c1 (H.setIfInBounds (eB G + c1) (vp_cell (eA G 0) (n1, .inl (va_cpy (hI h c0) (hI h c1) 0 0 k)))) := by
    unfold am_at
    rw [show hK (sF h c1 (va_cpy (hI h c0) (hI h c1) 0 0 k)) c1 = .inl (0, n1) from (hk1 hS).2]
    refine ⟨Nat.le_of_ble_eq_true rfl, ?_⟩
    show _ = some (vp_cell _ (n1, .inl _))
    rw [hF]
    simp [Array.getElem?_setIfInBounds, hlt]
  have hRep : Rep G (sF h c1 (va_cpy (hI h c0) (hI h c1) 0 0 k)) (H.setIfInBounds (eB G + c1) (vp_cell (eA G 0) (n1, .inl (va_cpy (hI h c0) (hI h c1) 0 0 k)))) := rep_set hR0 rfl (fun _ => rfl) (fun q hq k' => by simp [hI, sF, hq]) (fun q hq k' => by simp [hL, sF]) (fun q hq k' => by simp [hR, sF]) z oq hcc
  obtain ⟨t, a2, b2⟩ := K a hX (hS1 hS) p e s m args below meth c _ ls _ C hRep ⟨by rw [z]; exact hSv.1, fun q g1 g2 => by
      rw [oq q (fun e => g2 (by rw [e]; exact Nat.le_add_right _ _))]
      exact hSv.2.1 q g1 g2, fun q hq => by
      rcases List.mem_append.mp hq with h | h
      · exact hSv.2.2 q h
      · obtain ⟨z9, -, hz9⟩ := List.mem_map.mp h
        rw [← hz9]
        exact Nat.le_add_right _ _⟩ hl _ hheap X'
  exact ⟨t, step t a2, b2⟩
end CP
