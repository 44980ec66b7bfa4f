def i2c (x : Int32) : Int32 := (x.toUInt32 % 65536).toInt32
def wch (k : Nat) : Int32 := i2c (byW.getD k 0 &&& 255)
def gn {α : Type} (ty : FieldType) (v : Int32) (K : Option α) : Option α := if narrow ty (.int v) = .int v then K else none
section SX
variable {α : Type} {G : AE} {S : AH → Prop} {y y2 : MI} {R : Room} {Z : AZ} {φ : α → Option Value × AH} {kn : Nat × Nat} {pc d2 idx : Nat} {lv : List (Option Value)} {st st0 As : List Value} {h : AH} {X : Option α}
theorem cv_0 (G : AE) : cv G (.float 0) = .ref (eS G) := rfl
theorem cv_1 (G : AE) : cv G (.float 1) = .ref (eX G).1 := rfl
theorem cv_2 (G : AE) : cv G (.float 2) = .ref (eV G) := rfl
theorem cv_3 (G : AE) : cv G (.float 3) = va_rf (eF G) := rfl
theorem r_gn {ty : FieldType} {v : Int32} (K : narrow ty (.int v) = .int v → AR G S y R Z φ kn pc lv st h X) : AR G S y R Z φ kn pc lv st h (gn ty v X) := by
  intro a hX
  unfold gn at hX
  split at hX
  · rename_i hq
    exact K hq a hX
  · cases hX
theorem r_i2c {x : Int32} (hd : decode y.2.1 pc = .ok (.i2c, 1)) (K : AR G S y R Z φ kn (pc + 1) lv (.int (i2c x) :: st) h X) : AR G S y R Z φ kn pc lv (.int x :: st) h X := by
  intro a hX hS p e s m args below meth c H ls locs C hR hSv hl
  exact lv_i2c C.1 C.2.1 hd rfl (K a hX hS p e s m args below meth c H ls locs C hR hSv hl)
theorem r_ldcS (hc : y.1.cls = "CricketHay$Reader") (hd : decode y.2.1 pc = .ok (.ldc 79, 2)) (K : AR G S y R Z φ kn (pc + 2) lv (.float 0 :: st) h X) : AR G S y R Z φ kn pc lv st h X := by
  intro a hX hS p e s m args below meth c H ls locs C hR hSv hl
  obtain ⟨hx, hb, hml, hrt, hown, hts, hlocks, hK0, hxw, hbs, hnm⟩ := id C
  rw [hc] at hown
  exact va_ldcS hx hb hown hxw.2.2.2.1 hd (K a hX hS p e s m args below meth c H ls locs C hR hSv hl)
theorem r_aloadF_n {k : Fin 4} {i : Nat} {w : UInt32} {x : Nat} (hw : cv G (.float w) = .ref x) (hd : decode y.2.1 pc = .ok (.aload_n k, 1)) (hi : (k : Nat) = i) (hx : lv[i]? = some (some (.float w))) (K : AR G S y R Z φ kn (pc + 1) lv (.float w :: st) h X) : AR G S y R Z φ kn pc lv st h X := by
  intro a hX hS p e s m args below meth c H ls locs C hR hSv hl
  have h1 := al_get hl hx
  have h2 := K a hX hS p e s m args below meth c H ls locs C hR hSv hl
  rw [List.map_cons, hw] at h2
  rw [hw] at h1
  exact lv_aload_n C.1 C.2.1 hd hi h1 h2
theorem r_aloadN_n {k : Fin 4} {i : Nat} (hd : decode y.2.1 pc = .ok (.aload_n k, 1)) (hi : (k : Nat) = i) (hx : lv[i]? = some (some (.float 3))) (K : AR G S y R Z φ kn (pc + 1) lv (.float 3 :: st) h X) : AR G S y R Z φ kn pc lv st h X := by
  intro a hX hS p e s m args below meth c H ls locs C hR hSv hl
  have h1 := al_get hl hx
  have h2 := K a hX hS p e s m args below meth c H ls locs C hR hSv hl
  rw [List.map_cons, cv_3] at h2
  rw [cv_3] at h1
  cases hF : eF G with
  | none => rw [hF] at h1 h2; exact lv_aload_nN C.1 C.2.1 hd hi h1 h2
  | some q => rw [hF] at h1 h2; exact lv_aload_n C.1 C.2.1 hd hi h1 h2
theorem r_getsC {own : String} (ho : y.1.cls = own) (wl : Cond.fieldLink own idx "java/lang/String" "COMPACT_STRINGS" "Z" ∈ lw_good) (hd : decode y.2.1 pc = .ok (.getstatic idx, 3)) (K : AR G S y R Z φ kn (pc + 3) lv (.int 1 :: st) h X) : AR G S y R Z φ kn pc lv st h X := by
  intro a hX hS p e s m args below meth c H ls locs C hR hSv hl
  obtain ⟨hx, hb, hml, hrt, hown, hts, hlocks, hK0, hxw, hbs, hnm⟩ := id C
  rw [ho] at hown
  exact va_gets hx hb hxw.2.2.2.2.2.1 hSv hown (hts _ wl) (fun _ h => h) hd (K a hX hS p e s m args below meth c H ls locs C hR hSv hl)
theorem r_getsF {own : String} (ho : y.1.cls = own) (wl : Cond.fieldLink own idx "jdk/internal/util/Preconditions" "SIOOBE_FORMATTER" "Ljava/util/function/BiFunction;" ∈ lw_good) (hd : decode y.2.1 pc = .ok (.getstatic idx, 3)) (K : AR G S y R Z φ kn (pc + 3) lv (.float 3 :: st) h X) : AR G S y R Z φ kn pc lv st h X := by
  intro a hX hS p e s m args below meth c H ls locs C hR hSv hl
  obtain ⟨hx, hb, hml, hrt, hown, hts, hlocks, hK0, hxw, hbs, hnm⟩ := id C
  rw [ho] at hown
  exact va_gets hx hb hxw.2.2.2.2.2.2 hSv hown (hts _ wl) (fun _ h => h) hd (K a hX hS p e s m args below meth c H ls locs C hR hSv hl)
theorem r_strV {own : String} (ho : y.1.cls = own) (wl : Cond.fieldLink own idx "java/lang/String" "value" "[B" ∈ lw_good) (hd : decode y.2.1 pc = .ok (.getfield idx, 3)) (K : AR G S y R Z φ kn (pc + 3) lv (.float 2 :: st) h X) : AR G S y R Z φ kn pc lv (.float 0 :: st) h X := by
  intro a hX hS p e s m args below meth c H ls locs C hR hSv hl
  obtain ⟨hx, hb, hml, hrt, hown, hts, hlocks, hK0, hxw, hbs, hnm⟩ := id C
  rw [ho] at hown
  exact vk_getf hx hb (hxw.2.2.1.1 0 (by decide)).2.2.1 hSv hown (hts _ wl) (fun _ h => h) hd (K a hX hS p e s m args below meth c H ls locs C hR hSv hl)
theorem r_strC {own : String} (ho : y.1.cls = own) (wl : Cond.fieldLink own idx "java/lang/String" "coder" "B" ∈ lw_good) (hd : decode y.2.1 pc = .ok (.getfield idx, 3)) (K : AR G S y R Z φ kn (pc + 3) lv (.int 0 :: st) h X) : AR G S y R Z φ kn pc lv (.float 0 :: st) h X := by
  intro a hX hS p e s m args below meth c H ls locs C hR hSv hl
  obtain ⟨hx, hb, hml, hrt, hown, hts, hlocks, hK0, hxw, hbs, hnm⟩ := id C
  rw [ho] at hown
  exact vk_getf hx hb (hxw.2.2.1.1 0 (by decide)).2.1 hSv hown (hts _ wl) (fun _ h => h) hd (K a hX hS p e s m args below meth c H ls locs C hR hSv hl)
theorem r_blen (hd : decode y.2.1 pc = .ok (.arraylength, 1)) (K : AR G S y R Z φ kn (pc + 1) lv (.int (nI 152) :: st) h X) : AR G S y R Z φ kn pc lv (.float 2 :: st) h X := by
  intro a hX hS p e s m args below meth c H ls locs C hR hSv hl
  exact va_tlen C.1 C.2.1 (C.2.2.2.2.2.2.2.2.1.2.2.1.1 0 (by decide)).2.2.2 hSv rfl hd (K a hX hS p e s m args below meth c H ls locs C hR hSv hl)
theorem r_blda {i : Int32} (hin : vp_in i 152) (hd : decode y.2.1 pc = .ok (.baload, 1)) (K : AR G S y R Z φ kn (pc + 1) lv (.int (byW.getD (ix i) 0) :: st) h X) : AR G S y R Z φ kn pc lv (.int i :: .float 2 :: st) h X := by
  intro a hX hS p e s m args below meth c H ls locs C hR hSv hl
  exact va_tb C.1 C.2.1 (C.2.2.2.2.2.2.2.2.1.2.2.1.1 0 (by decide)).2.2.2 hSv hin rfl hd (K a hX hS p e s m args below meth c H ls locs C hR hSv hl)
theorem r_cXi {f : Option (Int32 × AH)} {K0 : Int32 → AH → Option α} (ok : Ok G S y2 d2 0 0 φI (.float 0 :: As) h f) (hcl : y2.1.cls = "java/lang/String") (wc : Cond.code y2.1 y2.2.1 y2.2.2.1 y2.2.2.2 ∈ lw_good) (wi : Cond.initialized y2.1.cls ∈ lw_good) (wl : Cond.methodLink y.1.cls idx y2.1 ∈ lw_good) (wn : Cond.instanceMethod y2.1 ∈ lw_good) (wz : Cond.selects y2.1.cls y2.1 y2.1 ∈ lw_good) (hy : y2.1.cls ≠ "java/lang/invoke/MethodHandle" ∧ y2.1.cls ≠ "java/lang/invoke/VarHandle" ∧ (parseMethodDescriptor y2.1.desc).map (fun d => d.parameters.length) = some As.length) (hf : d2 + 1 ≤ R.frames ∧ 8 + (y2.2.2.1 + 11) + 60 * d2 ≤ R.locals) (hcs : kn.1 ≤ R.cells ∧ kn.2 ≤ R.slots) (hst : st0 = As.reverse ++ .float 0 :: st) (hcat : (st.map fun v => v.category).sum ≤ 8) (hd : decode y.2.1 pc = .ok (.invokevirtual idx, 3))
    (kk : ∀ (r : Int32) (h1 : AH), AR G S y R Z φ kn (pc + 3) lv (.int r :: st) h1 (K0 r h1)) : AR G S y R Z φ kn pc lv st0 h (bI f K0) := by
  intro a hX hS p e s m args below meth c H ls locs C hR0 hSv hl
  subst hst
  cases hq : f with
  | none => rw [hq] at hX; cases hX
  | some q =>
    rw [hq] at hX
    obtain ⟨hx, hb, hml, hrt, hown, hts, hlocks, hK0, hxw, hbs, hnm⟩ := id C
    have hM := ok q hq hS
    have hpre := pc_at C hR0 hSv (.float 0 :: As)
    obtain ⟨r, h1⟩ := q
    refine w_call (r2 := some (.int r)) (h2 := h1) (va_runV (As := As.map (cv G)) (rest := st.map (cv G)) (Ts := lw_good) (n := As.length) ⟨hx, hb, hml, hown, hts⟩ hM (cwV As.length hts (good_in (fun w hw => by
        rcases List.mem_append.mp hw with hw | hw
        · simp only [List.mem_cons, List.not_mem_nil, or_false] at hw
          rcases hw with rfl | rfl | rfl | rfl
          · exact wl
          · exact wn
          · exact wz
          · exact wi
        · exact good_ws wc w hw)) rfl rfl rfl ⟨rfl, hy⟩ hf) ⟨pc_blind G _ h, (by rw [hcl]; exact vk_recv (i := 0) hxw.2.2.1 (by decide) hSv), hpre⟩ rfl (by simp) hl.1 (by simp [cv]) (st_cat G hcat) hd hcs) hSv (fun H1 locs1 hS2 hrep hSv1 => ?_)
    exact kk r h1 a hX hS2 p e s m args below meth c H1 ls locs1 C hrep hSv1 hl
end SX
theorem r_tret {G : AE} {S : AH → Prop} {y : MI} {R : Room} {mc ms pc : Nat} {lv : List (Option Value)} {h : AH} {v : Int32} {ty : FieldType} (hr : y.2.2.2 = some ty) (hn : narrow ty (.int v) = .int v) (hd : decode y.2.1 pc = .ok (.ireturn, 1)) : AR G S y R (qM G S mc ms) φI (mc, ms) pc lv [.int v] h (some (v, h)) := by
  intro a hX hS p e s m args below meth c H ls locs C hR0 hSv hl
  cases hX
  obtain ⟨hx, hb, hml, hrt, hown, hts, hlocks, hK0, hxw, hbs, hnm⟩ := id C
  exact W.zret (v := v) hx hb (by rw [hrt, hr]) hn (fun t ht hW => ⟨rfl, hS, by rw [ht]; exact hR0, hSv.F ht⟩) hSv.2.2 hd hlocks

theorem w_14 : Cond.initialized "java/lang/String" ∈ lw_good := q_t 14 (by decide +kernel) rfl
theorem w_15 : Cond.initialized "java/lang/StringLatin1" ∈ lw_good := q_t 15 (by decide +kernel) rfl
theorem w_16 : Cond.initialized "jdk/internal/util/Preconditions" ∈ lw_good := q_t 16 (by decide +kernel) rfl
theorem w_506 : Cond.methodLink "java/lang/String" 335 ⟨"java/lang/String", "coder", "()B"⟩ ∈ lw_good := q_t 506 (by decide +kernel) rfl
theorem w_507 : Cond.instanceMethod ⟨"java/lang/String", "coder", "()B"⟩ ∈ lw_good := q_t 507 (by decide +kernel) rfl
theorem w_508 : Cond.selects "java/lang/String" ⟨"java/lang/String", "coder", "()B"⟩ ⟨"java/lang/String", "coder", "()B"⟩ ∈ lw_good := q_t 508 (by decide +kernel) rfl
theorem w_509 : Cond.code ⟨"java/lang/String", "coder", "()B"⟩ prog_17_method_152_code 1 (some .byte) ∈ lw_good := q_t 509 (by decide +kernel) rfl
theorem w_510 : Cond.fieldLink "java/lang/String" 38 "java/lang/String" "COMPACT_STRINGS" "Z" ∈ lw_good := q_t 510 (by decide +kernel) rfl
theorem w_516 : Cond.methodLink "java/lang/String" 492 ⟨"java/lang/String", "isLatin1", "()Z"⟩ ∈ lw_good := q_t 516 (by decide +kernel) rfl
theorem w_517 : Cond.instanceMethod ⟨"java/lang/String", "isLatin1", "()Z"⟩ ∈ lw_good := q_t 517 (by decide +kernel) rfl
theorem w_518 : Cond.selects "java/lang/String" ⟨"java/lang/String", "isLatin1", "()Z"⟩ ⟨"java/lang/String", "isLatin1", "()Z"⟩ ∈ lw_good := q_t 518 (by decide +kernel) rfl
theorem w_519 : Cond.code ⟨"java/lang/String", "isLatin1", "()Z"⟩ prog_17_method_154_code 1 (some .boolean) ∈ lw_good := q_t 519 (by decide +kernel) rfl
theorem w_520 : Cond.methodLink "java/lang/String" 495 ⟨"java/lang/StringLatin1", "charAt", "([BI)C"⟩ ∈ lw_good := q_t 520 (by decide +kernel) rfl
theorem w_521 : Cond.static ⟨"java/lang/StringLatin1", "charAt", "([BI)C"⟩ ∈ lw_good := q_t 521 (by decide +kernel) rfl
theorem w_522 : Cond.code ⟨"java/lang/StringLatin1", "charAt", "([BI)C"⟩ prog_18_method_2_code 2 (some .char) ∈ lw_good := q_t 522 (by decide +kernel) rfl
theorem w_523 : Cond.methodLink "java/lang/StringLatin1" 9 ⟨"java/lang/String", "checkIndex", "(II)V"⟩ ∈ lw_good := q_t 523 (by decide +kernel) rfl
theorem w_524 : Cond.static ⟨"java/lang/String", "checkIndex", "(II)V"⟩ ∈ lw_good := q_t 524 (by decide +kernel) rfl
theorem w_525 : Cond.code ⟨"java/lang/String", "checkIndex", "(II)V"⟩ prog_17_method_155_code 2 none ∈ lw_good := q_t 525 (by decide +kernel) rfl
theorem w_526 : Cond.fieldLink "java/lang/String" 1053 "jdk/internal/util/Preconditions" "SIOOBE_FORMATTER" "Ljava/util/function/BiFunction;" ∈ lw_good := q_t 526 (by decide +kernel) rfl
theorem w_528 : Cond.methodLink "java/lang/String" 1059 ⟨"jdk/internal/util/Preconditions", "checkIndex", "(IILjava/util/function/BiFunction;)I"⟩ ∈ lw_good := q_t 528 (by decide +kernel) rfl
theorem w_529 : Cond.static ⟨"jdk/internal/util/Preconditions", "checkIndex", "(IILjava/util/function/BiFunction;)I"⟩ ∈ lw_good := q_t 529 (by decide +kernel) rfl
theorem w_530 : Cond.code ⟨"jdk/internal/util/Preconditions", "checkIndex", "(IILjava/util/function/BiFunction;)I"⟩ prog_22_method_11_code 3 (some .int) ∈ lw_good := q_t 530 (by decide +kernel) rfl
theorem w_1787 : Cond.fieldLink "java/lang/String" 9 "java/lang/String" "value" "[B" ∈ lw_good := q_t 1787 (by decide +kernel) rfl
theorem w_1788 : Cond.fieldLink "java/lang/String" 15 "java/lang/String" "coder" "B" ∈ lw_good := q_t 1788 (by decide +kernel) rfl

abbrev y_JString_coder : MI := (⟨"java/lang/String", "coder", "()B"⟩, prog_17_method_152_code, 1, (some .byte))
theorem hy_JString_coder : y_JString_coder.1.cls ≠ "java/lang/invoke/MethodHandle" ∧ y_JString_coder.1.cls ≠ "java/lang/invoke/VarHandle" ∧ (parseMethodDescriptor y_JString_coder.1.desc).map (fun d => d.parameters.length) = some 0 := by decide +kernel
theorem d_JString_coder_0 : decode y_JString_coder.2.1 0 = .ok (.getstatic 38, 3) := by decide +kernel
theorem d_JString_coder_3 : decode y_JString_coder.2.1 3 = .ok (.ifCond .eq 10, 3) := by decide +kernel
theorem d_JString_coder_6 : decode y_JString_coder.2.1 6 = .ok (.aload_n 0, 1) := by decide +kernel
theorem d_JString_coder_7 : decode y_JString_coder.2.1 7 = .ok (.getfield 15, 3) := by decide +kernel
theorem d_JString_coder_10 : decode y_JString_coder.2.1 10 = .ok (.goto 4, 3) := by decide +kernel
theorem d_JString_coder_13 : decode y_JString_coder.2.1 13 = .ok (.iconst 1, 1) := by decide +kernel
theorem d_JString_coder_14 : decode y_JString_coder.2.1 14 = .ok (.ireturn, 1) := by decide +kernel

abbrev y_JString_isLatin1 : MI := (⟨"java/lang/String", "isLatin1", "()Z"⟩, prog_17_method_154_code, 1, (some .boolean))
theorem hy_JString_isLatin1 : y_JString_isLatin1.1.cls ≠ "java/lang/invoke/MethodHandle" ∧ y_JString_isLatin1.1.cls ≠ "java/lang/invoke/VarHandle" ∧ (parseMethodDescriptor y_JString_isLatin1.1.desc).map (fun d => d.parameters.length) = some 0 := by decide +kernel
theorem d_JString_isLatin1_0 : decode y_JString_isLatin1.2.1 0 = .ok (.getstatic 38, 3) := by decide +kernel
theorem d_JString_isLatin1_3 : decode y_JString_isLatin1.2.1 3 = .ok (.ifCond .eq 14, 3) := by decide +kernel
theorem d_JString_isLatin1_6 : decode y_JString_isLatin1.2.1 6 = .ok (.aload_n 0, 1) := by decide +kernel
theorem d_JString_isLatin1_7 : decode y_JString_isLatin1.2.1 7 = .ok (.getfield 15, 3) := by decide +kernel
theorem d_JString_isLatin1_10 : decode y_JString_isLatin1.2.1 10 = .ok (.ifCond .ne 7, 3) := by decide +kernel
theorem d_JString_isLatin1_13 : decode y_JString_isLatin1.2.1 13 = .ok (.iconst 1, 1) := by decide +kernel
theorem d_JString_isLatin1_14 : decode y_JString_isLatin1.2.1 14 = .ok (.goto 4, 3) := by decide +kernel
theorem d_JString_isLatin1_17 : decode y_JString_isLatin1.2.1 17 = .ok (.iconst 0, 1) := by decide +kernel
theorem d_JString_isLatin1_18 : decode y_JString_isLatin1.2.1 18 = .ok (.ireturn, 1) := by decide +kernel

abbrev y_JString_length : MI := (⟨"java/lang/String", "length", "()I"⟩, prog_17_method_54_code, 1, (some .int))
theorem hy_JString_length : y_JString_length.1.cls ≠ "java/lang/invoke/MethodHandle" ∧ y_JString_length.1.cls ≠ "java/lang/invoke/VarHandle" ∧ (parseMethodDescriptor y_JString_length.1.desc).map (fun d => d.parameters.length) = some 0 := by decide +kernel
theorem d_JString_length_0 : decode y_JString_length.2.1 0 = .ok (.aload_n 0, 1) := by decide +kernel
theorem d_JString_length_1 : decode y_JString_length.2.1 1 = .ok (.getfield 9, 3) := by decide +kernel
theorem d_JString_length_4 : decode y_JString_length.2.1 4 = .ok (.arraylength, 1) := by decide +kernel
theorem d_JString_length_5 : decode y_JString_length.2.1 5 = .ok (.aload_n 0, 1) := by decide +kernel
theorem d_JString_length_6 : decode y_JString_length.2.1 6 = .ok (.invokevirtual 335, 3) := by decide +kernel
theorem d_JString_length_9 : decode y_JString_length.2.1 9 = .ok (.ishr, 1) := by decide +kernel
theorem d_JString_length_10 : decode y_JString_length.2.1 10 = .ok (.ireturn, 1) := by decide +kernel

abbrev y_JPre_checkIndex : MI := (⟨"jdk/internal/util/Preconditions", "checkIndex", "(IILjava/util/function/BiFunction;)I"⟩, prog_22_method_11_code, 3, (some .int))
theorem hy_JPre_checkIndex : y_JPre_checkIndex.1.cls ≠ "java/lang/invoke/MethodHandle" ∧ y_JPre_checkIndex.1.cls ≠ "java/lang/invoke/VarHandle" ∧ (parseMethodDescriptor y_JPre_checkIndex.1.desc).map (fun d => d.parameters.length) = some 3 := by decide +kernel
theorem d_JPre_checkIndex_0 : decode y_JPre_checkIndex.2.1 0 = .ok (.iload_n 0, 1) := by decide +kernel
theorem d_JPre_checkIndex_1 : decode y_JPre_checkIndex.2.1 1 = .ok (.ifCond .lt 8, 3) := by decide +kernel
theorem d_JPre_checkIndex_4 : decode y_JPre_checkIndex.2.1 4 = .ok (.iload_n 0, 1) := by decide +kernel
theorem d_JPre_checkIndex_5 : decode y_JPre_checkIndex.2.1 5 = .ok (.iload_n 1, 1) := by decide +kernel
theorem d_JPre_checkIndex_6 : decode y_JPre_checkIndex.2.1 6 = .ok (.if_icmp .lt 10, 3) := by decide +kernel
theorem d_JPre_checkIndex_9 : decode y_JPre_checkIndex.2.1 9 = .ok (.aload_n 2, 1) := by decide +kernel
theorem d_JPre_checkIndex_10 : decode y_JPre_checkIndex.2.1 10 = .ok (.iload_n 0, 1) := by decide +kernel
theorem d_JPre_checkIndex_11 : decode y_JPre_checkIndex.2.1 11 = .ok (.iload_n 1, 1) := by decide +kernel
theorem d_JPre_checkIndex_12 : decode y_JPre_checkIndex.2.1 12 = .ok (.invokestatic 95, 3) := by decide +kernel
theorem d_JPre_checkIndex_15 : decode y_JPre_checkIndex.2.1 15 = .ok (.athrow, 1) := by decide +kernel
theorem d_JPre_checkIndex_16 : decode y_JPre_checkIndex.2.1 16 = .ok (.iload_n 0, 1) := by decide +kernel
theorem d_JPre_checkIndex_17 : decode y_JPre_checkIndex.2.1 17 = .ok (.ireturn, 1) := by decide +kernel

abbrev y_JString_checkIndex : MI := (⟨"java/lang/String", "checkIndex", "(II)V"⟩, prog_17_method_155_code, 2, none)
theorem hy_JString_checkIndex : y_JString_checkIndex.1.cls ≠ "java/lang/invoke/MethodHandle" ∧ y_JString_checkIndex.1.cls ≠ "java/lang/invoke/VarHandle" ∧ (parseMethodDescriptor y_JString_checkIndex.1.desc).map (fun d => d.parameters.length) = some 2 := by decide +kernel
theorem d_JString_checkIndex_0 : decode y_JString_checkIndex.2.1 0 = .ok (.iload_n 0, 1) := by decide +kernel
theorem d_JString_checkIndex_1 : decode y_JString_checkIndex.2.1 1 = .ok (.iload_n 1, 1) := by decide +kernel
theorem d_JString_checkIndex_2 : decode y_JString_checkIndex.2.1 2 = .ok (.getstatic 1053, 3) := by decide +kernel
theorem d_JString_checkIndex_5 : decode y_JString_checkIndex.2.1 5 = .ok (.invokestatic 1059, 3) := by decide +kernel
theorem d_JString_checkIndex_8 : decode y_JString_checkIndex.2.1 8 = .ok (.pop, 1) := by decide +kernel
theorem d_JString_checkIndex_9 : decode y_JString_checkIndex.2.1 9 = .ok (.return_, 1) := by decide +kernel

abbrev y_JLatin_charAt : MI := (⟨"java/lang/StringLatin1", "charAt", "([BI)C"⟩, prog_18_method_2_code, 2, (some .char))
theorem hy_JLatin_charAt : y_JLatin_charAt.1.cls ≠ "java/lang/invoke/MethodHandle" ∧ y_JLatin_charAt.1.cls ≠ "java/lang/invoke/VarHandle" ∧ (parseMethodDescriptor y_JLatin_charAt.1.desc).map (fun d => d.parameters.length) = some 2 := by decide +kernel
theorem d_JLatin_charAt_0 : decode y_JLatin_charAt.2.1 0 = .ok (.iload_n 1, 1) := by decide +kernel
theorem d_JLatin_charAt_1 : decode y_JLatin_charAt.2.1 1 = .ok (.aload_n 0, 1) := by decide +kernel
theorem d_JLatin_charAt_2 : decode y_JLatin_charAt.2.1 2 = .ok (.arraylength, 1) := by decide +kernel
theorem d_JLatin_charAt_3 : decode y_JLatin_charAt.2.1 3 = .ok (.invokestatic 9, 3) := by decide +kernel
theorem d_JLatin_charAt_6 : decode y_JLatin_charAt.2.1 6 = .ok (.aload_n 0, 1) := by decide +kernel
theorem d_JLatin_charAt_7 : decode y_JLatin_charAt.2.1 7 = .ok (.iload_n 1, 1) := by decide +kernel
theorem d_JLatin_charAt_8 : decode y_JLatin_charAt.2.1 8 = .ok (.baload, 1) := by decide +kernel
theorem d_JLatin_charAt_9 : decode y_JLatin_charAt.2.1 9 = .ok (.sipush 255, 3) := by decide +kernel
theorem d_JLatin_charAt_12 : decode y_JLatin_charAt.2.1 12 = .ok (.iand, 1) := by decide +kernel
theorem d_JLatin_charAt_13 : decode y_JLatin_charAt.2.1 13 = .ok (.i2c, 1) := by decide +kernel
theorem d_JLatin_charAt_14 : decode y_JLatin_charAt.2.1 14 = .ok (.ireturn, 1) := by decide +kernel

abbrev y_JString_charAt : MI := (⟨"java/lang/String", "charAt", "(I)C"⟩, prog_17_method_56_code, 2, (some .char))
theorem hy_JString_charAt : y_JString_charAt.1.cls ≠ "java/lang/invoke/MethodHandle" ∧ y_JString_charAt.1.cls ≠ "java/lang/invoke/VarHandle" ∧ (parseMethodDescriptor y_JString_charAt.1.desc).map (fun d => d.parameters.length) = some 1 := by decide +kernel
theorem d_JString_charAt_0 : decode y_JString_charAt.2.1 0 = .ok (.aload_n 0, 1) := by decide +kernel
theorem d_JString_charAt_1 : decode y_JString_charAt.2.1 1 = .ok (.invokevirtual 492, 3) := by decide +kernel
theorem d_JString_charAt_4 : decode y_JString_charAt.2.1 4 = .ok (.ifCond .eq 12, 3) := by decide +kernel
theorem d_JString_charAt_7 : decode y_JString_charAt.2.1 7 = .ok (.aload_n 0, 1) := by decide +kernel
theorem d_JString_charAt_8 : decode y_JString_charAt.2.1 8 = .ok (.getfield 9, 3) := by decide +kernel
theorem d_JString_charAt_11 : decode y_JString_charAt.2.1 11 = .ok (.iload_n 1, 1) := by decide +kernel
theorem d_JString_charAt_12 : decode y_JString_charAt.2.1 12 = .ok (.invokestatic 495, 3) := by decide +kernel
theorem d_JString_charAt_15 : decode y_JString_charAt.2.1 15 = .ok (.ireturn, 1) := by decide +kernel
theorem d_JString_charAt_16 : decode y_JString_charAt.2.1 16 = .ok (.aload_n 0, 1) := by decide +kernel
theorem d_JString_charAt_17 : decode y_JString_charAt.2.1 17 = .ok (.getfield 9, 3) := by decide +kernel
theorem d_JString_charAt_20 : decode y_JString_charAt.2.1 20 = .ok (.iload_n 1, 1) := by decide +kernel
theorem d_JString_charAt_21 : decode y_JString_charAt.2.1 21 = .ok (.invokestatic 498, 3) := by decide +kernel
theorem d_JString_charAt_24 : decode y_JString_charAt.2.1 24 = .ok (.ireturn, 1) := by decide +kernel

def f_JString_coder   (h : AH) : Option (Int32 × AH) :=
  if (1 : Int32) = 0 then
    gn .byte (1 : Int32) <|
    some ((1 : Int32), h)
  else
    gn .byte (0 : Int32) <|
    some ((0 : Int32), h)
set_option maxHeartbeats 2000000 in
theorem ok_JString_coder {G : AE} {n : Nat} (hn : NN ≤ n)   (h : AH) : OK G n y_JString_coder (1) φI [.float 0] h (f_JString_coder h) := by
  refine ok_of (y := y_JString_coder) (lv0 := [some (.float 0)]) (by decide +kernel) (Nat.le_of_ble_eq_true rfl) ⟨rfl, trivial⟩ ?_
  rw [f_JString_coder]
  refine r_getsC (pc := 0) rfl w_510 d_JString_coder_0 ?_
  refine r_if_eq (pc := 3) (tgt := 13) d_JString_coder_3 (by rfl) ?_ ?_
  · refine r_iconst (pc := 13) (v := 1) d_JString_coder_13 (by rfl) ?_
    refine r_gn (fun zq1 => ?_)
    exact r_tret (pc := 14) rfl zq1 d_JString_coder_14
  · refine r_aloadF_n (pc := 6) (i := 0) (cv_0 G) d_JString_coder_6 rfl rfl ?_
    refine r_strC (pc := 7) rfl w_1788 d_JString_coder_7 ?_
    refine r_goto (pc := 10) (tgt := 14) d_JString_coder_10 (by rfl) ?_
    refine r_gn (fun zq2 => ?_)
    exact r_tret (pc := 14) rfl zq2 d_JString_coder_14

def f_JString_isLatin1   (h : AH) : Option (Int32 × AH) :=
  if (1 : Int32) = 0 then
    some ((0 : Int32), h)
  else
    if ¬ (0 : Int32) = 0 then
      some ((0 : Int32), h)
    else
      some ((1 : Int32), h)
set_option maxHeartbeats 2000000 in
theorem ok_JString_isLatin1 {G : AE} {n : Nat} (hn : NN ≤ n)   (h : AH) : OK G n y_JString_isLatin1 (1) φI [.float 0] h (f_JString_isLatin1 h) := by
  refine ok_of (y := y_JString_isLatin1) (lv0 := [some (.float 0)]) (by decide +kernel) (Nat.le_of_ble_eq_true rfl) ⟨rfl, trivial⟩ ?_
  rw [f_JString_isLatin1]
  refine r_getsC (pc := 0) rfl w_510 d_JString_isLatin1_0 ?_
  refine r_if_eq (pc := 3) (tgt := 17) d_JString_isLatin1_3 (by rfl) ?_ ?_
  · refine r_iconst (pc := 17) (v := 0) d_JString_isLatin1_17 (by rfl) ?_
    exact r_zret (pc := 18) rfl rfl d_JString_isLatin1_18
  · refine r_aloadF_n (pc := 6) (i := 0) (cv_0 G) d_JString_isLatin1_6 rfl rfl ?_
    refine r_strC (pc := 7) rfl w_1788 d_JString_isLatin1_7 ?_
    refine r_if_ne (pc := 10) (tgt := 17) d_JString_isLatin1_10 (by rfl) ?_ ?_
    · refine r_iconst (pc := 17) (v := 0) d_JString_isLatin1_17 (by rfl) ?_
      exact r_zret (pc := 18) rfl rfl d_JString_isLatin1_18
    · refine r_iconst (pc := 13) (v := 1) d_JString_isLatin1_13 (by rfl) ?_
      refine r_goto (pc := 14) (tgt := 18) d_JString_isLatin1_14 (by rfl) ?_
      exact r_zret (pc := 18) rfl rfl d_JString_isLatin1_18

def f_JString_length   (h : AH) : Option (Int32 × AH) :=
  bI (f_JString_coder h) fun rq1 hq2 =>
  some (((nI 152) >>> (rq1 &&& 31)), hq2)
set_option maxHeartbeats 2000000 in
theorem ok_JString_length {G : AE} {n : Nat} (hn : NN ≤ n)   (h : AH) : OK G n y_JString_length (2) φI [.float 0] h (f_JString_length h) := by
  refine ok_of (y := y_JString_length) (lv0 := [some (.float 0)]) (by decide +kernel) (Nat.le_of_ble_eq_true rfl) ⟨rfl, trivial⟩ ?_
  rw [f_JString_length]
  refine r_aloadF_n (pc := 0) (i := 0) (cv_0 G) d_JString_length_0 rfl rfl ?_
  refine r_strV (pc := 1) rfl w_1787 d_JString_length_1 ?_
  refine r_blen (pc := 4) d_JString_length_4 ?_
  refine r_aloadF_n (pc := 5) (i := 0) (cv_0 G) d_JString_length_5 rfl rfl ?_
  refine r_cXi (pc := 6) (st := [.int (nI 152)]) (ok_JString_coder hn h) rfl w_509 w_14 w_506 w_507 w_508 hy_JString_coder ⟨Nat.le_of_ble_eq_true rfl, Nat.le_of_ble_eq_true rfl⟩ ⟨Nat.le_of_ble_eq_true rfl, Nat.le_of_ble_eq_true rfl⟩ rfl (Nat.le_of_ble_eq_true rfl) d_JString_length_6 (fun rq1 hq2 => ?_)
  refine r_ishr (pc := 9) d_JString_length_9 ?_
  exact r_iret (pc := 10) rfl d_JString_length_10

def f_JPre_checkIndex_b9  (a0 : Int32) (a1 : Int32)   (h : AH) : Option (Int32 × AH) :=
  none
set_option maxHeartbeats 2000000 in
theorem o_JPre_checkIndex_b9 {G : AE} {n : Nat} (hn : NN ≤ n)  {a0 : Int32} {a1 : Int32}   : ∀  (h : AH), AJ G n y_JPre_checkIndex (1) φI 9 [some (.int a0), some (.int a1), some (.float 3)] [] h (f_JPre_checkIndex_b9 a0 a1 h) := by
  intro  h
  rw [f_JPre_checkIndex_b9]
  refine r_aloadN_n (pc := 9) (i := 2) d_JPre_checkIndex_9 rfl rfl ?_
  refine r_iload_n (pc := 10) (i := 0) d_JPre_checkIndex_10 rfl rfl ?_
  refine r_iload_n (pc := 11) (i := 1) d_JPre_checkIndex_11 rfl rfl ?_
  exact r_none
def f_JPre_checkIndex  (a0 : Int32) (a1 : Int32) (h : AH) : Option (Int32 × AH) :=
  if a0 < 0 then
    f_JPre_checkIndex_b9 a0 a1 h
  else
    if a0 < a1 then
      some (a0, h)
    else
      f_JPre_checkIndex_b9 a0 a1 h
set_option maxHeartbeats 2000000 in
theorem ok_JPre_checkIndex {G : AE} {n : Nat} (hn : NN ≤ n)  (a0 : Int32) (a1 : Int32) (h : AH) : OK G n y_JPre_checkIndex (1) φI [.int a0, .int a1, .float 3] h (f_JPre_checkIndex a0 a1 h) := by
  refine ok_of (y := y_JPre_checkIndex) (lv0 := [some (.int a0), some (.int a1), some (.float 3)]) (by decide +kernel) (Nat.le_of_ble_eq_true rfl) ⟨rfl, ⟨rfl, ⟨rfl, trivial⟩⟩⟩ ?_
  rw [f_JPre_checkIndex]
  refine r_iload_n (pc := 0) (i := 0) d_JPre_checkIndex_0 rfl rfl ?_
  refine r_if_lt (pc := 1) (tgt := 9) d_JPre_checkIndex_1 (by rfl) ?_ ?_
  · exact r_wk (o_JPre_checkIndex_b9 hn h) ⟨rfl, ⟨rfl, ⟨rfl, trivial⟩⟩⟩
  · refine r_iload_n (pc := 4) (i := 0) d_JPre_checkIndex_4 rfl rfl ?_
    refine r_iload_n (pc := 5) (i := 1) d_JPre_checkIndex_5 rfl rfl ?_
    refine r_icmp_lt (pc := 6) (tgt := 16) d_JPre_checkIndex_6 (by rfl) ?_ ?_
    · refine r_iload_n (pc := 16) (i := 0) d_JPre_checkIndex_16 rfl rfl ?_
      exact r_iret (pc := 17) rfl d_JPre_checkIndex_17
    · exact r_wk (o_JPre_checkIndex_b9 hn h) ⟨rfl, ⟨rfl, ⟨rfl, trivial⟩⟩⟩

def f_JString_checkIndex  (a0 : Int32) (a1 : Int32) (h : AH) : Option AH :=
  bI (f_JPre_checkIndex a0 a1 h) fun rq1 hq2 =>
  some hq2
set_option maxHeartbeats 2000000 in
theorem ok_JString_checkIndex {G : AE} {n : Nat} (hn : NN ≤ n)  (a0 : Int32) (a1 : Int32) (h : AH) : OK G n y_JString_checkIndex (2) φV [.int a0, .int a1] h (f_JString_checkIndex a0 a1 h) := by
  refine ok_of (y := y_JString_checkIndex) (lv0 := [some (.int a0), some (.int a1)]) (by decide +kernel) (Nat.le_of_ble_eq_true rfl) ⟨rfl, ⟨rfl, trivial⟩⟩ ?_
  rw [f_JString_checkIndex]
  refine r_iload_n (pc := 0) (i := 0) d_JString_checkIndex_0 rfl rfl ?_
  refine r_iload_n (pc := 1) (i := 1) d_JString_checkIndex_1 rfl rfl ?_
  refine r_getsF (pc := 2) rfl w_526 d_JString_checkIndex_2 ?_
  refine r_cSi (pc := 5) (st := []) (ok_JPre_checkIndex hn a0 a1 h) w_530 w_16 w_528 w_529 hy_JPre_checkIndex ⟨Nat.le_of_ble_eq_true rfl, Nat.le_of_ble_eq_true rfl⟩ ⟨Nat.le_of_ble_eq_true rfl, Nat.le_of_ble_eq_true rfl⟩ rfl (Nat.le_of_ble_eq_true rfl) d_JString_checkIndex_5 (fun rq1 hq2 => ?_)
  refine r_pop (pc := 8) d_JString_checkIndex_8 rfl ?_
  exact r_vret (pc := 9) rfl d_JString_checkIndex_9

def f_JLatin_charAt  (a1 : Int32) (h : AH) : Option (Int32 × AH) :=
  bV (f_JString_checkIndex a1 (nI 152) h) fun hq1 =>
  gx a1 152 <|
  gn .char (i2c ((byW.getD (ix a1) 0) &&& (255 : Int32))) <|
  some ((i2c ((byW.getD (ix a1) 0) &&& (255 : Int32))), hq1)
set_option maxHeartbeats 2000000 in
theorem ok_JLatin_charAt {G : AE} {n : Nat} (hn : NN ≤ n)  (a1 : Int32) (h : AH) : OK G n y_JLatin_charAt (3) φI [.float 2, .int a1] h (f_JLatin_charAt a1 h) := by
  refine ok_of (y := y_JLatin_charAt) (lv0 := [some (.float 2), some (.int a1)]) (by decide +kernel) (Nat.le_of_ble_eq_true rfl) ⟨rfl, ⟨rfl, trivial⟩⟩ ?_
  rw [f_JLatin_charAt]
  refine r_iload_n (pc := 0) (i := 1) d_JLatin_charAt_0 rfl rfl ?_
  refine r_aloadF_n (pc := 1) (i := 0) (cv_2 G) d_JLatin_charAt_1 rfl rfl ?_
  refine r_blen (pc := 2) d_JLatin_charAt_2 ?_
  refine r_cSv (pc := 3) (st := []) (ok_JString_checkIndex hn a1 (nI 152) h) w_525 w_14 w_523 w_524 hy_JString_checkIndex ⟨Nat.le_of_ble_eq_true rfl, Nat.le_of_ble_eq_true rfl⟩ ⟨Nat.le_of_ble_eq_true rfl, Nat.le_of_ble_eq_true rfl⟩ rfl (Nat.le_of_ble_eq_true rfl) d_JLatin_charAt_3 (fun hq1 => ?_)
  refine r_aloadF_n (pc := 6) (i := 0) (cv_2 G) d_JLatin_charAt_6 rfl rfl ?_
  refine r_iload_n (pc := 7) (i := 1) d_JLatin_charAt_7 rfl rfl ?_
  refine r_gx (fun zq2 => ?_)
  refine r_blda (pc := 8) zq2 d_JLatin_charAt_8 ?_
  refine r_sipush (pc := 9) (v := 255) d_JLatin_charAt_9 (by rfl) ?_
  refine r_iand (pc := 12) d_JLatin_charAt_12 ?_
  refine r_i2c (pc := 13) d_JLatin_charAt_13 ?_
  refine r_gn (fun zq3 => ?_)
  exact r_tret (pc := 14) rfl zq3 d_JLatin_charAt_14

def f_JString_charAt  (a1 : Int32) (h : AH) : Option (Int32 × AH) :=
  bI (f_JString_isLatin1 h) fun rq1 hq2 =>
  if rq1 = 0 then
    none
  else
    bI (f_JLatin_charAt a1 hq2) fun rq3 hq4 =>
    gn .char rq3 <|
    some (rq3, hq4)
set_option maxHeartbeats 2000000 in
theorem ok_JString_charAt {G : AE} {n : Nat} (hn : NN ≤ n)  (a1 : Int32) (h : AH) : OK G n y_JString_charAt (4) φI [.float 0, .int a1] h (f_JString_charAt a1 h) := by
  refine ok_of (y := y_JString_charAt) (lv0 := [some (.float 0), some (.int a1)]) (by decide +kernel) (Nat.le_of_ble_eq_true rfl) ⟨rfl, ⟨rfl, trivial⟩⟩ ?_
  rw [f_JString_charAt]
  refine r_aloadF_n (pc := 0) (i := 0) (cv_0 G) d_JString_charAt_0 rfl rfl ?_
  refine r_cXi (pc := 1) (st := []) (ok_JString_isLatin1 hn h) rfl w_519 w_14 w_516 w_517 w_518 hy_JString_isLatin1 ⟨Nat.le_of_ble_eq_true rfl, Nat.le_of_ble_eq_true rfl⟩ ⟨Nat.le_of_ble_eq_true rfl, Nat.le_of_ble_eq_true rfl⟩ rfl (Nat.le_of_ble_eq_true rfl) d_JString_charAt_1 (fun rq1 hq2 => ?_)
  refine r_if_eq (pc := 4) (tgt := 16) d_JString_charAt_4 (by rfl) ?_ ?_
  · refine r_aloadF_n (pc := 16) (i := 0) (cv_0 G) d_JString_charAt_16 rfl rfl ?_
    refine r_strV (pc := 17) rfl w_1787 d_JString_charAt_17 ?_
    refine r_iload_n (pc := 20) (i := 1) d_JString_charAt_20 rfl rfl ?_
    exact r_none
  · refine r_aloadF_n (pc := 7) (i := 0) (cv_0 G) d_JString_charAt_7 rfl rfl ?_
    refine r_strV (pc := 8) rfl w_1787 d_JString_charAt_8 ?_
    refine r_iload_n (pc := 11) (i := 1) d_JString_charAt_11 rfl rfl ?_
    refine r_cSi (pc := 12) (st := []) (ok_JLatin_charAt hn a1 hq2) w_522 w_15 w_520 w_521 hy_JLatin_charAt ⟨Nat.le_of_ble_eq_true rfl, Nat.le_of_ble_eq_true rfl⟩ ⟨Nat.le_of_ble_eq_true rfl, Nat.le_of_ble_eq_true rfl⟩ rfl (Nat.le_of_ble_eq_true rfl) d_JString_charAt_12 (fun rq3 hq4 => ?_)
    refine r_gn (fun zq5 => ?_)
    exact r_tret (pc := 15) rfl zq5 d_JString_charAt_15

