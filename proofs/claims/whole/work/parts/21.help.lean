/-! ===== the law's helpers: AllSawIt's methods called under a table ===== -/
theorem lc_13 : Cond.classLink RL 13 "java/lang/IllegalArgumentException" ∈ lw_tbl := (tb_2 (List.mem_of_getElem? (i := 192) (by decide +kernel)))
theorem lc_15 : Cond.classLink RL 15 "java/lang/UnsupportedOperationException" ∈ lw_tbl := (tb_2 (List.mem_of_getElem? (i := 193) (by decide +kernel)))
theorem lc_24 : Cond.classLink RL 24 "java/lang/IndexOutOfBoundsException" ∈ lw_tbl := (tb_4 (List.mem_of_getElem? (i := 12) (by decide +kernel)))
theorem lc_26 : Cond.classLink RL 26 "java/util/NoSuchElementException" ∈ lw_tbl := (tb_4 (List.mem_of_getElem? (i := 13) (by decide +kernel)))
theorem lc_39 : Cond.classLink RL 39 "java/lang/IllegalStateException" ∈ lw_tbl := (tb_4 (List.mem_of_getElem? (i := 128) (by decide +kernel)))
theorem tc_IllegalArgumentException : Cond.castable "java/lang/IllegalArgumentException" "java/lang/IllegalArgumentException" ∈ lw_tbl := (tb_3 (List.mem_of_getElem? (i := 101) (by decide +kernel)))
theorem tc_IllegalStateException : Cond.castable "java/lang/IllegalStateException" "java/lang/IllegalStateException" ∈ lw_tbl := (tb_4 (List.mem_of_getElem? (i := 135) (by decide +kernel)))
theorem tc_IndexOutOfBoundsException : Cond.castable "java/lang/IndexOutOfBoundsException" "java/lang/IndexOutOfBoundsException" ∈ lw_tbl := (tb_4 (List.mem_of_getElem? (i := 24) (by decide +kernel)))
theorem tc_UnsupportedOperationException : Cond.castable "java/lang/UnsupportedOperationException" "java/lang/UnsupportedOperationException" ∈ lw_tbl := (tb_3 (List.mem_of_getElem? (i := 170) (by decide +kernel)))
theorem tc_NoSuchElementException : Cond.castable "java/util/NoSuchElementException" "java/util/NoSuchElementException" ∈ lw_tbl := (tb_4 (List.mem_of_getElem? (i := 68) (by decide +kernel)))
theorem vp_0_1 : vp_in 0 1 := by unfold vp_in; decide
/-! street -/
theorem dL_street_0 : decode cL_street 0 = .ok (.aload_n 1, 1) := by decide +kernel
theorem dL_street_1 : decode cL_street 1 = .ok (.iconst 0, 1) := by decide +kernel
theorem dL_street_2 : decode cL_street 2 = .ok (.aload_n 0, 1) := by decide +kernel
theorem dL_street_3 : decode cL_street 3 = .ok (.invokevirtual 7, 3) := by decide +kernel
theorem dL_street_6 : decode cL_street 6 = .ok (.i2l, 1) := by decide +kernel
theorem dL_street_7 : decode cL_street 7 = .ok (.lastore, 1) := by decide +kernel
theorem dL_street_8 : decode cL_street 8 = .ok (.goto 9, 3) := by decide +kernel
theorem dL_street_11 : decode cL_street 11 = .ok (.astore_n 2, 1) := by decide +kernel
theorem dL_street_12 : decode cL_street 12 = .ok (.iconst 1, 1) := by decide +kernel
theorem dL_street_13 : decode cL_street 13 = .ok (.ireturn, 1) := by decide +kernel
theorem dL_street_14 : decode cL_street 14 = .ok (.astore_n 2, 1) := by decide +kernel
theorem dL_street_15 : decode cL_street 15 = .ok (.iconst 2, 1) := by decide +kernel
theorem dL_street_16 : decode cL_street 16 = .ok (.ireturn, 1) := by decide +kernel
theorem dL_street_17 : decode cL_street 17 = .ok (.iconst 0, 1) := by decide +kernel
theorem dL_street_18 : decode cL_street 18 = .ok (.ireturn, 1) := by decide +kernel
def hL_street (o : String ⊕ Int32) (ov : Nat → Int64) : Option (Int32 × (Nat → Int64)) := match o with
  | .inr r => some (0, vp_updL ov ((0 : Int32).toNatClampNeg) r.toInt64)
  | .inl E => if E = "java/lang/IllegalArgumentException" then some (1, ov) else (if E = "java/lang/UnsupportedOperationException" then some (2, ov) else (none))
def pL_street (E : String) : Nat := if E = "java/lang/IllegalArgumentException" then 11 else 14
theorem yw_L_street : Cond.codeWith yL_street cL_street 3 (some .int) [(0, 8, 11, 13), (0, 8, 14, 15)] ∈ lw_tbl ∧ Cond.static yL_street ∈ lw_tbl := ⟨(tb_2 (List.mem_of_getElem? (i := 191) (by decide +kernel))), (tb_2 (List.mem_of_getElem? (i := 190) (by decide +kernel)))⟩
set_option maxHeartbeats 4000000 in
set_option maxRecDepth 100000 in
theorem kL_street {l : Launch} {G : GT} {Z : Nat → Nat × Nat} (ht : l.stackTraces = false) {V V2 : VT} {oa : Nat} {ov ov2 : Nat → Int64} {o : String ⊕ Int32} {rr : Int32} (h : fX9_street V  = some (o, V2)) (hr : hL_street o ov = some (rr, ov2)) : HI l G (SH Z) yL_street (.codeWith yL_street cL_street 3 (some .int) [(0, 8, 11, 13), (0, 8, 14, 15)]) 12 1 [.ref (G.2.2 0), .ref oa] V oa ov rr V2 ov2 := by
  intro sz
  refine hmet_of (Qs := fun sz => QO G oa sz rr V2 ov2) (SH_ok Z) (by decide) (Nat.le_of_ble_eq_true rfl) ?_ sz
  intro p e s m args below meth c ls E htab hw hl
  have hx := E.1
  have hb := E.2.1
  have hl : lv_has ls 3 [(0, .ref (G.2.2 0)), (1, .ref oa)] := hl
  have hca : ∀ Ec, o = .inl Ec → ct_at RL [(0, 8, 11, 13), (0, 8, 14, 15)] 3 Ec (pL_street Ec) := by
    intro Ec e
    subst e
    unfold hL_street at hr
    dsimp only at hr
    by_cases c0 : Ec = "java/lang/IllegalArgumentException"
    · subst c0
      exact ⟨[], { startPc := 0, endPc := 8, handlerPc := 11, catchType := 13 }, [{ startPc := 0, endPc := 8, handlerPc := 14, catchType := 15 }], rfl, (fun z hz => nomatch hz), by decide, by decide, ⟨_, lc_13, rfl⟩, by decide, tc_IllegalArgumentException⟩
    · rw [if_neg c0] at hr
      by_cases c1 : Ec = "java/lang/UnsupportedOperationException"
      · subst c1
        exact ⟨[{ startPc := 0, endPc := 8, handlerPc := 11, catchType := 13 }], { startPc := 0, endPc := 8, handlerPc := 14, catchType := 15 }, [], rfl, (fun z hz => by rw [List.mem_singleton.mp hz]; exact Or.inr ⟨by decide, "java/lang/IllegalArgumentException", lc_13, by decide⟩), by decide, by decide, ⟨_, lc_15, rfl⟩, by decide, tc_UnsupportedOperationException⟩
      · rw [if_neg c1] at hr
        cases hr
  refine lv_aload_n hx hb dL_street_0 rfl (lv_at hl 1 rfl) ?_
  refine lv_iconst (v := (0 : Int32)) hx hb dL_street_1 (by decide) ?_
  refine lv_aload_n hx hb dL_street_2 rfl (lv_at hl 0 rfl) ?_
  refine h_VI (As := []) (hh := [(0, 8, 11, 13), (0, 8, 14, 15)]) (hp := pL_street) E hw (kX9_street (l := l) (G := G) (Z := Z) ht h) yy_X9_street lm_RL_7 rfl rfl hl.1 (by decide) (by decide) (by decide) rfl (Nat.le_of_ble_eq_true rfl) dL_street_3 htab hca (fun r H locs ho hw => ?_) (fun Ec q H locs ho hw => ?_)
  · subst ho
    unfold hL_street at hr
    dsimp only at hr
    cases hr
    refine lv_i2l hx hb dL_street_6 rfl ?_
    refine h_ls E hw vp_0_1 rfl dL_street_7 (fun H locs hw => ?_)
    refine lv_goto (tgt := 17) hx hb dL_street_8 (by decide) ?_
    refine lv_iconst (v := (0 : Int32)) hx hb dL_street_17 (by decide) ?_
    exact h_ri E hw (by decide) (by decide) dL_street_18
  · subst ho
    unfold hL_street at hr
    dsimp only at hr
    by_cases c0 : Ec = "java/lang/IllegalArgumentException"
    · subst c0
      have hr : some ((1 : Int32), ov) = some (rr, ov2) := by simpa using hr
      cases hr
      refine lv_astore_n (lv' := [(2, .ref q), (0, .ref (G.2.2 0)), (1, .ref oa)]) hx hb dL_street_11 rfl hl (by decide) rfl (fun ls hl => ?_)
      refine lv_iconst (v := (1 : Int32)) hx hb dL_street_12 (by decide) ?_
      exact h_ri E hw (by decide) (by decide) dL_street_13
    · rw [if_neg c0] at hr
      by_cases c1 : Ec = "java/lang/UnsupportedOperationException"
      · subst c1
        have hr : some ((2 : Int32), ov) = some (rr, ov2) := by simpa using hr
        cases hr
        refine lv_astore_n (lv' := [(2, .ref q), (0, .ref (G.2.2 0)), (1, .ref oa)]) hx hb dL_street_14 rfl hl (by decide) rfl (fun ls hl => ?_)
        refine lv_iconst (v := (2 : Int32)) hx hb dL_street_15 (by decide) ?_
        exact h_ri E hw (by decide) (by decide) dL_street_16
      · rw [if_neg c1] at hr
        cases hr
/-! law -/
theorem dL_law_0 : decode cL_law 0 = .ok (.aload_n 1, 1) := by decide +kernel
theorem dL_law_1 : decode cL_law 1 = .ok (.iconst 0, 1) := by decide +kernel
theorem dL_law_2 : decode cL_law 2 = .ok (.aload_n 0, 1) := by decide +kernel
theorem dL_law_3 : decode cL_law 3 = .ok (.invokevirtual 17, 3) := by decide +kernel
theorem dL_law_6 : decode cL_law 6 = .ok (.i2l, 1) := by decide +kernel
theorem dL_law_7 : decode cL_law 7 = .ok (.lastore, 1) := by decide +kernel
theorem dL_law_8 : decode cL_law 8 = .ok (.goto 6, 3) := by decide +kernel
theorem dL_law_11 : decode cL_law 11 = .ok (.astore_n 2, 1) := by decide +kernel
theorem dL_law_12 : decode cL_law 12 = .ok (.iconst 1, 1) := by decide +kernel
theorem dL_law_13 : decode cL_law 13 = .ok (.ireturn, 1) := by decide +kernel
theorem dL_law_14 : decode cL_law 14 = .ok (.iconst 0, 1) := by decide +kernel
theorem dL_law_15 : decode cL_law 15 = .ok (.ireturn, 1) := by decide +kernel
def hL_law (o : String ⊕ Int32) (ov : Nat → Int64) : Option (Int32 × (Nat → Int64)) := match o with
  | .inr r => some (0, vp_updL ov ((0 : Int32).toNatClampNeg) r.toInt64)
  | .inl E => if E = "java/lang/IllegalArgumentException" then some (1, ov) else (none)
def pL_law (E : String) : Nat := 11
theorem yw_L_law : Cond.codeWith yL_law cL_law 3 (some .int) [(0, 8, 11, 13)] ∈ lw_tbl ∧ Cond.static yL_law ∈ lw_tbl := ⟨(tb_3 (List.mem_of_getElem? (i := 186) (by decide +kernel))), (tb_3 (List.mem_of_getElem? (i := 185) (by decide +kernel)))⟩
set_option maxHeartbeats 4000000 in
set_option maxRecDepth 100000 in
theorem kL_law {l : Launch} {G : GT} {Z : Nat → Nat × Nat} (ht : l.stackTraces = false) {V V2 : VT} {oa : Nat} {ov ov2 : Nat → Int64} {o : String ⊕ Int32} {rr : Int32} (h : fX9_law V  = some (o, V2)) (hr : hL_law o ov = some (rr, ov2)) : HI l G (SH Z) yL_law (.codeWith yL_law cL_law 3 (some .int) [(0, 8, 11, 13)]) 100 1 [.ref (G.2.2 0), .ref oa] V oa ov rr V2 ov2 := by
  intro sz
  refine hmet_of (Qs := fun sz => QO G oa sz rr V2 ov2) (SH_ok Z) (by decide) (Nat.le_of_ble_eq_true rfl) ?_ sz
  intro p e s m args below meth c ls E htab hw hl
  have hx := E.1
  have hb := E.2.1
  have hl : lv_has ls 3 [(0, .ref (G.2.2 0)), (1, .ref oa)] := hl
  have hca : ∀ Ec, o = .inl Ec → ct_at RL [(0, 8, 11, 13)] 3 Ec (pL_law Ec) := by
    intro Ec e
    subst e
    unfold hL_law at hr
    dsimp only at hr
    by_cases c0 : Ec = "java/lang/IllegalArgumentException"
    · subst c0
      exact ⟨[], { startPc := 0, endPc := 8, handlerPc := 11, catchType := 13 }, [], rfl, (fun z hz => nomatch hz), by decide, by decide, ⟨_, lc_13, rfl⟩, by decide, tc_IllegalArgumentException⟩
    · rw [if_neg c0] at hr
      cases hr
  refine lv_aload_n hx hb dL_law_0 rfl (lv_at hl 1 rfl) ?_
  refine lv_iconst (v := (0 : Int32)) hx hb dL_law_1 (by decide) ?_
  refine lv_aload_n hx hb dL_law_2 rfl (lv_at hl 0 rfl) ?_
  refine h_VI (As := []) (hh := [(0, 8, 11, 13)]) (hp := pL_law) E hw (kX9_law (l := l) (G := G) (Z := Z) ht h) yy_X9_law lm_RL_17 rfl rfl hl.1 (by decide) (by decide) (by decide) rfl (Nat.le_of_ble_eq_true rfl) dL_law_3 htab hca (fun r H locs ho hw => ?_) (fun Ec q H locs ho hw => ?_)
  · subst ho
    unfold hL_law at hr
    dsimp only at hr
    cases hr
    refine lv_i2l hx hb dL_law_6 rfl ?_
    refine h_ls E hw vp_0_1 rfl dL_law_7 (fun H locs hw => ?_)
    refine lv_goto (tgt := 14) hx hb dL_law_8 (by decide) ?_
    refine lv_iconst (v := (0 : Int32)) hx hb dL_law_14 (by decide) ?_
    exact h_ri E hw (by decide) (by decide) dL_law_15
  · subst ho
    unfold hL_law at hr
    dsimp only at hr
    by_cases c0 : Ec = "java/lang/IllegalArgumentException"
    · subst c0
      have hr : some ((1 : Int32), ov) = some (rr, ov2) := by simpa using hr
      cases hr
      refine lv_astore_n (lv' := [(2, .ref q), (0, .ref (G.2.2 0)), (1, .ref oa)]) hx hb dL_law_11 rfl hl (by decide) rfl (fun ls hl => ?_)
      refine lv_iconst (v := (1 : Int32)) hx hb dL_law_12 (by decide) ?_
      exact h_ri E hw (by decide) (by decide) dL_law_13
    · rw [if_neg c0] at hr
      cases hr
/-! house -/
theorem dL_house_0 : decode cL_house 0 = .ok (.aload_n 3, 1) := by decide +kernel
theorem dL_house_1 : decode cL_house 1 = .ok (.iconst 0, 1) := by decide +kernel
theorem dL_house_2 : decode cL_house 2 = .ok (.aload_n 0, 1) := by decide +kernel
theorem dL_house_3 : decode cL_house 3 = .ok (.iload_n 1, 1) := by decide +kernel
theorem dL_house_4 : decode cL_house 4 = .ok (.iload_n 2, 1) := by decide +kernel
theorem dL_house_5 : decode cL_house 5 = .ok (.invokevirtual 20, 3) := by decide +kernel
theorem dL_house_8 : decode cL_house 8 = .ok (.i2l, 1) := by decide +kernel
theorem dL_house_9 : decode cL_house 9 = .ok (.lastore, 1) := by decide +kernel
theorem dL_house_10 : decode cL_house 10 = .ok (.goto 11, 3) := by decide +kernel
theorem dL_house_13 : decode cL_house 13 = .ok (.astore 4, 2) := by decide +kernel
theorem dL_house_15 : decode cL_house 15 = .ok (.iconst 1, 1) := by decide +kernel
theorem dL_house_16 : decode cL_house 16 = .ok (.ireturn, 1) := by decide +kernel
theorem dL_house_17 : decode cL_house 17 = .ok (.astore 4, 2) := by decide +kernel
theorem dL_house_19 : decode cL_house 19 = .ok (.iconst 2, 1) := by decide +kernel
theorem dL_house_20 : decode cL_house 20 = .ok (.ireturn, 1) := by decide +kernel
theorem dL_house_21 : decode cL_house 21 = .ok (.iconst 0, 1) := by decide +kernel
theorem dL_house_22 : decode cL_house 22 = .ok (.ireturn, 1) := by decide +kernel
def hL_house (o : String ⊕ Int32) (ov : Nat → Int64) : Option (Int32 × (Nat → Int64)) := match o with
  | .inr r => some (0, vp_updL ov ((0 : Int32).toNatClampNeg) r.toInt64)
  | .inl E => if E = "java/lang/IndexOutOfBoundsException" then some (1, ov) else (if E = "java/util/NoSuchElementException" then some (2, ov) else (none))
def pL_house (E : String) : Nat := if E = "java/lang/IndexOutOfBoundsException" then 13 else 17
theorem yw_L_house : Cond.codeWith yL_house cL_house 5 (some .int) [(0, 10, 13, 24), (0, 10, 17, 26)] ∈ lw_tbl ∧ Cond.static yL_house ∈ lw_tbl := ⟨(tb_4 (List.mem_of_getElem? (i := 11) (by decide +kernel))), (tb_4 (List.mem_of_getElem? (i := 10) (by decide +kernel)))⟩
set_option maxHeartbeats 4000000 in
set_option maxRecDepth 100000 in
theorem kL_house {l : Launch} {G : GT} {Z : Nat → Nat × Nat} (ht : l.stackTraces = false) {V V2 : VT} {oa : Nat} {ov ov2 : Nat → Int64} {x1 : Int32} {x2 : Int32} {o : String ⊕ Int32} {rr : Int32} (h : fX9_house V x1 x2 = some (o, V2)) (hr : hL_house o ov = some (rr, ov2)) : HI l G (SH Z) yL_house (.codeWith yL_house cL_house 5 (some .int) [(0, 10, 13, 24), (0, 10, 17, 26)]) 10 2 [.ref (G.2.2 0), .int x1, .int x2, .ref oa] V oa ov rr V2 ov2 := by
  intro sz
  refine hmet_of (Qs := fun sz => QO G oa sz rr V2 ov2) (SH_ok Z) (by decide) (Nat.le_of_ble_eq_true rfl) ?_ sz
  intro p e s m args below meth c ls E htab hw hl
  have hx := E.1
  have hb := E.2.1
  have hl : lv_has ls 5 [(0, .ref (G.2.2 0)), (1, .int x1), (2, .int x2), (3, .ref oa)] := hl
  have hca : ∀ Ec, o = .inl Ec → ct_at RL [(0, 10, 13, 24), (0, 10, 17, 26)] 5 Ec (pL_house Ec) := by
    intro Ec e
    subst e
    unfold hL_house at hr
    dsimp only at hr
    by_cases c0 : Ec = "java/lang/IndexOutOfBoundsException"
    · subst c0
      exact ⟨[], { startPc := 0, endPc := 10, handlerPc := 13, catchType := 24 }, [{ startPc := 0, endPc := 10, handlerPc := 17, catchType := 26 }], rfl, (fun z hz => nomatch hz), by decide, by decide, ⟨_, lc_24, rfl⟩, by decide, tc_IndexOutOfBoundsException⟩
    · rw [if_neg c0] at hr
      by_cases c1 : Ec = "java/util/NoSuchElementException"
      · subst c1
        exact ⟨[{ startPc := 0, endPc := 10, handlerPc := 13, catchType := 24 }], { startPc := 0, endPc := 10, handlerPc := 17, catchType := 26 }, [], rfl, (fun z hz => by rw [List.mem_singleton.mp hz]; exact Or.inr ⟨by decide, "java/lang/IndexOutOfBoundsException", lc_24, by decide⟩), by decide, by decide, ⟨_, lc_26, rfl⟩, by decide, tc_NoSuchElementException⟩
      · rw [if_neg c1] at hr
        cases hr
  refine lv_aload_n hx hb dL_house_0 rfl (lv_at hl 3 rfl) ?_
  refine lv_iconst (v := (0 : Int32)) hx hb dL_house_1 (by decide) ?_
  refine lv_aload_n hx hb dL_house_2 rfl (lv_at hl 0 rfl) ?_
  refine lv_iload_n hx hb dL_house_3 rfl (lv_at hl 1 rfl) ?_
  refine lv_iload_n hx hb dL_house_4 rfl (lv_at hl 2 rfl) ?_
  refine h_VI (As := [.int x1, .int x2]) (hh := [(0, 10, 13, 24), (0, 10, 17, 26)]) (hp := pL_house) E hw (kX9_house (l := l) (G := G) (Z := Z) ht h) yy_X9_house lm_RL_20 rfl rfl hl.1 (by decide) (by decide) (by decide) rfl (Nat.le_of_ble_eq_true rfl) dL_house_5 htab hca (fun r H locs ho hw => ?_) (fun Ec q H locs ho hw => ?_)
  · subst ho
    unfold hL_house at hr
    dsimp only at hr
    cases hr
    refine lv_i2l hx hb dL_house_8 rfl ?_
    refine h_ls E hw vp_0_1 rfl dL_house_9 (fun H locs hw => ?_)
    refine lv_goto (tgt := 21) hx hb dL_house_10 (by decide) ?_
    refine lv_iconst (v := (0 : Int32)) hx hb dL_house_21 (by decide) ?_
    exact h_ri E hw (by decide) (by decide) dL_house_22
  · subst ho
    unfold hL_house at hr
    dsimp only at hr
    by_cases c0 : Ec = "java/lang/IndexOutOfBoundsException"
    · subst c0
      have hr : some ((1 : Int32), ov) = some (rr, ov2) := by simpa using hr
      cases hr
      refine lv_astore (lv' := [(4, .ref q), (0, .ref (G.2.2 0)), (1, .int x1), (2, .int x2), (3, .ref oa)]) hx hb dL_house_13 hl (by decide) rfl (fun ls hl => ?_)
      refine lv_iconst (v := (1 : Int32)) hx hb dL_house_15 (by decide) ?_
      exact h_ri E hw (by decide) (by decide) dL_house_16
    · rw [if_neg c0] at hr
      by_cases c1 : Ec = "java/util/NoSuchElementException"
      · subst c1
        have hr : some ((2 : Int32), ov) = some (rr, ov2) := by simpa using hr
        cases hr
        refine lv_astore (lv' := [(4, .ref q), (0, .ref (G.2.2 0)), (1, .int x1), (2, .int x2), (3, .ref oa)]) hx hb dL_house_17 hl (by decide) rfl (fun ls hl => ?_)
        refine lv_iconst (v := (2 : Int32)) hx hb dL_house_19 (by decide) ?_
        exact h_ri E hw (by decide) (by decide) dL_house_20
      · rw [if_neg c1] at hr
        cases hr
/-! deed -/
theorem dL_deed_0 : decode cL_deed 0 = .ok (.aload_n 3, 1) := by decide +kernel
theorem dL_deed_1 : decode cL_deed 1 = .ok (.iconst 0, 1) := by decide +kernel
theorem dL_deed_2 : decode cL_deed 2 = .ok (.aload_n 0, 1) := by decide +kernel
theorem dL_deed_3 : decode cL_deed 3 = .ok (.iload_n 1, 1) := by decide +kernel
theorem dL_deed_4 : decode cL_deed 4 = .ok (.iload_n 2, 1) := by decide +kernel
theorem dL_deed_5 : decode cL_deed 5 = .ok (.invokevirtual 28, 3) := by decide +kernel
theorem dL_deed_8 : decode cL_deed 8 = .ok (.i2l, 1) := by decide +kernel
theorem dL_deed_9 : decode cL_deed 9 = .ok (.lastore, 1) := by decide +kernel
theorem dL_deed_10 : decode cL_deed 10 = .ok (.goto 11, 3) := by decide +kernel
theorem dL_deed_13 : decode cL_deed 13 = .ok (.astore 4, 2) := by decide +kernel
theorem dL_deed_15 : decode cL_deed 15 = .ok (.iconst 1, 1) := by decide +kernel
theorem dL_deed_16 : decode cL_deed 16 = .ok (.ireturn, 1) := by decide +kernel
theorem dL_deed_17 : decode cL_deed 17 = .ok (.astore 4, 2) := by decide +kernel
theorem dL_deed_19 : decode cL_deed 19 = .ok (.iconst 2, 1) := by decide +kernel
theorem dL_deed_20 : decode cL_deed 20 = .ok (.ireturn, 1) := by decide +kernel
theorem dL_deed_21 : decode cL_deed 21 = .ok (.iconst 0, 1) := by decide +kernel
theorem dL_deed_22 : decode cL_deed 22 = .ok (.ireturn, 1) := by decide +kernel
def hL_deed (o : String ⊕ Int32) (ov : Nat → Int64) : Option (Int32 × (Nat → Int64)) := match o with
  | .inr r => some (0, vp_updL ov ((0 : Int32).toNatClampNeg) r.toInt64)
  | .inl E => if E = "java/lang/IndexOutOfBoundsException" then some (1, ov) else (if E = "java/util/NoSuchElementException" then some (2, ov) else (none))
def pL_deed (E : String) : Nat := if E = "java/lang/IndexOutOfBoundsException" then 13 else 17
theorem yw_L_deed : Cond.codeWith yL_deed cL_deed 5 (some .int) [(0, 10, 13, 24), (0, 10, 17, 26)] ∈ lw_tbl ∧ Cond.static yL_deed ∈ lw_tbl := ⟨(tb_4 (List.mem_of_getElem? (i := 84) (by decide +kernel))), (tb_4 (List.mem_of_getElem? (i := 83) (by decide +kernel)))⟩
set_option maxHeartbeats 4000000 in
set_option maxRecDepth 100000 in
theorem kL_deed {l : Launch} {G : GT} {Z : Nat → Nat × Nat} (ht : l.stackTraces = false) {V V2 : VT} {oa : Nat} {ov ov2 : Nat → Int64} {x1 : Int32} {x2 : Int32} {o : String ⊕ Int32} {rr : Int32} (h : fX9_deed V x1 x2 = some (o, V2)) (hr : hL_deed o ov = some (rr, ov2)) : HI l G (SH Z) yL_deed (.codeWith yL_deed cL_deed 5 (some .int) [(0, 10, 13, 24), (0, 10, 17, 26)]) 10 2 [.ref (G.2.2 0), .int x1, .int x2, .ref oa] V oa ov rr V2 ov2 := by
  intro sz
  refine hmet_of (Qs := fun sz => QO G oa sz rr V2 ov2) (SH_ok Z) (by decide) (Nat.le_of_ble_eq_true rfl) ?_ sz
  intro p e s m args below meth c ls E htab hw hl
  have hx := E.1
  have hb := E.2.1
  have hl : lv_has ls 5 [(0, .ref (G.2.2 0)), (1, .int x1), (2, .int x2), (3, .ref oa)] := hl
  have hca : ∀ Ec, o = .inl Ec → ct_at RL [(0, 10, 13, 24), (0, 10, 17, 26)] 5 Ec (pL_deed Ec) := by
    intro Ec e
    subst e
    unfold hL_deed at hr
    dsimp only at hr
    by_cases c0 : Ec = "java/lang/IndexOutOfBoundsException"
    · subst c0
      exact ⟨[], { startPc := 0, endPc := 10, handlerPc := 13, catchType := 24 }, [{ startPc := 0, endPc := 10, handlerPc := 17, catchType := 26 }], rfl, (fun z hz => nomatch hz), by decide, by decide, ⟨_, lc_24, rfl⟩, by decide, tc_IndexOutOfBoundsException⟩
    · rw [if_neg c0] at hr
      by_cases c1 : Ec = "java/util/NoSuchElementException"
      · subst c1
        exact ⟨[{ startPc := 0, endPc := 10, handlerPc := 13, catchType := 24 }], { startPc := 0, endPc := 10, handlerPc := 17, catchType := 26 }, [], rfl, (fun z hz => by rw [List.mem_singleton.mp hz]; exact Or.inr ⟨by decide, "java/lang/IndexOutOfBoundsException", lc_24, by decide⟩), by decide, by decide, ⟨_, lc_26, rfl⟩, by decide, tc_NoSuchElementException⟩
      · rw [if_neg c1] at hr
        cases hr
  refine lv_aload_n hx hb dL_deed_0 rfl (lv_at hl 3 rfl) ?_
  refine lv_iconst (v := (0 : Int32)) hx hb dL_deed_1 (by decide) ?_
  refine lv_aload_n hx hb dL_deed_2 rfl (lv_at hl 0 rfl) ?_
  refine lv_iload_n hx hb dL_deed_3 rfl (lv_at hl 1 rfl) ?_
  refine lv_iload_n hx hb dL_deed_4 rfl (lv_at hl 2 rfl) ?_
  refine h_VI (As := [.int x1, .int x2]) (hh := [(0, 10, 13, 24), (0, 10, 17, 26)]) (hp := pL_deed) E hw (kX9_deed (l := l) (G := G) (Z := Z) ht h) yy_X9_deed lm_RL_28 rfl rfl hl.1 (by decide) (by decide) (by decide) rfl (Nat.le_of_ble_eq_true rfl) dL_deed_5 htab hca (fun r H locs ho hw => ?_) (fun Ec q H locs ho hw => ?_)
  · subst ho
    unfold hL_deed at hr
    dsimp only at hr
    cases hr
    refine lv_i2l hx hb dL_deed_8 rfl ?_
    refine h_ls E hw vp_0_1 rfl dL_deed_9 (fun H locs hw => ?_)
    refine lv_goto (tgt := 21) hx hb dL_deed_10 (by decide) ?_
    refine lv_iconst (v := (0 : Int32)) hx hb dL_deed_21 (by decide) ?_
    exact h_ri E hw (by decide) (by decide) dL_deed_22
  · subst ho
    unfold hL_deed at hr
    dsimp only at hr
    by_cases c0 : Ec = "java/lang/IndexOutOfBoundsException"
    · subst c0
      have hr : some ((1 : Int32), ov) = some (rr, ov2) := by simpa using hr
      cases hr
      refine lv_astore (lv' := [(4, .ref q), (0, .ref (G.2.2 0)), (1, .int x1), (2, .int x2), (3, .ref oa)]) hx hb dL_deed_13 hl (by decide) rfl (fun ls hl => ?_)
      refine lv_iconst (v := (1 : Int32)) hx hb dL_deed_15 (by decide) ?_
      exact h_ri E hw (by decide) (by decide) dL_deed_16
    · rw [if_neg c0] at hr
      by_cases c1 : Ec = "java/util/NoSuchElementException"
      · subst c1
        have hr : some ((2 : Int32), ov) = some (rr, ov2) := by simpa using hr
        cases hr
        refine lv_astore (lv' := [(4, .ref q), (0, .ref (G.2.2 0)), (1, .int x1), (2, .int x2), (3, .ref oa)]) hx hb dL_deed_17 hl (by decide) rfl (fun ls hl => ?_)
        refine lv_iconst (v := (2 : Int32)) hx hb dL_deed_19 (by decide) ?_
        exact h_ri E hw (by decide) (by decide) dL_deed_20
      · rw [if_neg c1] at hr
        cases hr
/-! sees -/
theorem dL_sees_0 : decode cL_sees 0 = .ok (.aload 4, 2) := by decide +kernel
theorem dL_sees_2 : decode cL_sees 2 = .ok (.iconst 0, 1) := by decide +kernel
theorem dL_sees_3 : decode cL_sees 3 = .ok (.aload_n 0, 1) := by decide +kernel
theorem dL_sees_4 : decode cL_sees 4 = .ok (.iload_n 1, 1) := by decide +kernel
theorem dL_sees_5 : decode cL_sees 5 = .ok (.iload_n 2, 1) := by decide +kernel
theorem dL_sees_6 : decode cL_sees 6 = .ok (.iload_n 3, 1) := by decide +kernel
theorem dL_sees_7 : decode cL_sees 7 = .ok (.invokevirtual 31, 3) := by decide +kernel
theorem dL_sees_10 : decode cL_sees 10 = .ok (.ifCond .eq 7, 3) := by decide +kernel
theorem dL_sees_13 : decode cL_sees 13 = .ok (.lconst 1, 1) := by decide +kernel
theorem dL_sees_14 : decode cL_sees 14 = .ok (.goto 4, 3) := by decide +kernel
theorem dL_sees_17 : decode cL_sees 17 = .ok (.lconst 0, 1) := by decide +kernel
theorem dL_sees_18 : decode cL_sees 18 = .ok (.lastore, 1) := by decide +kernel
theorem dL_sees_19 : decode cL_sees 19 = .ok (.goto 7, 3) := by decide +kernel
theorem dL_sees_22 : decode cL_sees 22 = .ok (.astore 5, 2) := by decide +kernel
theorem dL_sees_24 : decode cL_sees 24 = .ok (.iconst 1, 1) := by decide +kernel
theorem dL_sees_25 : decode cL_sees 25 = .ok (.ireturn, 1) := by decide +kernel
theorem dL_sees_26 : decode cL_sees 26 = .ok (.iconst 0, 1) := by decide +kernel
theorem dL_sees_27 : decode cL_sees 27 = .ok (.ireturn, 1) := by decide +kernel
def hL_sees (o : String ⊕ Int32) (ov : Nat → Int64) : Option (Int32 × (Nat → Int64)) := match o with
  | .inr r => some (0, vp_updL ov ((0 : Int32).toNatClampNeg) (if r = 0 then (0 : Int64) else (1 : Int64)))
  | .inl E => if E = "java/lang/IndexOutOfBoundsException" then some (1, ov) else (none)
def pL_sees (E : String) : Nat := 22
theorem yw_L_sees : Cond.codeWith yL_sees cL_sees 6 (some .int) [(0, 19, 22, 24)] ∈ lw_tbl ∧ Cond.static yL_sees ∈ lw_tbl := ⟨(tb_4 (List.mem_of_getElem? (i := 111) (by decide +kernel))), (tb_4 (List.mem_of_getElem? (i := 110) (by decide +kernel)))⟩
set_option maxHeartbeats 4000000 in
set_option maxRecDepth 100000 in
theorem kL_sees {l : Launch} {G : GT} {Z : Nat → Nat × Nat} (ht : l.stackTraces = false) {V V2 : VT} {oa : Nat} {ov ov2 : Nat → Int64} {x1 : Int32} {x2 : Int32} {x3 : Int32} {o : String ⊕ Int32} {rr : Int32} (h : fX9_sees V x1 x2 x3 = some (o, V2)) (hr : hL_sees o ov = some (rr, ov2)) : HI l G (SH Z) yL_sees (.codeWith yL_sees cL_sees 6 (some .int) [(0, 19, 22, 24)]) 10 3 [.ref (G.2.2 0), .int x1, .int x2, .int x3, .ref oa] V oa ov rr V2 ov2 := by
  intro sz
  refine hmet_of (Qs := fun sz => QO G oa sz rr V2 ov2) (SH_ok Z) (by decide) (Nat.le_of_ble_eq_true rfl) ?_ sz
  intro p e s m args below meth c ls E htab hw hl
  have hx := E.1
  have hb := E.2.1
  have hl : lv_has ls 6 [(0, .ref (G.2.2 0)), (1, .int x1), (2, .int x2), (3, .int x3), (4, .ref oa)] := hl
  have hca : ∀ Ec, o = .inl Ec → ct_at RL [(0, 19, 22, 24)] 7 Ec (pL_sees Ec) := by
    intro Ec e
    subst e
    unfold hL_sees at hr
    dsimp only at hr
    by_cases c0 : Ec = "java/lang/IndexOutOfBoundsException"
    · subst c0
      exact ⟨[], { startPc := 0, endPc := 19, handlerPc := 22, catchType := 24 }, [], rfl, (fun z hz => nomatch hz), by decide, by decide, ⟨_, lc_24, rfl⟩, by decide, tc_IndexOutOfBoundsException⟩
    · rw [if_neg c0] at hr
      cases hr
  refine lv_aload hx hb dL_sees_0 (lv_at hl 4 rfl) ?_
  refine lv_iconst (v := (0 : Int32)) hx hb dL_sees_2 (by decide) ?_
  refine lv_aload_n hx hb dL_sees_3 rfl (lv_at hl 0 rfl) ?_
  refine lv_iload_n hx hb dL_sees_4 rfl (lv_at hl 1 rfl) ?_
  refine lv_iload_n hx hb dL_sees_5 rfl (lv_at hl 2 rfl) ?_
  refine lv_iload_n hx hb dL_sees_6 rfl (lv_at hl 3 rfl) ?_
  refine h_VI (As := [.int x1, .int x2, .int x3]) (hh := [(0, 19, 22, 24)]) (hp := pL_sees) E hw (kX9_sees (l := l) (G := G) (Z := Z) ht h) yy_X9_sees lm_RL_31 rfl rfl hl.1 (by decide) (by decide) (by decide) rfl (Nat.le_of_ble_eq_true rfl) dL_sees_7 htab hca (fun r H locs ho hw => ?_) (fun Ec q H locs ho hw => ?_)
  · subst ho
    unfold hL_sees at hr
    dsimp only at hr
    refine lv_if_eq (tgt := 17) hx hb dL_sees_10 (by decide) (fun c9 => ?_) (fun c9 => ?_)
    · rw [if_pos c9] at hr
      cases hr
      refine lv_lconst (v := (0 : Int64)) hx hb dL_sees_17 (by decide) ?_
      refine h_ls E hw vp_0_1 rfl dL_sees_18 (fun H locs hw => ?_)
      refine lv_goto (tgt := 26) hx hb dL_sees_19 (by decide) ?_
      refine lv_iconst (v := (0 : Int32)) hx hb dL_sees_26 (by decide) ?_
      exact h_ri E hw (by decide) (by decide) dL_sees_27
    · rw [if_neg c9] at hr
      cases hr
      refine lv_lconst (v := (1 : Int64)) hx hb dL_sees_13 (by decide) ?_
      refine lv_goto (tgt := 18) hx hb dL_sees_14 (by decide) ?_
      refine h_ls E hw vp_0_1 rfl dL_sees_18 (fun H locs hw => ?_)
      refine lv_goto (tgt := 26) hx hb dL_sees_19 (by decide) ?_
      refine lv_iconst (v := (0 : Int32)) hx hb dL_sees_26 (by decide) ?_
      exact h_ri E hw (by decide) (by decide) dL_sees_27
  · subst ho
    unfold hL_sees at hr
    dsimp only at hr
    by_cases c0 : Ec = "java/lang/IndexOutOfBoundsException"
    · subst c0
      have hr : some ((1 : Int32), ov) = some (rr, ov2) := by simpa using hr
      cases hr
      refine lv_astore (lv' := [(5, .ref q), (0, .ref (G.2.2 0)), (1, .int x1), (2, .int x2), (3, .int x3), (4, .ref oa)]) hx hb dL_sees_22 hl (by decide) rfl (fun ls hl => ?_)
      refine lv_iconst (v := (1 : Int32)) hx hb dL_sees_24 (by decide) ?_
      exact h_ri E hw (by decide) (by decide) dL_sees_25
    · rw [if_neg c0] at hr
      cases hr
/-! done -/
theorem dL_done_0 : decode cL_done 0 = .ok (.aload_n 2, 1) := by decide +kernel
theorem dL_done_1 : decode cL_done 1 = .ok (.iconst 0, 1) := by decide +kernel
theorem dL_done_2 : decode cL_done 2 = .ok (.aload_n 0, 1) := by decide +kernel
theorem dL_done_3 : decode cL_done 3 = .ok (.iload_n 1, 1) := by decide +kernel
theorem dL_done_4 : decode cL_done 4 = .ok (.invokevirtual 35, 3) := by decide +kernel
theorem dL_done_7 : decode cL_done 7 = .ok (.i2l, 1) := by decide +kernel
theorem dL_done_8 : decode cL_done 8 = .ok (.lastore, 1) := by decide +kernel
theorem dL_done_9 : decode cL_done 9 = .ok (.goto 9, 3) := by decide +kernel
theorem dL_done_12 : decode cL_done 12 = .ok (.astore_n 3, 1) := by decide +kernel
theorem dL_done_13 : decode cL_done 13 = .ok (.iconst 1, 1) := by decide +kernel
theorem dL_done_14 : decode cL_done 14 = .ok (.ireturn, 1) := by decide +kernel
theorem dL_done_15 : decode cL_done 15 = .ok (.astore_n 3, 1) := by decide +kernel
theorem dL_done_16 : decode cL_done 16 = .ok (.iconst 2, 1) := by decide +kernel
theorem dL_done_17 : decode cL_done 17 = .ok (.ireturn, 1) := by decide +kernel
theorem dL_done_18 : decode cL_done 18 = .ok (.iconst 0, 1) := by decide +kernel
theorem dL_done_19 : decode cL_done 19 = .ok (.ireturn, 1) := by decide +kernel
def hL_done (o : String ⊕ Int32) (ov : Nat → Int64) : Option (Int32 × (Nat → Int64)) := match o with
  | .inr r => some (0, vp_updL ov ((0 : Int32).toNatClampNeg) r.toInt64)
  | .inl E => if E = "java/lang/IndexOutOfBoundsException" then some (1, ov) else (if E = "java/lang/IllegalStateException" then some (2, ov) else (none))
def pL_done (E : String) : Nat := if E = "java/lang/IndexOutOfBoundsException" then 12 else 15
theorem yw_L_done : Cond.codeWith yL_done cL_done 4 (some .int) [(0, 9, 12, 24), (0, 9, 15, 39)] ∈ lw_tbl ∧ Cond.static yL_done ∈ lw_tbl := ⟨(tb_4 (List.mem_of_getElem? (i := 127) (by decide +kernel))), (tb_4 (List.mem_of_getElem? (i := 126) (by decide +kernel)))⟩
set_option maxHeartbeats 4000000 in
set_option maxRecDepth 100000 in
theorem kL_done {l : Launch} {G : GT} {Z : Nat → Nat × Nat} (ht : l.stackTraces = false) {V V2 : VT} {oa : Nat} {ov ov2 : Nat → Int64} {x1 : Int32} {o : String ⊕ Int32} {rr : Int32} (h : fX9_done V x1 = some (o, V2)) (hr : hL_done o ov = some (rr, ov2)) : HI l G (SH Z) yL_done (.codeWith yL_done cL_done 4 (some .int) [(0, 9, 12, 24), (0, 9, 15, 39)]) 10 2 [.ref (G.2.2 0), .int x1, .ref oa] V oa ov rr V2 ov2 := by
  intro sz
  refine hmet_of (Qs := fun sz => QO G oa sz rr V2 ov2) (SH_ok Z) (by decide) (Nat.le_of_ble_eq_true rfl) ?_ sz
  intro p e s m args below meth c ls E htab hw hl
  have hx := E.1
  have hb := E.2.1
  have hl : lv_has ls 4 [(0, .ref (G.2.2 0)), (1, .int x1), (2, .ref oa)] := hl
  have hca : ∀ Ec, o = .inl Ec → ct_at RL [(0, 9, 12, 24), (0, 9, 15, 39)] 4 Ec (pL_done Ec) := by
    intro Ec e
    subst e
    unfold hL_done at hr
    dsimp only at hr
    by_cases c0 : Ec = "java/lang/IndexOutOfBoundsException"
    · subst c0
      exact ⟨[], { startPc := 0, endPc := 9, handlerPc := 12, catchType := 24 }, [{ startPc := 0, endPc := 9, handlerPc := 15, catchType := 39 }], rfl, (fun z hz => nomatch hz), by decide, by decide, ⟨_, lc_24, rfl⟩, by decide, tc_IndexOutOfBoundsException⟩
    · rw [if_neg c0] at hr
      by_cases c1 : Ec = "java/lang/IllegalStateException"
      · subst c1
        exact ⟨[{ startPc := 0, endPc := 9, handlerPc := 12, catchType := 24 }], { startPc := 0, endPc := 9, handlerPc := 15, catchType := 39 }, [], rfl, (fun z hz => by rw [List.mem_singleton.mp hz]; exact Or.inr ⟨by decide, "java/lang/IndexOutOfBoundsException", lc_24, by decide⟩), by decide, by decide, ⟨_, lc_39, rfl⟩, by decide, tc_IllegalStateException⟩
      · rw [if_neg c1] at hr
        cases hr
  refine lv_aload_n hx hb dL_done_0 rfl (lv_at hl 2 rfl) ?_
  refine lv_iconst (v := (0 : Int32)) hx hb dL_done_1 (by decide) ?_
  refine lv_aload_n hx hb dL_done_2 rfl (lv_at hl 0 rfl) ?_
  refine lv_iload_n hx hb dL_done_3 rfl (lv_at hl 1 rfl) ?_
  refine h_VI (As := [.int x1]) (hh := [(0, 9, 12, 24), (0, 9, 15, 39)]) (hp := pL_done) E hw (kX9_done (l := l) (G := G) (Z := Z) ht h) yy_X9_done lm_RL_35 rfl rfl hl.1 (by decide) (by decide) (by decide) rfl (Nat.le_of_ble_eq_true rfl) dL_done_4 htab hca (fun r H locs ho hw => ?_) (fun Ec q H locs ho hw => ?_)
  · subst ho
    unfold hL_done at hr
    dsimp only at hr
    cases hr
    refine lv_i2l hx hb dL_done_7 rfl ?_
    refine h_ls E hw vp_0_1 rfl dL_done_8 (fun H locs hw => ?_)
    refine lv_goto (tgt := 18) hx hb dL_done_9 (by decide) ?_
    refine lv_iconst (v := (0 : Int32)) hx hb dL_done_18 (by decide) ?_
    exact h_ri E hw (by decide) (by decide) dL_done_19
  · subst ho
    unfold hL_done at hr
    dsimp only at hr
    by_cases c0 : Ec = "java/lang/IndexOutOfBoundsException"
    · subst c0
      have hr : some ((1 : Int32), ov) = some (rr, ov2) := by simpa using hr
      cases hr
      refine lv_astore_n (lv' := [(3, .ref q), (0, .ref (G.2.2 0)), (1, .int x1), (2, .ref oa)]) hx hb dL_done_12 rfl hl (by decide) rfl (fun ls hl => ?_)
      refine lv_iconst (v := (1 : Int32)) hx hb dL_done_13 (by decide) ?_
      exact h_ri E hw (by decide) (by decide) dL_done_14
    · rw [if_neg c0] at hr
      by_cases c1 : Ec = "java/lang/IllegalStateException"
      · subst c1
        have hr : some ((2 : Int32), ov) = some (rr, ov2) := by simpa using hr
        cases hr
        refine lv_astore_n (lv' := [(3, .ref q), (0, .ref (G.2.2 0)), (1, .int x1), (2, .ref oa)]) hx hb dL_done_15 rfl hl (by decide) rfl (fun ls hl => ?_)
        refine lv_iconst (v := (2 : Int32)) hx hb dL_done_16 (by decide) ?_
        exact h_ri E hw (by decide) (by decide) dL_done_17
      · rw [if_neg c1] at hr
        cases hr
/-! say -/
theorem dL_say_0 : decode cL_say 0 = .ok (.aload_n 3, 1) := by decide +kernel
theorem dL_say_1 : decode cL_say 1 = .ok (.iconst 0, 1) := by decide +kernel
theorem dL_say_2 : decode cL_say 2 = .ok (.aload_n 0, 1) := by decide +kernel
theorem dL_say_3 : decode cL_say 3 = .ok (.iload_n 1, 1) := by decide +kernel
theorem dL_say_4 : decode cL_say 4 = .ok (.iload_n 2, 1) := by decide +kernel
theorem dL_say_5 : decode cL_say 5 = .ok (.invokevirtual 41, 3) := by decide +kernel
theorem dL_say_8 : decode cL_say 8 = .ok (.ifCond .eq 7, 3) := by decide +kernel
theorem dL_say_11 : decode cL_say 11 = .ok (.lconst 1, 1) := by decide +kernel
theorem dL_say_12 : decode cL_say 12 = .ok (.goto 4, 3) := by decide +kernel
theorem dL_say_15 : decode cL_say 15 = .ok (.lconst 0, 1) := by decide +kernel
theorem dL_say_16 : decode cL_say 16 = .ok (.lastore, 1) := by decide +kernel
theorem dL_say_17 : decode cL_say 17 = .ok (.goto 11, 3) := by decide +kernel
theorem dL_say_20 : decode cL_say 20 = .ok (.astore 4, 2) := by decide +kernel
theorem dL_say_22 : decode cL_say 22 = .ok (.iconst 1, 1) := by decide +kernel
theorem dL_say_23 : decode cL_say 23 = .ok (.ireturn, 1) := by decide +kernel
theorem dL_say_24 : decode cL_say 24 = .ok (.astore 4, 2) := by decide +kernel
theorem dL_say_26 : decode cL_say 26 = .ok (.iconst 2, 1) := by decide +kernel
theorem dL_say_27 : decode cL_say 27 = .ok (.ireturn, 1) := by decide +kernel
theorem dL_say_28 : decode cL_say 28 = .ok (.iconst 0, 1) := by decide +kernel
theorem dL_say_29 : decode cL_say 29 = .ok (.ireturn, 1) := by decide +kernel
def hL_say (o : String ⊕ Int32) (ov : Nat → Int64) : Option (Int32 × (Nat → Int64)) := match o with
  | .inr r => some (0, vp_updL ov ((0 : Int32).toNatClampNeg) (if r = 0 then (0 : Int64) else (1 : Int64)))
  | .inl E => if E = "java/lang/IndexOutOfBoundsException" then some (1, ov) else (if E = "java/lang/IllegalStateException" then some (2, ov) else (none))
def pL_say (E : String) : Nat := if E = "java/lang/IndexOutOfBoundsException" then 20 else 24
theorem yw_L_say : Cond.codeWith yL_say cL_say 5 (some .int) [(0, 17, 20, 24), (0, 17, 24, 39)] ∈ lw_tbl ∧ Cond.static yL_say ∈ lw_tbl := ⟨(tb_4 (List.mem_of_getElem? (i := 162) (by decide +kernel))), (tb_4 (List.mem_of_getElem? (i := 161) (by decide +kernel)))⟩
set_option maxHeartbeats 4000000 in
set_option maxRecDepth 100000 in
theorem kL_say {l : Launch} {G : GT} {Z : Nat → Nat × Nat} (ht : l.stackTraces = false) {V V2 : VT} {oa : Nat} {ov ov2 : Nat → Int64} {x1 : Int32} {x2 : Int32} {o : String ⊕ Int32} {rr : Int32} (h : fX9_say V x1 x2 = some (o, V2)) (hr : hL_say o ov = some (rr, ov2)) : HI l G (SH Z) yL_say (.codeWith yL_say cL_say 5 (some .int) [(0, 17, 20, 24), (0, 17, 24, 39)]) 10 3 [.ref (G.2.2 0), .int x1, .int x2, .ref oa] V oa ov rr V2 ov2 := by
  intro sz
  refine hmet_of (Qs := fun sz => QO G oa sz rr V2 ov2) (SH_ok Z) (by decide) (Nat.le_of_ble_eq_true rfl) ?_ sz
  intro p e s m args below meth c ls E htab hw hl
  have hx := E.1
  have hb := E.2.1
  have hl : lv_has ls 5 [(0, .ref (G.2.2 0)), (1, .int x1), (2, .int x2), (3, .ref oa)] := hl
  have hca : ∀ Ec, o = .inl Ec → ct_at RL [(0, 17, 20, 24), (0, 17, 24, 39)] 5 Ec (pL_say Ec) := by
    intro Ec e
    subst e
    unfold hL_say at hr
    dsimp only at hr
    by_cases c0 : Ec = "java/lang/IndexOutOfBoundsException"
    · subst c0
      exact ⟨[], { startPc := 0, endPc := 17, handlerPc := 20, catchType := 24 }, [{ startPc := 0, endPc := 17, handlerPc := 24, catchType := 39 }], rfl, (fun z hz => nomatch hz), by decide, by decide, ⟨_, lc_24, rfl⟩, by decide, tc_IndexOutOfBoundsException⟩
    · rw [if_neg c0] at hr
      by_cases c1 : Ec = "java/lang/IllegalStateException"
      · subst c1
        exact ⟨[{ startPc := 0, endPc := 17, handlerPc := 20, catchType := 24 }], { startPc := 0, endPc := 17, handlerPc := 24, catchType := 39 }, [], rfl, (fun z hz => by rw [List.mem_singleton.mp hz]; exact Or.inr ⟨by decide, "java/lang/IndexOutOfBoundsException", lc_24, by decide⟩), by decide, by decide, ⟨_, lc_39, rfl⟩, by decide, tc_IllegalStateException⟩
      · rw [if_neg c1] at hr
        cases hr
  refine lv_aload_n hx hb dL_say_0 rfl (lv_at hl 3 rfl) ?_
  refine lv_iconst (v := (0 : Int32)) hx hb dL_say_1 (by decide) ?_
  refine lv_aload_n hx hb dL_say_2 rfl (lv_at hl 0 rfl) ?_
  refine lv_iload_n hx hb dL_say_3 rfl (lv_at hl 1 rfl) ?_
  refine lv_iload_n hx hb dL_say_4 rfl (lv_at hl 2 rfl) ?_
  refine h_VI (As := [.int x1, .int x2]) (hh := [(0, 17, 20, 24), (0, 17, 24, 39)]) (hp := pL_say) E hw (kX9_say (l := l) (G := G) (Z := Z) ht h) yy_X9_say lm_RL_41 rfl rfl hl.1 (by decide) (by decide) (by decide) rfl (Nat.le_of_ble_eq_true rfl) dL_say_5 htab hca (fun r H locs ho hw => ?_) (fun Ec q H locs ho hw => ?_)
  · subst ho
    unfold hL_say at hr
    dsimp only at hr
    refine lv_if_eq (tgt := 15) hx hb dL_say_8 (by decide) (fun c9 => ?_) (fun c9 => ?_)
    · rw [if_pos c9] at hr
      cases hr
      refine lv_lconst (v := (0 : Int64)) hx hb dL_say_15 (by decide) ?_
      refine h_ls E hw vp_0_1 rfl dL_say_16 (fun H locs hw => ?_)
      refine lv_goto (tgt := 28) hx hb dL_say_17 (by decide) ?_
      refine lv_iconst (v := (0 : Int32)) hx hb dL_say_28 (by decide) ?_
      exact h_ri E hw (by decide) (by decide) dL_say_29
    · rw [if_neg c9] at hr
      cases hr
      refine lv_lconst (v := (1 : Int64)) hx hb dL_say_11 (by decide) ?_
      refine lv_goto (tgt := 16) hx hb dL_say_12 (by decide) ?_
      refine h_ls E hw vp_0_1 rfl dL_say_16 (fun H locs hw => ?_)
      refine lv_goto (tgt := 28) hx hb dL_say_17 (by decide) ?_
      refine lv_iconst (v := (0 : Int32)) hx hb dL_say_28 (by decide) ?_
      exact h_ri E hw (by decide) (by decide) dL_say_29
  · subst ho
    unfold hL_say at hr
    dsimp only at hr
    by_cases c0 : Ec = "java/lang/IndexOutOfBoundsException"
    · subst c0
      have hr : some ((1 : Int32), ov) = some (rr, ov2) := by simpa using hr
      cases hr
      refine lv_astore (lv' := [(4, .ref q), (0, .ref (G.2.2 0)), (1, .int x1), (2, .int x2), (3, .ref oa)]) hx hb dL_say_20 hl (by decide) rfl (fun ls hl => ?_)
      refine lv_iconst (v := (1 : Int32)) hx hb dL_say_22 (by decide) ?_
      exact h_ri E hw (by decide) (by decide) dL_say_23
    · rw [if_neg c0] at hr
      by_cases c1 : Ec = "java/lang/IllegalStateException"
      · subst c1
        have hr : some ((2 : Int32), ov) = some (rr, ov2) := by simpa using hr
        cases hr
        refine lv_astore (lv' := [(4, .ref q), (0, .ref (G.2.2 0)), (1, .int x1), (2, .int x2), (3, .ref oa)]) hx hb dL_say_24 hl (by decide) rfl (fun ls hl => ?_)
        refine lv_iconst (v := (2 : Int32)) hx hb dL_say_26 (by decide) ?_
        exact h_ri E hw (by decide) (by decide) dL_say_27
      · rw [if_neg c1] at hr
        cases hr
/-! away -/
theorem dL_away_0 : decode cL_away 0 = .ok (.aload_n 3, 1) := by decide +kernel
theorem dL_away_1 : decode cL_away 1 = .ok (.iconst 0, 1) := by decide +kernel
theorem dL_away_2 : decode cL_away 2 = .ok (.aload_n 0, 1) := by decide +kernel
theorem dL_away_3 : decode cL_away 3 = .ok (.iload_n 1, 1) := by decide +kernel
theorem dL_away_4 : decode cL_away 4 = .ok (.iload_n 2, 1) := by decide +kernel
theorem dL_away_5 : decode cL_away 5 = .ok (.invokevirtual 45, 3) := by decide +kernel
theorem dL_away_8 : decode cL_away 8 = .ok (.ifCond .eq 7, 3) := by decide +kernel
theorem dL_away_11 : decode cL_away 11 = .ok (.lconst 1, 1) := by decide +kernel
theorem dL_away_12 : decode cL_away 12 = .ok (.goto 4, 3) := by decide +kernel
theorem dL_away_15 : decode cL_away 15 = .ok (.lconst 0, 1) := by decide +kernel
theorem dL_away_16 : decode cL_away 16 = .ok (.lastore, 1) := by decide +kernel
theorem dL_away_17 : decode cL_away 17 = .ok (.goto 7, 3) := by decide +kernel
theorem dL_away_20 : decode cL_away 20 = .ok (.astore 4, 2) := by decide +kernel
theorem dL_away_22 : decode cL_away 22 = .ok (.iconst 1, 1) := by decide +kernel
theorem dL_away_23 : decode cL_away 23 = .ok (.ireturn, 1) := by decide +kernel
theorem dL_away_24 : decode cL_away 24 = .ok (.iconst 0, 1) := by decide +kernel
theorem dL_away_25 : decode cL_away 25 = .ok (.ireturn, 1) := by decide +kernel
def hL_away (o : String ⊕ Int32) (ov : Nat → Int64) : Option (Int32 × (Nat → Int64)) := match o with
  | .inr r => some (0, vp_updL ov ((0 : Int32).toNatClampNeg) (if r = 0 then (0 : Int64) else (1 : Int64)))
  | .inl E => if E = "java/lang/IndexOutOfBoundsException" then some (1, ov) else (none)
def pL_away (E : String) : Nat := 20
theorem yw_L_away : Cond.codeWith yL_away cL_away 5 (some .int) [(0, 17, 20, 24)] ∈ lw_tbl ∧ Cond.static yL_away ∈ lw_tbl := ⟨(tb_4 (List.mem_of_getElem? (i := 188) (by decide +kernel))), (tb_4 (List.mem_of_getElem? (i := 187) (by decide +kernel)))⟩
set_option maxHeartbeats 4000000 in
set_option maxRecDepth 100000 in
theorem kL_away {l : Launch} {G : GT} {Z : Nat → Nat × Nat} (ht : l.stackTraces = false) {V V2 : VT} {oa : Nat} {ov ov2 : Nat → Int64} {x1 : Int32} {x2 : Int32} {o : String ⊕ Int32} {rr : Int32} (h : fX9_away V x1 x2 = some (o, V2)) (hr : hL_away o ov = some (rr, ov2)) : HI l G (SH Z) yL_away (.codeWith yL_away cL_away 5 (some .int) [(0, 17, 20, 24)]) 10 1 [.ref (G.2.2 0), .int x1, .int x2, .ref oa] V oa ov rr V2 ov2 := by
  intro sz
  refine hmet_of (Qs := fun sz => QO G oa sz rr V2 ov2) (SH_ok Z) (by decide) (Nat.le_of_ble_eq_true rfl) ?_ sz
  intro p e s m args below meth c ls E htab hw hl
  have hx := E.1
  have hb := E.2.1
  have hl : lv_has ls 5 [(0, .ref (G.2.2 0)), (1, .int x1), (2, .int x2), (3, .ref oa)] := hl
  have hca : ∀ Ec, o = .inl Ec → ct_at RL [(0, 17, 20, 24)] 5 Ec (pL_away Ec) := by
    intro Ec e
    subst e
    unfold hL_away at hr
    dsimp only at hr
    by_cases c0 : Ec = "java/lang/IndexOutOfBoundsException"
    · subst c0
      exact ⟨[], { startPc := 0, endPc := 17, handlerPc := 20, catchType := 24 }, [], rfl, (fun z hz => nomatch hz), by decide, by decide, ⟨_, lc_24, rfl⟩, by decide, tc_IndexOutOfBoundsException⟩
    · rw [if_neg c0] at hr
      cases hr
  refine lv_aload_n hx hb dL_away_0 rfl (lv_at hl 3 rfl) ?_
  refine lv_iconst (v := (0 : Int32)) hx hb dL_away_1 (by decide) ?_
  refine lv_aload_n hx hb dL_away_2 rfl (lv_at hl 0 rfl) ?_
  refine lv_iload_n hx hb dL_away_3 rfl (lv_at hl 1 rfl) ?_
  refine lv_iload_n hx hb dL_away_4 rfl (lv_at hl 2 rfl) ?_
  refine h_VI (As := [.int x1, .int x2]) (hh := [(0, 17, 20, 24)]) (hp := pL_away) E hw (kX9_away (l := l) (G := G) (Z := Z) ht h) yy_X9_away lm_RL_45 rfl rfl hl.1 (by decide) (by decide) (by decide) rfl (Nat.le_of_ble_eq_true rfl) dL_away_5 htab hca (fun r H locs ho hw => ?_) (fun Ec q H locs ho hw => ?_)
  · subst ho
    unfold hL_away at hr
    dsimp only at hr
    refine lv_if_eq (tgt := 15) hx hb dL_away_8 (by decide) (fun c9 => ?_) (fun c9 => ?_)
    · rw [if_pos c9] at hr
      cases hr
      refine lv_lconst (v := (0 : Int64)) hx hb dL_away_15 (by decide) ?_
      refine h_ls E hw vp_0_1 rfl dL_away_16 (fun H locs hw => ?_)
      refine lv_goto (tgt := 24) hx hb dL_away_17 (by decide) ?_
      refine lv_iconst (v := (0 : Int32)) hx hb dL_away_24 (by decide) ?_
      exact h_ri E hw (by decide) (by decide) dL_away_25
    · rw [if_neg c9] at hr
      cases hr
      refine lv_lconst (v := (1 : Int64)) hx hb dL_away_11 (by decide) ?_
      refine lv_goto (tgt := 16) hx hb dL_away_12 (by decide) ?_
      refine h_ls E hw vp_0_1 rfl dL_away_16 (fun H locs hw => ?_)
      refine lv_goto (tgt := 24) hx hb dL_away_17 (by decide) ?_
      refine lv_iconst (v := (0 : Int32)) hx hb dL_away_24 (by decide) ?_
      exact h_ri E hw (by decide) (by decide) dL_away_25
  · subst ho
    unfold hL_away at hr
    dsimp only at hr
    by_cases c0 : Ec = "java/lang/IndexOutOfBoundsException"
    · subst c0
      have hr : some ((1 : Int32), ov) = some (rr, ov2) := by simpa using hr
      cases hr
      refine lv_astore (lv' := [(4, .ref q), (0, .ref (G.2.2 0)), (1, .int x1), (2, .int x2), (3, .ref oa)]) hx hb dL_away_20 hl (by decide) rfl (fun ls hl => ?_)
      refine lv_iconst (v := (1 : Int32)) hx hb dL_away_22 (by decide) ?_
      exact h_ri E hw (by decide) (by decide) dL_away_23
    · rw [if_neg c0] at hr
      cases hr
/-! mirror -/
theorem dL_mirror_0 : decode cL_mirror 0 = .ok (.aload_n 2, 1) := by decide +kernel
theorem dL_mirror_1 : decode cL_mirror 1 = .ok (.iconst 0, 1) := by decide +kernel
theorem dL_mirror_2 : decode cL_mirror 2 = .ok (.aload_n 0, 1) := by decide +kernel
theorem dL_mirror_3 : decode cL_mirror 3 = .ok (.iload_n 1, 1) := by decide +kernel
theorem dL_mirror_4 : decode cL_mirror 4 = .ok (.invokevirtual 49, 3) := by decide +kernel
theorem dL_mirror_7 : decode cL_mirror 7 = .ok (.i2l, 1) := by decide +kernel
theorem dL_mirror_8 : decode cL_mirror 8 = .ok (.lastore, 1) := by decide +kernel
theorem dL_mirror_9 : decode cL_mirror 9 = .ok (.goto 9, 3) := by decide +kernel
theorem dL_mirror_12 : decode cL_mirror 12 = .ok (.astore_n 3, 1) := by decide +kernel
theorem dL_mirror_13 : decode cL_mirror 13 = .ok (.iconst 1, 1) := by decide +kernel
theorem dL_mirror_14 : decode cL_mirror 14 = .ok (.ireturn, 1) := by decide +kernel
theorem dL_mirror_15 : decode cL_mirror 15 = .ok (.astore_n 3, 1) := by decide +kernel
theorem dL_mirror_16 : decode cL_mirror 16 = .ok (.iconst 2, 1) := by decide +kernel
theorem dL_mirror_17 : decode cL_mirror 17 = .ok (.ireturn, 1) := by decide +kernel
theorem dL_mirror_18 : decode cL_mirror 18 = .ok (.iconst 0, 1) := by decide +kernel
theorem dL_mirror_19 : decode cL_mirror 19 = .ok (.ireturn, 1) := by decide +kernel
def hL_mirror (o : String ⊕ Int32) (ov : Nat → Int64) : Option (Int32 × (Nat → Int64)) := match o with
  | .inr r => some (0, vp_updL ov ((0 : Int32).toNatClampNeg) r.toInt64)
  | .inl E => if E = "java/lang/IndexOutOfBoundsException" then some (1, ov) else (if E = "java/lang/IllegalStateException" then some (2, ov) else (none))
def pL_mirror (E : String) : Nat := if E = "java/lang/IndexOutOfBoundsException" then 12 else 15
theorem yw_L_mirror : Cond.codeWith yL_mirror cL_mirror 4 (some .int) [(0, 9, 12, 24), (0, 9, 15, 39)] ∈ lw_tbl ∧ Cond.static yL_mirror ∈ lw_tbl := ⟨(tb_4 (List.mem_of_getElem? (i := 195) (by decide +kernel))), (tb_4 (List.mem_of_getElem? (i := 194) (by decide +kernel)))⟩
set_option maxHeartbeats 4000000 in
set_option maxRecDepth 100000 in
theorem kL_mirror {l : Launch} {G : GT} {Z : Nat → Nat × Nat} (ht : l.stackTraces = false) {V V2 : VT} {oa : Nat} {ov ov2 : Nat → Int64} {x1 : Int32} {o : String ⊕ Int32} {rr : Int32} (h : fX9_mirror V x1 = some (o, V2)) (hr : hL_mirror o ov = some (rr, ov2)) : HI l G (SH Z) yL_mirror (.codeWith yL_mirror cL_mirror 4 (some .int) [(0, 9, 12, 24), (0, 9, 15, 39)]) 10 2 [.ref (G.2.2 0), .int x1, .ref oa] V oa ov rr V2 ov2 := by
  intro sz
  refine hmet_of (Qs := fun sz => QO G oa sz rr V2 ov2) (SH_ok Z) (by decide) (Nat.le_of_ble_eq_true rfl) ?_ sz
  intro p e s m args below meth c ls E htab hw hl
  have hx := E.1
  have hb := E.2.1
  have hl : lv_has ls 4 [(0, .ref (G.2.2 0)), (1, .int x1), (2, .ref oa)] := hl
  have hca : ∀ Ec, o = .inl Ec → ct_at RL [(0, 9, 12, 24), (0, 9, 15, 39)] 4 Ec (pL_mirror Ec) := by
    intro Ec e
    subst e
    unfold hL_mirror at hr
    dsimp only at hr
    by_cases c0 : Ec = "java/lang/IndexOutOfBoundsException"
    · subst c0
      exact ⟨[], { startPc := 0, endPc := 9, handlerPc := 12, catchType := 24 }, [{ startPc := 0, endPc := 9, handlerPc := 15, catchType := 39 }], rfl, (fun z hz => nomatch hz), by decide, by decide, ⟨_, lc_24, rfl⟩, by decide, tc_IndexOutOfBoundsException⟩
    · rw [if_neg c0] at hr
      by_cases c1 : Ec = "java/lang/IllegalStateException"
      · subst c1
        exact ⟨[{ startPc := 0, endPc := 9, handlerPc := 12, catchType := 24 }], { startPc := 0, endPc := 9, handlerPc := 15, catchType := 39 }, [], rfl, (fun z hz => by rw [List.mem_singleton.mp hz]; exact Or.inr ⟨by decide, "java/lang/IndexOutOfBoundsException", lc_24, by decide⟩), by decide, by decide, ⟨_, lc_39, rfl⟩, by decide, tc_IllegalStateException⟩
      · rw [if_neg c1] at hr
        cases hr
  refine lv_aload_n hx hb dL_mirror_0 rfl (lv_at hl 2 rfl) ?_
  refine lv_iconst (v := (0 : Int32)) hx hb dL_mirror_1 (by decide) ?_
  refine lv_aload_n hx hb dL_mirror_2 rfl (lv_at hl 0 rfl) ?_
  refine lv_iload_n hx hb dL_mirror_3 rfl (lv_at hl 1 rfl) ?_
  refine h_VI (As := [.int x1]) (hh := [(0, 9, 12, 24), (0, 9, 15, 39)]) (hp := pL_mirror) E hw (kX9_mirror (l := l) (G := G) (Z := Z) ht h) yy_X9_mirror lm_RL_49 rfl rfl hl.1 (by decide) (by decide) (by decide) rfl (Nat.le_of_ble_eq_true rfl) dL_mirror_4 htab hca (fun r H locs ho hw => ?_) (fun Ec q H locs ho hw => ?_)
  · subst ho
    unfold hL_mirror at hr
    dsimp only at hr
    cases hr
    refine lv_i2l hx hb dL_mirror_7 rfl ?_
    refine h_ls E hw vp_0_1 rfl dL_mirror_8 (fun H locs hw => ?_)
    refine lv_goto (tgt := 18) hx hb dL_mirror_9 (by decide) ?_
    refine lv_iconst (v := (0 : Int32)) hx hb dL_mirror_18 (by decide) ?_
    exact h_ri E hw (by decide) (by decide) dL_mirror_19
  · subst ho
    unfold hL_mirror at hr
    dsimp only at hr
    by_cases c0 : Ec = "java/lang/IndexOutOfBoundsException"
    · subst c0
      have hr : some ((1 : Int32), ov) = some (rr, ov2) := by simpa using hr
      cases hr
      refine lv_astore_n (lv' := [(3, .ref q), (0, .ref (G.2.2 0)), (1, .int x1), (2, .ref oa)]) hx hb dL_mirror_12 rfl hl (by decide) rfl (fun ls hl => ?_)
      refine lv_iconst (v := (1 : Int32)) hx hb dL_mirror_13 (by decide) ?_
      exact h_ri E hw (by decide) (by decide) dL_mirror_14
    · rw [if_neg c0] at hr
      by_cases c1 : Ec = "java/lang/IllegalStateException"
      · subst c1
        have hr : some ((2 : Int32), ov) = some (rr, ov2) := by simpa using hr
        cases hr
        refine lv_astore_n (lv' := [(3, .ref q), (0, .ref (G.2.2 0)), (1, .int x1), (2, .ref oa)]) hx hb dL_mirror_15 rfl hl (by decide) rfl (fun ls hl => ?_)
        refine lv_iconst (v := (2 : Int32)) hx hb dL_mirror_16 (by decide) ?_
        exact h_ri E hw (by decide) (by decide) dL_mirror_17
      · rw [if_neg c1] at hr
        cases hr
/-! up -/
theorem dL_up_0 : decode cL_up 0 = .ok (.aload 4, 2) := by decide +kernel
theorem dL_up_2 : decode cL_up 2 = .ok (.iconst 0, 1) := by decide +kernel
theorem dL_up_3 : decode cL_up 3 = .ok (.aload_n 0, 1) := by decide +kernel
theorem dL_up_4 : decode cL_up 4 = .ok (.iload_n 1, 1) := by decide +kernel
theorem dL_up_5 : decode cL_up 5 = .ok (.iload_n 2, 1) := by decide +kernel
theorem dL_up_6 : decode cL_up 6 = .ok (.iload_n 3, 1) := by decide +kernel
theorem dL_up_7 : decode cL_up 7 = .ok (.invokevirtual 52, 3) := by decide +kernel
theorem dL_up_10 : decode cL_up 10 = .ok (.i2l, 1) := by decide +kernel
theorem dL_up_11 : decode cL_up 11 = .ok (.lastore, 1) := by decide +kernel
theorem dL_up_12 : decode cL_up 12 = .ok (.goto 11, 3) := by decide +kernel
theorem dL_up_15 : decode cL_up 15 = .ok (.astore 5, 2) := by decide +kernel
theorem dL_up_17 : decode cL_up 17 = .ok (.iconst 1, 1) := by decide +kernel
theorem dL_up_18 : decode cL_up 18 = .ok (.ireturn, 1) := by decide +kernel
theorem dL_up_19 : decode cL_up 19 = .ok (.astore 5, 2) := by decide +kernel
theorem dL_up_21 : decode cL_up 21 = .ok (.iconst 2, 1) := by decide +kernel
theorem dL_up_22 : decode cL_up 22 = .ok (.ireturn, 1) := by decide +kernel
theorem dL_up_23 : decode cL_up 23 = .ok (.iconst 0, 1) := by decide +kernel
theorem dL_up_24 : decode cL_up 24 = .ok (.ireturn, 1) := by decide +kernel
def hL_up (o : String ⊕ Int32) (ov : Nat → Int64) : Option (Int32 × (Nat → Int64)) := match o with
  | .inr r => some (0, vp_updL ov ((0 : Int32).toNatClampNeg) r.toInt64)
  | .inl E => if E = "java/lang/IndexOutOfBoundsException" then some (1, ov) else (if E = "java/lang/IllegalArgumentException" then some (2, ov) else (none))
def pL_up (E : String) : Nat := if E = "java/lang/IndexOutOfBoundsException" then 15 else 19
theorem yw_L_up : Cond.codeWith yL_up cL_up 6 (some .int) [(0, 12, 15, 24), (0, 12, 19, 13)] ∈ lw_tbl ∧ Cond.static yL_up ∈ lw_tbl := ⟨(tb_4 (List.mem_of_getElem? (i := 204) (by decide +kernel))), (tb_4 (List.mem_of_getElem? (i := 203) (by decide +kernel)))⟩
set_option maxHeartbeats 4000000 in
set_option maxRecDepth 100000 in
theorem kL_up {l : Launch} {G : GT} {Z : Nat → Nat × Nat} (ht : l.stackTraces = false) {V V2 : VT} {oa : Nat} {ov ov2 : Nat → Int64} {x1 : Int32} {x2 : Int32} {x3 : Int32} {o : String ⊕ Int32} {rr : Int32} (h : fX9_up V x1 x2 x3 = some (o, V2)) (hr : hL_up o ov = some (rr, ov2)) : HI l G (SH Z) yL_up (.codeWith yL_up cL_up 6 (some .int) [(0, 12, 15, 24), (0, 12, 19, 13)]) 10 3 [.ref (G.2.2 0), .int x1, .int x2, .int x3, .ref oa] V oa ov rr V2 ov2 := by
  intro sz
  refine hmet_of (Qs := fun sz => QO G oa sz rr V2 ov2) (SH_ok Z) (by decide) (Nat.le_of_ble_eq_true rfl) ?_ sz
  intro p e s m args below meth c ls E htab hw hl
  have hx := E.1
  have hb := E.2.1
  have hl : lv_has ls 6 [(0, .ref (G.2.2 0)), (1, .int x1), (2, .int x2), (3, .int x3), (4, .ref oa)] := hl
  have hca : ∀ Ec, o = .inl Ec → ct_at RL [(0, 12, 15, 24), (0, 12, 19, 13)] 7 Ec (pL_up Ec) := by
    intro Ec e
    subst e
    unfold hL_up at hr
    dsimp only at hr
    by_cases c0 : Ec = "java/lang/IndexOutOfBoundsException"
    · subst c0
      exact ⟨[], { startPc := 0, endPc := 12, handlerPc := 15, catchType := 24 }, [{ startPc := 0, endPc := 12, handlerPc := 19, catchType := 13 }], rfl, (fun z hz => nomatch hz), by decide, by decide, ⟨_, lc_24, rfl⟩, by decide, tc_IndexOutOfBoundsException⟩
    · rw [if_neg c0] at hr
      by_cases c1 : Ec = "java/lang/IllegalArgumentException"
      · subst c1
        exact ⟨[{ startPc := 0, endPc := 12, handlerPc := 15, catchType := 24 }], { startPc := 0, endPc := 12, handlerPc := 19, catchType := 13 }, [], rfl, (fun z hz => by rw [List.mem_singleton.mp hz]; exact Or.inr ⟨by decide, "java/lang/IndexOutOfBoundsException", lc_24, by decide⟩), by decide, by decide, ⟨_, lc_13, rfl⟩, by decide, tc_IllegalArgumentException⟩
      · rw [if_neg c1] at hr
        cases hr
  refine lv_aload hx hb dL_up_0 (lv_at hl 4 rfl) ?_
  refine lv_iconst (v := (0 : Int32)) hx hb dL_up_2 (by decide) ?_
  refine lv_aload_n hx hb dL_up_3 rfl (lv_at hl 0 rfl) ?_
  refine lv_iload_n hx hb dL_up_4 rfl (lv_at hl 1 rfl) ?_
  refine lv_iload_n hx hb dL_up_5 rfl (lv_at hl 2 rfl) ?_
  refine lv_iload_n hx hb dL_up_6 rfl (lv_at hl 3 rfl) ?_
  refine h_VI (As := [.int x1, .int x2, .int x3]) (hh := [(0, 12, 15, 24), (0, 12, 19, 13)]) (hp := pL_up) E hw (kX9_up (l := l) (G := G) (Z := Z) ht h) yy_X9_up lm_RL_52 rfl rfl hl.1 (by decide) (by decide) (by decide) rfl (Nat.le_of_ble_eq_true rfl) dL_up_7 htab hca (fun r H locs ho hw => ?_) (fun Ec q H locs ho hw => ?_)
  · subst ho
    unfold hL_up at hr
    dsimp only at hr
    cases hr
    refine lv_i2l hx hb dL_up_10 rfl ?_
    refine h_ls E hw vp_0_1 rfl dL_up_11 (fun H locs hw => ?_)
    refine lv_goto (tgt := 23) hx hb dL_up_12 (by decide) ?_
    refine lv_iconst (v := (0 : Int32)) hx hb dL_up_23 (by decide) ?_
    exact h_ri E hw (by decide) (by decide) dL_up_24
  · subst ho
    unfold hL_up at hr
    dsimp only at hr
    by_cases c0 : Ec = "java/lang/IndexOutOfBoundsException"
    · subst c0
      have hr : some ((1 : Int32), ov) = some (rr, ov2) := by simpa using hr
      cases hr
      refine lv_astore (lv' := [(5, .ref q), (0, .ref (G.2.2 0)), (1, .int x1), (2, .int x2), (3, .int x3), (4, .ref oa)]) hx hb dL_up_15 hl (by decide) rfl (fun ls hl => ?_)
      refine lv_iconst (v := (1 : Int32)) hx hb dL_up_17 (by decide) ?_
      exact h_ri E hw (by decide) (by decide) dL_up_18
    · rw [if_neg c0] at hr
      by_cases c1 : Ec = "java/lang/IllegalArgumentException"
      · subst c1
        have hr : some ((2 : Int32), ov) = some (rr, ov2) := by simpa using hr
        cases hr
        refine lv_astore (lv' := [(5, .ref q), (0, .ref (G.2.2 0)), (1, .int x1), (2, .int x2), (3, .int x3), (4, .ref oa)]) hx hb dL_up_19 hl (by decide) rfl (fun ls hl => ?_)
        refine lv_iconst (v := (2 : Int32)) hx hb dL_up_21 (by decide) ?_
        exact h_ri E hw (by decide) (by decide) dL_up_22
      · rw [if_neg c1] at hr
        cases hr
/-! spite -/
theorem dL_spite_0 : decode cL_spite 0 = .ok (.aload_n 3, 1) := by decide +kernel
theorem dL_spite_1 : decode cL_spite 1 = .ok (.iconst 0, 1) := by decide +kernel
theorem dL_spite_2 : decode cL_spite 2 = .ok (.aload_n 0, 1) := by decide +kernel
theorem dL_spite_3 : decode cL_spite 3 = .ok (.iload_n 1, 1) := by decide +kernel
theorem dL_spite_4 : decode cL_spite 4 = .ok (.iload_n 2, 1) := by decide +kernel
theorem dL_spite_5 : decode cL_spite 5 = .ok (.invokevirtual 56, 3) := by decide +kernel
theorem dL_spite_8 : decode cL_spite 8 = .ok (.i2l, 1) := by decide +kernel
theorem dL_spite_9 : decode cL_spite 9 = .ok (.lastore, 1) := by decide +kernel
theorem dL_spite_10 : decode cL_spite 10 = .ok (.goto 11, 3) := by decide +kernel
theorem dL_spite_13 : decode cL_spite 13 = .ok (.astore 4, 2) := by decide +kernel
theorem dL_spite_15 : decode cL_spite 15 = .ok (.iconst 1, 1) := by decide +kernel
theorem dL_spite_16 : decode cL_spite 16 = .ok (.ireturn, 1) := by decide +kernel
theorem dL_spite_17 : decode cL_spite 17 = .ok (.astore 4, 2) := by decide +kernel
theorem dL_spite_19 : decode cL_spite 19 = .ok (.iconst 2, 1) := by decide +kernel
theorem dL_spite_20 : decode cL_spite 20 = .ok (.ireturn, 1) := by decide +kernel
theorem dL_spite_21 : decode cL_spite 21 = .ok (.iconst 0, 1) := by decide +kernel
theorem dL_spite_22 : decode cL_spite 22 = .ok (.ireturn, 1) := by decide +kernel
def hL_spite (o : String ⊕ Int32) (ov : Nat → Int64) : Option (Int32 × (Nat → Int64)) := match o with
  | .inr r => some (0, vp_updL ov ((0 : Int32).toNatClampNeg) r.toInt64)
  | .inl E => if E = "java/lang/IndexOutOfBoundsException" then some (1, ov) else (if E = "java/lang/IllegalArgumentException" then some (2, ov) else (none))
def pL_spite (E : String) : Nat := if E = "java/lang/IndexOutOfBoundsException" then 13 else 17
theorem yw_L_spite : Cond.codeWith yL_spite cL_spite 5 (some .int) [(0, 10, 13, 24), (0, 10, 17, 13)] ∈ lw_tbl ∧ Cond.static yL_spite ∈ lw_tbl := ⟨(tb_4 (List.mem_of_getElem? (i := 215) (by decide +kernel))), (tb_4 (List.mem_of_getElem? (i := 214) (by decide +kernel)))⟩
set_option maxHeartbeats 4000000 in
set_option maxRecDepth 100000 in
theorem kL_spite {l : Launch} {G : GT} {Z : Nat → Nat × Nat} (ht : l.stackTraces = false) {V V2 : VT} {oa : Nat} {ov ov2 : Nat → Int64} {x1 : Int32} {x2 : Int32} {o : String ⊕ Int32} {rr : Int32} (h : fX9_spite V x1 x2 = some (o, V2)) (hr : hL_spite o ov = some (rr, ov2)) : HI l G (SH Z) yL_spite (.codeWith yL_spite cL_spite 5 (some .int) [(0, 10, 13, 24), (0, 10, 17, 13)]) 10 2 [.ref (G.2.2 0), .int x1, .int x2, .ref oa] V oa ov rr V2 ov2 := by
  intro sz
  refine hmet_of (Qs := fun sz => QO G oa sz rr V2 ov2) (SH_ok Z) (by decide) (Nat.le_of_ble_eq_true rfl) ?_ sz
  intro p e s m args below meth c ls E htab hw hl
  have hx := E.1
  have hb := E.2.1
  have hl : lv_has ls 5 [(0, .ref (G.2.2 0)), (1, .int x1), (2, .int x2), (3, .ref oa)] := hl
  have hca : ∀ Ec, o = .inl Ec → ct_at RL [(0, 10, 13, 24), (0, 10, 17, 13)] 5 Ec (pL_spite Ec) := by
    intro Ec e
    subst e
    unfold hL_spite at hr
    dsimp only at hr
    by_cases c0 : Ec = "java/lang/IndexOutOfBoundsException"
    · subst c0
      exact ⟨[], { startPc := 0, endPc := 10, handlerPc := 13, catchType := 24 }, [{ startPc := 0, endPc := 10, handlerPc := 17, catchType := 13 }], rfl, (fun z hz => nomatch hz), by decide, by decide, ⟨_, lc_24, rfl⟩, by decide, tc_IndexOutOfBoundsException⟩
    · rw [if_neg c0] at hr
      by_cases c1 : Ec = "java/lang/IllegalArgumentException"
      · subst c1
        exact ⟨[{ startPc := 0, endPc := 10, handlerPc := 13, catchType := 24 }], { startPc := 0, endPc := 10, handlerPc := 17, catchType := 13 }, [], rfl, (fun z hz => by rw [List.mem_singleton.mp hz]; exact Or.inr ⟨by decide, "java/lang/IndexOutOfBoundsException", lc_24, by decide⟩), by decide, by decide, ⟨_, lc_13, rfl⟩, by decide, tc_IllegalArgumentException⟩
      · rw [if_neg c1] at hr
        cases hr
  refine lv_aload_n hx hb dL_spite_0 rfl (lv_at hl 3 rfl) ?_
  refine lv_iconst (v := (0 : Int32)) hx hb dL_spite_1 (by decide) ?_
  refine lv_aload_n hx hb dL_spite_2 rfl (lv_at hl 0 rfl) ?_
  refine lv_iload_n hx hb dL_spite_3 rfl (lv_at hl 1 rfl) ?_
  refine lv_iload_n hx hb dL_spite_4 rfl (lv_at hl 2 rfl) ?_
  refine h_VI (As := [.int x1, .int x2]) (hh := [(0, 10, 13, 24), (0, 10, 17, 13)]) (hp := pL_spite) E hw (kX9_spite (l := l) (G := G) (Z := Z) ht h) yy_X9_spite lm_RL_56 rfl rfl hl.1 (by decide) (by decide) (by decide) rfl (Nat.le_of_ble_eq_true rfl) dL_spite_5 htab hca (fun r H locs ho hw => ?_) (fun Ec q H locs ho hw => ?_)
  · subst ho
    unfold hL_spite at hr
    dsimp only at hr
    cases hr
    refine lv_i2l hx hb dL_spite_8 rfl ?_
    refine h_ls E hw vp_0_1 rfl dL_spite_9 (fun H locs hw => ?_)
    refine lv_goto (tgt := 21) hx hb dL_spite_10 (by decide) ?_
    refine lv_iconst (v := (0 : Int32)) hx hb dL_spite_21 (by decide) ?_
    exact h_ri E hw (by decide) (by decide) dL_spite_22
  · subst ho
    unfold hL_spite at hr
    dsimp only at hr
    by_cases c0 : Ec = "java/lang/IndexOutOfBoundsException"
    · subst c0
      have hr : some ((1 : Int32), ov) = some (rr, ov2) := by simpa using hr
      cases hr
      refine lv_astore (lv' := [(4, .ref q), (0, .ref (G.2.2 0)), (1, .int x1), (2, .int x2), (3, .ref oa)]) hx hb dL_spite_13 hl (by decide) rfl (fun ls hl => ?_)
      refine lv_iconst (v := (1 : Int32)) hx hb dL_spite_15 (by decide) ?_
      exact h_ri E hw (by decide) (by decide) dL_spite_16
    · rw [if_neg c0] at hr
      by_cases c1 : Ec = "java/lang/IllegalArgumentException"
      · subst c1
        have hr : some ((2 : Int32), ov) = some (rr, ov2) := by simpa using hr
        cases hr
        refine lv_astore (lv' := [(4, .ref q), (0, .ref (G.2.2 0)), (1, .int x1), (2, .int x2), (3, .ref oa)]) hx hb dL_spite_17 hl (by decide) rfl (fun ls hl => ?_)
        refine lv_iconst (v := (2 : Int32)) hx hb dL_spite_19 (by decide) ?_
        exact h_ri E hw (by decide) (by decide) dL_spite_20
      · rw [if_neg c1] at hr
        cases hr
/-! lodger -/
theorem dL_lodger_0 : decode cL_lodger 0 = .ok (.aload_n 2, 1) := by decide +kernel
theorem dL_lodger_1 : decode cL_lodger 1 = .ok (.iconst 0, 1) := by decide +kernel
theorem dL_lodger_2 : decode cL_lodger 2 = .ok (.aload_n 0, 1) := by decide +kernel
theorem dL_lodger_3 : decode cL_lodger 3 = .ok (.iload_n 1, 1) := by decide +kernel
theorem dL_lodger_4 : decode cL_lodger 4 = .ok (.invokevirtual 59, 3) := by decide +kernel
theorem dL_lodger_7 : decode cL_lodger 7 = .ok (.i2l, 1) := by decide +kernel
theorem dL_lodger_8 : decode cL_lodger 8 = .ok (.lastore, 1) := by decide +kernel
theorem dL_lodger_9 : decode cL_lodger 9 = .ok (.goto 9, 3) := by decide +kernel
theorem dL_lodger_12 : decode cL_lodger 12 = .ok (.astore_n 3, 1) := by decide +kernel
theorem dL_lodger_13 : decode cL_lodger 13 = .ok (.iconst 1, 1) := by decide +kernel
theorem dL_lodger_14 : decode cL_lodger 14 = .ok (.ireturn, 1) := by decide +kernel
theorem dL_lodger_15 : decode cL_lodger 15 = .ok (.astore_n 3, 1) := by decide +kernel
theorem dL_lodger_16 : decode cL_lodger 16 = .ok (.iconst 2, 1) := by decide +kernel
theorem dL_lodger_17 : decode cL_lodger 17 = .ok (.ireturn, 1) := by decide +kernel
theorem dL_lodger_18 : decode cL_lodger 18 = .ok (.iconst 0, 1) := by decide +kernel
theorem dL_lodger_19 : decode cL_lodger 19 = .ok (.ireturn, 1) := by decide +kernel
def hL_lodger (o : String ⊕ Int32) (ov : Nat → Int64) : Option (Int32 × (Nat → Int64)) := match o with
  | .inr r => some (0, vp_updL ov ((0 : Int32).toNatClampNeg) r.toInt64)
  | .inl E => if E = "java/lang/IndexOutOfBoundsException" then some (1, ov) else (if E = "java/lang/UnsupportedOperationException" then some (2, ov) else (none))
def pL_lodger (E : String) : Nat := if E = "java/lang/IndexOutOfBoundsException" then 12 else 15
theorem yw_L_lodger : Cond.codeWith yL_lodger cL_lodger 4 (some .int) [(0, 9, 12, 24), (0, 9, 15, 15)] ∈ lw_tbl ∧ Cond.static yL_lodger ∈ lw_tbl := ⟨(tb_4 (List.mem_of_getElem? (i := 222) (by decide +kernel))), (tb_4 (List.mem_of_getElem? (i := 221) (by decide +kernel)))⟩
set_option maxHeartbeats 4000000 in
set_option maxRecDepth 100000 in
theorem kL_lodger {l : Launch} {G : GT} {Z : Nat → Nat × Nat} (ht : l.stackTraces = false) {V V2 : VT} {oa : Nat} {ov ov2 : Nat → Int64} {x1 : Int32} {o : String ⊕ Int32} {rr : Int32} (h : fX9_lodger V x1 = some (o, V2)) (hr : hL_lodger o ov = some (rr, ov2)) : HI l G (SH Z) yL_lodger (.codeWith yL_lodger cL_lodger 4 (some .int) [(0, 9, 12, 24), (0, 9, 15, 15)]) 10 2 [.ref (G.2.2 0), .int x1, .ref oa] V oa ov rr V2 ov2 := by
  intro sz
  refine hmet_of (Qs := fun sz => QO G oa sz rr V2 ov2) (SH_ok Z) (by decide) (Nat.le_of_ble_eq_true rfl) ?_ sz
  intro p e s m args below meth c ls E htab hw hl
  have hx := E.1
  have hb := E.2.1
  have hl : lv_has ls 4 [(0, .ref (G.2.2 0)), (1, .int x1), (2, .ref oa)] := hl
  have hca : ∀ Ec, o = .inl Ec → ct_at RL [(0, 9, 12, 24), (0, 9, 15, 15)] 4 Ec (pL_lodger Ec) := by
    intro Ec e
    subst e
    unfold hL_lodger at hr
    dsimp only at hr
    by_cases c0 : Ec = "java/lang/IndexOutOfBoundsException"
    · subst c0
      exact ⟨[], { startPc := 0, endPc := 9, handlerPc := 12, catchType := 24 }, [{ startPc := 0, endPc := 9, handlerPc := 15, catchType := 15 }], rfl, (fun z hz => nomatch hz), by decide, by decide, ⟨_, lc_24, rfl⟩, by decide, tc_IndexOutOfBoundsException⟩
    · rw [if_neg c0] at hr
      by_cases c1 : Ec = "java/lang/UnsupportedOperationException"
      · subst c1
        exact ⟨[{ startPc := 0, endPc := 9, handlerPc := 12, catchType := 24 }], { startPc := 0, endPc := 9, handlerPc := 15, catchType := 15 }, [], rfl, (fun z hz => by rw [List.mem_singleton.mp hz]; exact Or.inr ⟨by decide, "java/lang/IndexOutOfBoundsException", lc_24, by decide⟩), by decide, by decide, ⟨_, lc_15, rfl⟩, by decide, tc_UnsupportedOperationException⟩
      · rw [if_neg c1] at hr
        cases hr
  refine lv_aload_n hx hb dL_lodger_0 rfl (lv_at hl 2 rfl) ?_
  refine lv_iconst (v := (0 : Int32)) hx hb dL_lodger_1 (by decide) ?_
  refine lv_aload_n hx hb dL_lodger_2 rfl (lv_at hl 0 rfl) ?_
  refine lv_iload_n hx hb dL_lodger_3 rfl (lv_at hl 1 rfl) ?_
  refine h_VI (As := [.int x1]) (hh := [(0, 9, 12, 24), (0, 9, 15, 15)]) (hp := pL_lodger) E hw (kX9_lodger (l := l) (G := G) (Z := Z) ht h) yy_X9_lodger lm_RL_59 rfl rfl hl.1 (by decide) (by decide) (by decide) rfl (Nat.le_of_ble_eq_true rfl) dL_lodger_4 htab hca (fun r H locs ho hw => ?_) (fun Ec q H locs ho hw => ?_)
  · subst ho
    unfold hL_lodger at hr
    dsimp only at hr
    cases hr
    refine lv_i2l hx hb dL_lodger_7 rfl ?_
    refine h_ls E hw vp_0_1 rfl dL_lodger_8 (fun H locs hw => ?_)
    refine lv_goto (tgt := 18) hx hb dL_lodger_9 (by decide) ?_
    refine lv_iconst (v := (0 : Int32)) hx hb dL_lodger_18 (by decide) ?_
    exact h_ri E hw (by decide) (by decide) dL_lodger_19
  · subst ho
    unfold hL_lodger at hr
    dsimp only at hr
    by_cases c0 : Ec = "java/lang/IndexOutOfBoundsException"
    · subst c0
      have hr : some ((1 : Int32), ov) = some (rr, ov2) := by simpa using hr
      cases hr
      refine lv_astore_n (lv' := [(3, .ref q), (0, .ref (G.2.2 0)), (1, .int x1), (2, .ref oa)]) hx hb dL_lodger_12 rfl hl (by decide) rfl (fun ls hl => ?_)
      refine lv_iconst (v := (1 : Int32)) hx hb dL_lodger_13 (by decide) ?_
      exact h_ri E hw (by decide) (by decide) dL_lodger_14
    · rw [if_neg c0] at hr
      by_cases c1 : Ec = "java/lang/UnsupportedOperationException"
      · subst c1
        have hr : some ((2 : Int32), ov) = some (rr, ov2) := by simpa using hr
        cases hr
        refine lv_astore_n (lv' := [(3, .ref q), (0, .ref (G.2.2 0)), (1, .int x1), (2, .ref oa)]) hx hb dL_lodger_15 rfl hl (by decide) rfl (fun ls hl => ?_)
        refine lv_iconst (v := (2 : Int32)) hx hb dL_lodger_16 (by decide) ?_
        exact h_ri E hw (by decide) (by decide) dL_lodger_17
      · rw [if_neg c1] at hr
        cases hr
/-! days -/
theorem dL_days_0 : decode cL_days 0 = .ok (.aload_n 2, 1) := by decide +kernel
theorem dL_days_1 : decode cL_days 1 = .ok (.iconst 0, 1) := by decide +kernel
theorem dL_days_2 : decode cL_days 2 = .ok (.aload_n 0, 1) := by decide +kernel
theorem dL_days_3 : decode cL_days 3 = .ok (.iload_n 1, 1) := by decide +kernel
theorem dL_days_4 : decode cL_days 4 = .ok (.invokevirtual 62, 3) := by decide +kernel
theorem dL_days_7 : decode cL_days 7 = .ok (.i2l, 1) := by decide +kernel
theorem dL_days_8 : decode cL_days 8 = .ok (.lastore, 1) := by decide +kernel
theorem dL_days_9 : decode cL_days 9 = .ok (.goto 6, 3) := by decide +kernel
theorem dL_days_12 : decode cL_days 12 = .ok (.astore_n 3, 1) := by decide +kernel
theorem dL_days_13 : decode cL_days 13 = .ok (.iconst 1, 1) := by decide +kernel
theorem dL_days_14 : decode cL_days 14 = .ok (.ireturn, 1) := by decide +kernel
theorem dL_days_15 : decode cL_days 15 = .ok (.iconst 0, 1) := by decide +kernel
theorem dL_days_16 : decode cL_days 16 = .ok (.ireturn, 1) := by decide +kernel
def hL_days (o : String ⊕ Int32) (ov : Nat → Int64) : Option (Int32 × (Nat → Int64)) := match o with
  | .inr r => some (0, vp_updL ov ((0 : Int32).toNatClampNeg) r.toInt64)
  | .inl E => if E = "java/lang/IllegalArgumentException" then some (1, ov) else (none)
def pL_days (E : String) : Nat := 12
theorem yw_L_days : Cond.codeWith yL_days cL_days 4 (some .int) [(0, 9, 12, 13)] ∈ lw_tbl ∧ Cond.static yL_days ∈ lw_tbl := ⟨(tb_4 (List.mem_of_getElem? (i := 236) (by decide +kernel))), (tb_4 (List.mem_of_getElem? (i := 235) (by decide +kernel)))⟩
set_option maxHeartbeats 4000000 in
set_option maxRecDepth 100000 in
theorem kL_days {l : Launch} {G : GT} {Z : Nat → Nat × Nat} (ht : l.stackTraces = false) {V V2 : VT} {oa : Nat} {ov ov2 : Nat → Int64} {x1 : Int32} {o : String ⊕ Int32} {rr : Int32} (h : fX9_days V x1 = some (o, V2)) (hr : hL_days o ov = some (rr, ov2)) : HI l G (SH Z) yL_days (.codeWith yL_days cL_days 4 (some .int) [(0, 9, 12, 13)]) 10 1 [.ref (G.2.2 0), .int x1, .ref oa] V oa ov rr V2 ov2 := by
  intro sz
  refine hmet_of (Qs := fun sz => QO G oa sz rr V2 ov2) (SH_ok Z) (by decide) (Nat.le_of_ble_eq_true rfl) ?_ sz
  intro p e s m args below meth c ls E htab hw hl
  have hx := E.1
  have hb := E.2.1
  have hl : lv_has ls 4 [(0, .ref (G.2.2 0)), (1, .int x1), (2, .ref oa)] := hl
  have hca : ∀ Ec, o = .inl Ec → ct_at RL [(0, 9, 12, 13)] 4 Ec (pL_days Ec) := by
    intro Ec e
    subst e
    unfold hL_days at hr
    dsimp only at hr
    by_cases c0 : Ec = "java/lang/IllegalArgumentException"
    · subst c0
      exact ⟨[], { startPc := 0, endPc := 9, handlerPc := 12, catchType := 13 }, [], rfl, (fun z hz => nomatch hz), by decide, by decide, ⟨_, lc_13, rfl⟩, by decide, tc_IllegalArgumentException⟩
    · rw [if_neg c0] at hr
      cases hr
  refine lv_aload_n hx hb dL_days_0 rfl (lv_at hl 2 rfl) ?_
  refine lv_iconst (v := (0 : Int32)) hx hb dL_days_1 (by decide) ?_
  refine lv_aload_n hx hb dL_days_2 rfl (lv_at hl 0 rfl) ?_
  refine lv_iload_n hx hb dL_days_3 rfl (lv_at hl 1 rfl) ?_
  refine h_VI (As := [.int x1]) (hh := [(0, 9, 12, 13)]) (hp := pL_days) E hw (kX9_days (l := l) (G := G) (Z := Z) ht h) yy_X9_days lm_RL_62 rfl rfl hl.1 (by decide) (by decide) (by decide) rfl (Nat.le_of_ble_eq_true rfl) dL_days_4 htab hca (fun r H locs ho hw => ?_) (fun Ec q H locs ho hw => ?_)
  · subst ho
    unfold hL_days at hr
    dsimp only at hr
    cases hr
    refine lv_i2l hx hb dL_days_7 rfl ?_
    refine h_ls E hw vp_0_1 rfl dL_days_8 (fun H locs hw => ?_)
    refine lv_goto (tgt := 15) hx hb dL_days_9 (by decide) ?_
    refine lv_iconst (v := (0 : Int32)) hx hb dL_days_15 (by decide) ?_
    exact h_ri E hw (by decide) (by decide) dL_days_16
  · subst ho
    unfold hL_days at hr
    dsimp only at hr
    by_cases c0 : Ec = "java/lang/IllegalArgumentException"
    · subst c0
      have hr : some ((1 : Int32), ov) = some (rr, ov2) := by simpa using hr
      cases hr
      refine lv_astore_n (lv' := [(3, .ref q), (0, .ref (G.2.2 0)), (1, .int x1), (2, .ref oa)]) hx hb dL_days_12 rfl hl (by decide) rfl (fun ls hl => ?_)
      refine lv_iconst (v := (1 : Int32)) hx hb dL_days_13 (by decide) ?_
      exact h_ri E hw (by decide) (by decide) dL_days_14
    · rw [if_neg c0] at hr
      cases hr
/-! witnesses -/
theorem dL_witnesses_0 : decode cL_witnesses 0 = .ok (.aload_n 3, 1) := by decide +kernel
theorem dL_witnesses_1 : decode cL_witnesses 1 = .ok (.iconst 0, 1) := by decide +kernel
theorem dL_witnesses_2 : decode cL_witnesses 2 = .ok (.aload_n 0, 1) := by decide +kernel
theorem dL_witnesses_3 : decode cL_witnesses 3 = .ok (.iload_n 1, 1) := by decide +kernel
theorem dL_witnesses_4 : decode cL_witnesses 4 = .ok (.iload_n 2, 1) := by decide +kernel
theorem dL_witnesses_5 : decode cL_witnesses 5 = .ok (.invokevirtual 65, 3) := by decide +kernel
theorem dL_witnesses_8 : decode cL_witnesses 8 = .ok (.i2l, 1) := by decide +kernel
theorem dL_witnesses_9 : decode cL_witnesses 9 = .ok (.lastore, 1) := by decide +kernel
theorem dL_witnesses_10 : decode cL_witnesses 10 = .ok (.goto 7, 3) := by decide +kernel
theorem dL_witnesses_13 : decode cL_witnesses 13 = .ok (.astore 4, 2) := by decide +kernel
theorem dL_witnesses_15 : decode cL_witnesses 15 = .ok (.iconst 1, 1) := by decide +kernel
theorem dL_witnesses_16 : decode cL_witnesses 16 = .ok (.ireturn, 1) := by decide +kernel
theorem dL_witnesses_17 : decode cL_witnesses 17 = .ok (.iconst 0, 1) := by decide +kernel
theorem dL_witnesses_18 : decode cL_witnesses 18 = .ok (.ireturn, 1) := by decide +kernel
def hL_witnesses (o : String ⊕ Int32) (ov : Nat → Int64) : Option (Int32 × (Nat → Int64)) := match o with
  | .inr r => some (0, vp_updL ov ((0 : Int32).toNatClampNeg) r.toInt64)
  | .inl E => if E = "java/lang/IndexOutOfBoundsException" then some (1, ov) else (none)
def pL_witnesses (E : String) : Nat := 13
theorem yw_L_witnesses : Cond.codeWith yL_witnesses cL_witnesses 5 (some .int) [(0, 10, 13, 24)] ∈ lw_tbl ∧ Cond.static yL_witnesses ∈ lw_tbl := ⟨(tb_5 (List.mem_of_getElem? (i := 36) (by decide +kernel))), (tb_5 (List.mem_of_getElem? (i := 35) (by decide +kernel)))⟩
set_option maxHeartbeats 4000000 in
set_option maxRecDepth 100000 in
theorem kL_witnesses {l : Launch} {G : GT} {Z : Nat → Nat × Nat} (ht : l.stackTraces = false) {V V2 : VT} {oa : Nat} {ov ov2 : Nat → Int64} {x1 : Int32} {x2 : Int32} {o : String ⊕ Int32} {rr : Int32} (h : fX9_witnesses V x1 x2 = some (o, V2)) (hr : hL_witnesses o ov = some (rr, ov2)) : HI l G (SH Z) yL_witnesses (.codeWith yL_witnesses cL_witnesses 5 (some .int) [(0, 10, 13, 24)]) 10 2 [.ref (G.2.2 0), .int x1, .int x2, .ref oa] V oa ov rr V2 ov2 := by
  intro sz
  refine hmet_of (Qs := fun sz => QO G oa sz rr V2 ov2) (SH_ok Z) (by decide) (Nat.le_of_ble_eq_true rfl) ?_ sz
  intro p e s m args below meth c ls E htab hw hl
  have hx := E.1
  have hb := E.2.1
  have hl : lv_has ls 5 [(0, .ref (G.2.2 0)), (1, .int x1), (2, .int x2), (3, .ref oa)] := hl
  have hca : ∀ Ec, o = .inl Ec → ct_at RL [(0, 10, 13, 24)] 5 Ec (pL_witnesses Ec) := by
    intro Ec e
    subst e
    unfold hL_witnesses at hr
    dsimp only at hr
    by_cases c0 : Ec = "java/lang/IndexOutOfBoundsException"
    · subst c0
      exact ⟨[], { startPc := 0, endPc := 10, handlerPc := 13, catchType := 24 }, [], rfl, (fun z hz => nomatch hz), by decide, by decide, ⟨_, lc_24, rfl⟩, by decide, tc_IndexOutOfBoundsException⟩
    · rw [if_neg c0] at hr
      cases hr
  refine lv_aload_n hx hb dL_witnesses_0 rfl (lv_at hl 3 rfl) ?_
  refine lv_iconst (v := (0 : Int32)) hx hb dL_witnesses_1 (by decide) ?_
  refine lv_aload_n hx hb dL_witnesses_2 rfl (lv_at hl 0 rfl) ?_
  refine lv_iload_n hx hb dL_witnesses_3 rfl (lv_at hl 1 rfl) ?_
  refine lv_iload_n hx hb dL_witnesses_4 rfl (lv_at hl 2 rfl) ?_
  refine h_VI (As := [.int x1, .int x2]) (hh := [(0, 10, 13, 24)]) (hp := pL_witnesses) E hw (kX9_witnesses (l := l) (G := G) (Z := Z) ht h) yy_X9_witnesses lm_RL_65 rfl rfl hl.1 (by decide) (by decide) (by decide) rfl (Nat.le_of_ble_eq_true rfl) dL_witnesses_5 htab hca (fun r H locs ho hw => ?_) (fun Ec q H locs ho hw => ?_)
  · subst ho
    unfold hL_witnesses at hr
    dsimp only at hr
    cases hr
    refine lv_i2l hx hb dL_witnesses_8 rfl ?_
    refine h_ls E hw vp_0_1 rfl dL_witnesses_9 (fun H locs hw => ?_)
    refine lv_goto (tgt := 17) hx hb dL_witnesses_10 (by decide) ?_
    refine lv_iconst (v := (0 : Int32)) hx hb dL_witnesses_17 (by decide) ?_
    exact h_ri E hw (by decide) (by decide) dL_witnesses_18
  · subst ho
    unfold hL_witnesses at hr
    dsimp only at hr
    by_cases c0 : Ec = "java/lang/IndexOutOfBoundsException"
    · subst c0
      have hr : some ((1 : Int32), ov) = some (rr, ov2) := by simpa using hr
      cases hr
      refine lv_astore (lv' := [(4, .ref q), (0, .ref (G.2.2 0)), (1, .int x1), (2, .int x2), (3, .ref oa)]) hx hb dL_witnesses_13 hl (by decide) rfl (fun ls hl => ?_)
      refine lv_iconst (v := (1 : Int32)) hx hb dL_witnesses_15 (by decide) ?_
      exact h_ri E hw (by decide) (by decide) dL_witnesses_16
    · rw [if_neg c0] at hr
      cases hr
/-! open -/
theorem dL_open_0 : decode cL_open 0 = .ok (.aload_n 3, 1) := by decide +kernel
theorem dL_open_1 : decode cL_open 1 = .ok (.iconst 0, 1) := by decide +kernel
theorem dL_open_2 : decode cL_open 2 = .ok (.aload_n 0, 1) := by decide +kernel
theorem dL_open_3 : decode cL_open 3 = .ok (.iload_n 1, 1) := by decide +kernel
theorem dL_open_4 : decode cL_open 4 = .ok (.iload_n 2, 1) := by decide +kernel
theorem dL_open_5 : decode cL_open 5 = .ok (.invokevirtual 68, 3) := by decide +kernel
theorem dL_open_8 : decode cL_open 8 = .ok (.i2l, 1) := by decide +kernel
theorem dL_open_9 : decode cL_open 9 = .ok (.lastore, 1) := by decide +kernel
theorem dL_open_10 : decode cL_open 10 = .ok (.goto 7, 3) := by decide +kernel
theorem dL_open_13 : decode cL_open 13 = .ok (.astore 4, 2) := by decide +kernel
theorem dL_open_15 : decode cL_open 15 = .ok (.iconst 1, 1) := by decide +kernel
theorem dL_open_16 : decode cL_open 16 = .ok (.ireturn, 1) := by decide +kernel
theorem dL_open_17 : decode cL_open 17 = .ok (.iconst 0, 1) := by decide +kernel
theorem dL_open_18 : decode cL_open 18 = .ok (.ireturn, 1) := by decide +kernel
def hL_open (o : String ⊕ Int32) (ov : Nat → Int64) : Option (Int32 × (Nat → Int64)) := match o with
  | .inr r => some (0, vp_updL ov ((0 : Int32).toNatClampNeg) r.toInt64)
  | .inl E => if E = "java/lang/IndexOutOfBoundsException" then some (1, ov) else (none)
def pL_open (E : String) : Nat := 13
theorem yw_L_open : Cond.codeWith yL_open cL_open 5 (some .int) [(0, 10, 13, 24)] ∈ lw_tbl ∧ Cond.static yL_open ∈ lw_tbl := ⟨(tb_5 (List.mem_of_getElem? (i := 43) (by decide +kernel))), (tb_5 (List.mem_of_getElem? (i := 42) (by decide +kernel)))⟩
set_option maxHeartbeats 4000000 in
set_option maxRecDepth 100000 in
theorem kL_open {l : Launch} {G : GT} {Z : Nat → Nat × Nat} (ht : l.stackTraces = false) {V V2 : VT} {oa : Nat} {ov ov2 : Nat → Int64} {x1 : Int32} {x2 : Int32} {o : String ⊕ Int32} {rr : Int32} (h : fX9_open V x1 x2 = some (o, V2)) (hr : hL_open o ov = some (rr, ov2)) : HI l G (SH Z) yL_open (.codeWith yL_open cL_open 5 (some .int) [(0, 10, 13, 24)]) 10 1 [.ref (G.2.2 0), .int x1, .int x2, .ref oa] V oa ov rr V2 ov2 := by
  intro sz
  refine hmet_of (Qs := fun sz => QO G oa sz rr V2 ov2) (SH_ok Z) (by decide) (Nat.le_of_ble_eq_true rfl) ?_ sz
  intro p e s m args below meth c ls E htab hw hl
  have hx := E.1
  have hb := E.2.1
  have hl : lv_has ls 5 [(0, .ref (G.2.2 0)), (1, .int x1), (2, .int x2), (3, .ref oa)] := hl
  have hca : ∀ Ec, o = .inl Ec → ct_at RL [(0, 10, 13, 24)] 5 Ec (pL_open Ec) := by
    intro Ec e
    subst e
    unfold hL_open at hr
    dsimp only at hr
    by_cases c0 : Ec = "java/lang/IndexOutOfBoundsException"
    · subst c0
      exact ⟨[], { startPc := 0, endPc := 10, handlerPc := 13, catchType := 24 }, [], rfl, (fun z hz => nomatch hz), by decide, by decide, ⟨_, lc_24, rfl⟩, by decide, tc_IndexOutOfBoundsException⟩
    · rw [if_neg c0] at hr
      cases hr
  refine lv_aload_n hx hb dL_open_0 rfl (lv_at hl 3 rfl) ?_
  refine lv_iconst (v := (0 : Int32)) hx hb dL_open_1 (by decide) ?_
  refine lv_aload_n hx hb dL_open_2 rfl (lv_at hl 0 rfl) ?_
  refine lv_iload_n hx hb dL_open_3 rfl (lv_at hl 1 rfl) ?_
  refine lv_iload_n hx hb dL_open_4 rfl (lv_at hl 2 rfl) ?_
  refine h_VI (As := [.int x1, .int x2]) (hh := [(0, 10, 13, 24)]) (hp := pL_open) E hw (kX9_open (l := l) (G := G) (Z := Z) ht h) yy_X9_open lm_RL_68 rfl rfl hl.1 (by decide) (by decide) (by decide) rfl (Nat.le_of_ble_eq_true rfl) dL_open_5 htab hca (fun r H locs ho hw => ?_) (fun Ec q H locs ho hw => ?_)
  · subst ho
    unfold hL_open at hr
    dsimp only at hr
    cases hr
    refine lv_i2l hx hb dL_open_8 rfl ?_
    refine h_ls E hw vp_0_1 rfl dL_open_9 (fun H locs hw => ?_)
    refine lv_goto (tgt := 17) hx hb dL_open_10 (by decide) ?_
    refine lv_iconst (v := (0 : Int32)) hx hb dL_open_17 (by decide) ?_
    exact h_ri E hw (by decide) (by decide) dL_open_18
  · subst ho
    unfold hL_open at hr
    dsimp only at hr
    by_cases c0 : Ec = "java/lang/IndexOutOfBoundsException"
    · subst c0
      have hr : some ((1 : Int32), ov) = some (rr, ov2) := by simpa using hr
      cases hr
      refine lv_astore (lv' := [(4, .ref q), (0, .ref (G.2.2 0)), (1, .int x1), (2, .int x2), (3, .ref oa)]) hx hb dL_open_13 hl (by decide) rfl (fun ls hl => ?_)
      refine lv_iconst (v := (1 : Int32)) hx hb dL_open_15 (by decide) ?_
      exact h_ri E hw (by decide) (by decide) dL_open_16
    · rw [if_neg c0] at hr
      cases hr
/-! wake -/
theorem dL_wake_0 : decode cL_wake 0 = .ok (.aload_n 3, 1) := by decide +kernel
theorem dL_wake_1 : decode cL_wake 1 = .ok (.iconst 0, 1) := by decide +kernel
theorem dL_wake_2 : decode cL_wake 2 = .ok (.aload_n 0, 1) := by decide +kernel
theorem dL_wake_3 : decode cL_wake 3 = .ok (.iload_n 1, 1) := by decide +kernel
theorem dL_wake_4 : decode cL_wake 4 = .ok (.iload_n 2, 1) := by decide +kernel
theorem dL_wake_5 : decode cL_wake 5 = .ok (.invokevirtual 72, 3) := by decide +kernel
theorem dL_wake_8 : decode cL_wake 8 = .ok (.i2l, 1) := by decide +kernel
theorem dL_wake_9 : decode cL_wake 9 = .ok (.lastore, 1) := by decide +kernel
theorem dL_wake_10 : decode cL_wake 10 = .ok (.goto 7, 3) := by decide +kernel
theorem dL_wake_13 : decode cL_wake 13 = .ok (.astore 4, 2) := by decide +kernel
theorem dL_wake_15 : decode cL_wake 15 = .ok (.iconst 1, 1) := by decide +kernel
theorem dL_wake_16 : decode cL_wake 16 = .ok (.ireturn, 1) := by decide +kernel
theorem dL_wake_17 : decode cL_wake 17 = .ok (.iconst 0, 1) := by decide +kernel
theorem dL_wake_18 : decode cL_wake 18 = .ok (.ireturn, 1) := by decide +kernel
def hL_wake (o : String ⊕ Int32) (ov : Nat → Int64) : Option (Int32 × (Nat → Int64)) := match o with
  | .inr r => some (0, vp_updL ov ((0 : Int32).toNatClampNeg) r.toInt64)
  | .inl E => if E = "java/lang/IndexOutOfBoundsException" then some (1, ov) else (none)
def pL_wake (E : String) : Nat := 13
theorem yw_L_wake : Cond.codeWith yL_wake cL_wake 5 (some .int) [(0, 10, 13, 24)] ∈ lw_tbl ∧ Cond.static yL_wake ∈ lw_tbl := ⟨(tb_5 (List.mem_of_getElem? (i := 57) (by decide +kernel))), (tb_5 (List.mem_of_getElem? (i := 56) (by decide +kernel)))⟩
set_option maxHeartbeats 4000000 in
set_option maxRecDepth 100000 in
theorem kL_wake {l : Launch} {G : GT} {Z : Nat → Nat × Nat} (ht : l.stackTraces = false) {V V2 : VT} {oa : Nat} {ov ov2 : Nat → Int64} {x1 : Int32} {x2 : Int32} {o : String ⊕ Int32} {rr : Int32} (h : fX9_wake V x1 x2 = some (o, V2)) (hr : hL_wake o ov = some (rr, ov2)) : HI l G (SH Z) yL_wake (.codeWith yL_wake cL_wake 5 (some .int) [(0, 10, 13, 24)]) 10 2 [.ref (G.2.2 0), .int x1, .int x2, .ref oa] V oa ov rr V2 ov2 := by
  intro sz
  refine hmet_of (Qs := fun sz => QO G oa sz rr V2 ov2) (SH_ok Z) (by decide) (Nat.le_of_ble_eq_true rfl) ?_ sz
  intro p e s m args below meth c ls E htab hw hl
  have hx := E.1
  have hb := E.2.1
  have hl : lv_has ls 5 [(0, .ref (G.2.2 0)), (1, .int x1), (2, .int x2), (3, .ref oa)] := hl
  have hca : ∀ Ec, o = .inl Ec → ct_at RL [(0, 10, 13, 24)] 5 Ec (pL_wake Ec) := by
    intro Ec e
    subst e
    unfold hL_wake at hr
    dsimp only at hr
    by_cases c0 : Ec = "java/lang/IndexOutOfBoundsException"
    · subst c0
      exact ⟨[], { startPc := 0, endPc := 10, handlerPc := 13, catchType := 24 }, [], rfl, (fun z hz => nomatch hz), by decide, by decide, ⟨_, lc_24, rfl⟩, by decide, tc_IndexOutOfBoundsException⟩
    · rw [if_neg c0] at hr
      cases hr
  refine lv_aload_n hx hb dL_wake_0 rfl (lv_at hl 3 rfl) ?_
  refine lv_iconst (v := (0 : Int32)) hx hb dL_wake_1 (by decide) ?_
  refine lv_aload_n hx hb dL_wake_2 rfl (lv_at hl 0 rfl) ?_
  refine lv_iload_n hx hb dL_wake_3 rfl (lv_at hl 1 rfl) ?_
  refine lv_iload_n hx hb dL_wake_4 rfl (lv_at hl 2 rfl) ?_
  refine h_VI (As := [.int x1, .int x2]) (hh := [(0, 10, 13, 24)]) (hp := pL_wake) E hw (kX9_wake (l := l) (G := G) (Z := Z) ht h) yy_X9_wake lm_RL_72 rfl rfl hl.1 (by decide) (by decide) (by decide) rfl (Nat.le_of_ble_eq_true rfl) dL_wake_5 htab hca (fun r H locs ho hw => ?_) (fun Ec q H locs ho hw => ?_)
  · subst ho
    unfold hL_wake at hr
    dsimp only at hr
    cases hr
    refine lv_i2l hx hb dL_wake_8 rfl ?_
    refine h_ls E hw vp_0_1 rfl dL_wake_9 (fun H locs hw => ?_)
    refine lv_goto (tgt := 17) hx hb dL_wake_10 (by decide) ?_
    refine lv_iconst (v := (0 : Int32)) hx hb dL_wake_17 (by decide) ?_
    exact h_ri E hw (by decide) (by decide) dL_wake_18
  · subst ho
    unfold hL_wake at hr
    dsimp only at hr
    by_cases c0 : Ec = "java/lang/IndexOutOfBoundsException"
    · subst c0
      have hr : some ((1 : Int32), ov) = some (rr, ov2) := by simpa using hr
      cases hr
      refine lv_astore (lv' := [(4, .ref q), (0, .ref (G.2.2 0)), (1, .int x1), (2, .int x2), (3, .ref oa)]) hx hb dL_wake_13 hl (by decide) rfl (fun ls hl => ?_)
      refine lv_iconst (v := (1 : Int32)) hx hb dL_wake_15 (by decide) ?_
      exact h_ri E hw (by decide) (by decide) dL_wake_16
    · rw [if_neg c0] at hr
      cases hr
/-! mirrors -/
theorem dL_mirrors_0 : decode cL_mirrors 0 = .ok (.aload_n 3, 1) := by decide +kernel
theorem dL_mirrors_1 : decode cL_mirrors 1 = .ok (.iconst 0, 1) := by decide +kernel
theorem dL_mirrors_2 : decode cL_mirrors 2 = .ok (.aload_n 0, 1) := by decide +kernel
theorem dL_mirrors_3 : decode cL_mirrors 3 = .ok (.iload_n 1, 1) := by decide +kernel
theorem dL_mirrors_4 : decode cL_mirrors 4 = .ok (.iload_n 2, 1) := by decide +kernel
theorem dL_mirrors_5 : decode cL_mirrors 5 = .ok (.invokevirtual 75, 3) := by decide +kernel
theorem dL_mirrors_8 : decode cL_mirrors 8 = .ok (.i2l, 1) := by decide +kernel
theorem dL_mirrors_9 : decode cL_mirrors 9 = .ok (.lastore, 1) := by decide +kernel
theorem dL_mirrors_10 : decode cL_mirrors 10 = .ok (.goto 7, 3) := by decide +kernel
theorem dL_mirrors_13 : decode cL_mirrors 13 = .ok (.astore 4, 2) := by decide +kernel
theorem dL_mirrors_15 : decode cL_mirrors 15 = .ok (.iconst 1, 1) := by decide +kernel
theorem dL_mirrors_16 : decode cL_mirrors 16 = .ok (.ireturn, 1) := by decide +kernel
theorem dL_mirrors_17 : decode cL_mirrors 17 = .ok (.iconst 0, 1) := by decide +kernel
theorem dL_mirrors_18 : decode cL_mirrors 18 = .ok (.ireturn, 1) := by decide +kernel
def hL_mirrors (o : String ⊕ Int32) (ov : Nat → Int64) : Option (Int32 × (Nat → Int64)) := match o with
  | .inr r => some (0, vp_updL ov ((0 : Int32).toNatClampNeg) r.toInt64)
  | .inl E => if E = "java/lang/IndexOutOfBoundsException" then some (1, ov) else (none)
def pL_mirrors (E : String) : Nat := 13
theorem yw_L_mirrors : Cond.codeWith yL_mirrors cL_mirrors 5 (some .int) [(0, 10, 13, 24)] ∈ lw_tbl ∧ Cond.static yL_mirrors ∈ lw_tbl := ⟨(tb_5 (List.mem_of_getElem? (i := 64) (by decide +kernel))), (tb_5 (List.mem_of_getElem? (i := 63) (by decide +kernel)))⟩
set_option maxHeartbeats 4000000 in
set_option maxRecDepth 100000 in
theorem kL_mirrors {l : Launch} {G : GT} {Z : Nat → Nat × Nat} (ht : l.stackTraces = false) {V V2 : VT} {oa : Nat} {ov ov2 : Nat → Int64} {x1 : Int32} {x2 : Int32} {o : String ⊕ Int32} {rr : Int32} (h : fX9_mirrors V x1 x2 = some (o, V2)) (hr : hL_mirrors o ov = some (rr, ov2)) : HI l G (SH Z) yL_mirrors (.codeWith yL_mirrors cL_mirrors 5 (some .int) [(0, 10, 13, 24)]) 10 2 [.ref (G.2.2 0), .int x1, .int x2, .ref oa] V oa ov rr V2 ov2 := by
  intro sz
  refine hmet_of (Qs := fun sz => QO G oa sz rr V2 ov2) (SH_ok Z) (by decide) (Nat.le_of_ble_eq_true rfl) ?_ sz
  intro p e s m args below meth c ls E htab hw hl
  have hx := E.1
  have hb := E.2.1
  have hl : lv_has ls 5 [(0, .ref (G.2.2 0)), (1, .int x1), (2, .int x2), (3, .ref oa)] := hl
  have hca : ∀ Ec, o = .inl Ec → ct_at RL [(0, 10, 13, 24)] 5 Ec (pL_mirrors Ec) := by
    intro Ec e
    subst e
    unfold hL_mirrors at hr
    dsimp only at hr
    by_cases c0 : Ec = "java/lang/IndexOutOfBoundsException"
    · subst c0
      exact ⟨[], { startPc := 0, endPc := 10, handlerPc := 13, catchType := 24 }, [], rfl, (fun z hz => nomatch hz), by decide, by decide, ⟨_, lc_24, rfl⟩, by decide, tc_IndexOutOfBoundsException⟩
    · rw [if_neg c0] at hr
      cases hr
  refine lv_aload_n hx hb dL_mirrors_0 rfl (lv_at hl 3 rfl) ?_
  refine lv_iconst (v := (0 : Int32)) hx hb dL_mirrors_1 (by decide) ?_
  refine lv_aload_n hx hb dL_mirrors_2 rfl (lv_at hl 0 rfl) ?_
  refine lv_iload_n hx hb dL_mirrors_3 rfl (lv_at hl 1 rfl) ?_
  refine lv_iload_n hx hb dL_mirrors_4 rfl (lv_at hl 2 rfl) ?_
  refine h_VI (As := [.int x1, .int x2]) (hh := [(0, 10, 13, 24)]) (hp := pL_mirrors) E hw (kX9_mirrors (l := l) (G := G) (Z := Z) ht h) yy_X9_mirrors lm_RL_75 rfl rfl hl.1 (by decide) (by decide) (by decide) rfl (Nat.le_of_ble_eq_true rfl) dL_mirrors_5 htab hca (fun r H locs ho hw => ?_) (fun Ec q H locs ho hw => ?_)
  · subst ho
    unfold hL_mirrors at hr
    dsimp only at hr
    cases hr
    refine lv_i2l hx hb dL_mirrors_8 rfl ?_
    refine h_ls E hw vp_0_1 rfl dL_mirrors_9 (fun H locs hw => ?_)
    refine lv_goto (tgt := 17) hx hb dL_mirrors_10 (by decide) ?_
    refine lv_iconst (v := (0 : Int32)) hx hb dL_mirrors_17 (by decide) ?_
    exact h_ri E hw (by decide) (by decide) dL_mirrors_18
  · subst ho
    unfold hL_mirrors at hr
    dsimp only at hr
    by_cases c0 : Ec = "java/lang/IndexOutOfBoundsException"
    · subst c0
      have hr : some ((1 : Int32), ov) = some (rr, ov2) := by simpa using hr
      cases hr
      refine lv_astore (lv' := [(4, .ref q), (0, .ref (G.2.2 0)), (1, .int x1), (2, .int x2), (3, .ref oa)]) hx hb dL_mirrors_13 hl (by decide) rfl (fun ls hl => ?_)
      refine lv_iconst (v := (1 : Int32)) hx hb dL_mirrors_15 (by decide) ?_
      exact h_ri E hw (by decide) (by decide) dL_mirrors_16
    · rw [if_neg c0] at hr
      cases hr
/-! unseen -/
theorem dL_unseen_0 : decode cL_unseen 0 = .ok (.aload_n 2, 1) := by decide +kernel
theorem dL_unseen_1 : decode cL_unseen 1 = .ok (.iconst 0, 1) := by decide +kernel
theorem dL_unseen_2 : decode cL_unseen 2 = .ok (.aload_n 0, 1) := by decide +kernel
theorem dL_unseen_3 : decode cL_unseen 3 = .ok (.iload_n 1, 1) := by decide +kernel
theorem dL_unseen_4 : decode cL_unseen 4 = .ok (.invokevirtual 78, 3) := by decide +kernel
theorem dL_unseen_7 : decode cL_unseen 7 = .ok (.i2l, 1) := by decide +kernel
theorem dL_unseen_8 : decode cL_unseen 8 = .ok (.lastore, 1) := by decide +kernel
theorem dL_unseen_9 : decode cL_unseen 9 = .ok (.goto 6, 3) := by decide +kernel
theorem dL_unseen_12 : decode cL_unseen 12 = .ok (.astore_n 3, 1) := by decide +kernel
theorem dL_unseen_13 : decode cL_unseen 13 = .ok (.iconst 1, 1) := by decide +kernel
theorem dL_unseen_14 : decode cL_unseen 14 = .ok (.ireturn, 1) := by decide +kernel
theorem dL_unseen_15 : decode cL_unseen 15 = .ok (.iconst 0, 1) := by decide +kernel
theorem dL_unseen_16 : decode cL_unseen 16 = .ok (.ireturn, 1) := by decide +kernel
def hL_unseen (o : String ⊕ Int32) (ov : Nat → Int64) : Option (Int32 × (Nat → Int64)) := match o with
  | .inr r => some (0, vp_updL ov ((0 : Int32).toNatClampNeg) r.toInt64)
  | .inl E => if E = "java/lang/IndexOutOfBoundsException" then some (1, ov) else (none)
def pL_unseen (E : String) : Nat := 12
theorem yw_L_unseen : Cond.codeWith yL_unseen cL_unseen 4 (some .int) [(0, 9, 12, 24)] ∈ lw_tbl ∧ Cond.static yL_unseen ∈ lw_tbl := ⟨(tb_5 (List.mem_of_getElem? (i := 75) (by decide +kernel))), (tb_5 (List.mem_of_getElem? (i := 74) (by decide +kernel)))⟩
set_option maxHeartbeats 4000000 in
set_option maxRecDepth 100000 in
theorem kL_unseen {l : Launch} {G : GT} {Z : Nat → Nat × Nat} (ht : l.stackTraces = false) {V V2 : VT} {oa : Nat} {ov ov2 : Nat → Int64} {x1 : Int32} {o : String ⊕ Int32} {rr : Int32} (h : fX9_unseen V x1 = some (o, V2)) (hr : hL_unseen o ov = some (rr, ov2)) : HI l G (SH Z) yL_unseen (.codeWith yL_unseen cL_unseen 4 (some .int) [(0, 9, 12, 24)]) 10 1 [.ref (G.2.2 0), .int x1, .ref oa] V oa ov rr V2 ov2 := by
  intro sz
  refine hmet_of (Qs := fun sz => QO G oa sz rr V2 ov2) (SH_ok Z) (by decide) (Nat.le_of_ble_eq_true rfl) ?_ sz
  intro p e s m args below meth c ls E htab hw hl
  have hx := E.1
  have hb := E.2.1
  have hl : lv_has ls 4 [(0, .ref (G.2.2 0)), (1, .int x1), (2, .ref oa)] := hl
  have hca : ∀ Ec, o = .inl Ec → ct_at RL [(0, 9, 12, 24)] 4 Ec (pL_unseen Ec) := by
    intro Ec e
    subst e
    unfold hL_unseen at hr
    dsimp only at hr
    by_cases c0 : Ec = "java/lang/IndexOutOfBoundsException"
    · subst c0
      exact ⟨[], { startPc := 0, endPc := 9, handlerPc := 12, catchType := 24 }, [], rfl, (fun z hz => nomatch hz), by decide, by decide, ⟨_, lc_24, rfl⟩, by decide, tc_IndexOutOfBoundsException⟩
    · rw [if_neg c0] at hr
      cases hr
  refine lv_aload_n hx hb dL_unseen_0 rfl (lv_at hl 2 rfl) ?_
  refine lv_iconst (v := (0 : Int32)) hx hb dL_unseen_1 (by decide) ?_
  refine lv_aload_n hx hb dL_unseen_2 rfl (lv_at hl 0 rfl) ?_
  refine lv_iload_n hx hb dL_unseen_3 rfl (lv_at hl 1 rfl) ?_
  refine h_VI (As := [.int x1]) (hh := [(0, 9, 12, 24)]) (hp := pL_unseen) E hw (kX9_unseen (l := l) (G := G) (Z := Z) ht h) yy_X9_unseen lm_RL_78 rfl rfl hl.1 (by decide) (by decide) (by decide) rfl (Nat.le_of_ble_eq_true rfl) dL_unseen_4 htab hca (fun r H locs ho hw => ?_) (fun Ec q H locs ho hw => ?_)
  · subst ho
    unfold hL_unseen at hr
    dsimp only at hr
    cases hr
    refine lv_i2l hx hb dL_unseen_7 rfl ?_
    refine h_ls E hw vp_0_1 rfl dL_unseen_8 (fun H locs hw => ?_)
    refine lv_goto (tgt := 15) hx hb dL_unseen_9 (by decide) ?_
    refine lv_iconst (v := (0 : Int32)) hx hb dL_unseen_15 (by decide) ?_
    exact h_ri E hw (by decide) (by decide) dL_unseen_16
  · subst ho
    unfold hL_unseen at hr
    dsimp only at hr
    by_cases c0 : Ec = "java/lang/IndexOutOfBoundsException"
    · subst c0
      have hr : some ((1 : Int32), ov) = some (rr, ov2) := by simpa using hr
      cases hr
      refine lv_astore_n (lv' := [(3, .ref q), (0, .ref (G.2.2 0)), (1, .int x1), (2, .ref oa)]) hx hb dL_unseen_12 rfl hl (by decide) rfl (fun ls hl => ?_)
      refine lv_iconst (v := (1 : Int32)) hx hb dL_unseen_13 (by decide) ?_
      exact h_ri E hw (by decide) (by decide) dL_unseen_14
    · rw [if_neg c0] at hr
      cases hr
/-! thief -/
theorem dL_thief_0 : decode cL_thief 0 = .ok (.aload 4, 2) := by decide +kernel
theorem dL_thief_2 : decode cL_thief 2 = .ok (.iconst 0, 1) := by decide +kernel
theorem dL_thief_3 : decode cL_thief 3 = .ok (.aload_n 0, 1) := by decide +kernel
theorem dL_thief_4 : decode cL_thief 4 = .ok (.iload_n 1, 1) := by decide +kernel
theorem dL_thief_5 : decode cL_thief 5 = .ok (.iload_n 2, 1) := by decide +kernel
theorem dL_thief_6 : decode cL_thief 6 = .ok (.iload_n 3, 1) := by decide +kernel
theorem dL_thief_7 : decode cL_thief 7 = .ok (.invokevirtual 81, 3) := by decide +kernel
theorem dL_thief_10 : decode cL_thief 10 = .ok (.i2l, 1) := by decide +kernel
theorem dL_thief_11 : decode cL_thief 11 = .ok (.lastore, 1) := by decide +kernel
theorem dL_thief_12 : decode cL_thief 12 = .ok (.goto 7, 3) := by decide +kernel
theorem dL_thief_15 : decode cL_thief 15 = .ok (.astore 5, 2) := by decide +kernel
theorem dL_thief_17 : decode cL_thief 17 = .ok (.iconst 1, 1) := by decide +kernel
theorem dL_thief_18 : decode cL_thief 18 = .ok (.ireturn, 1) := by decide +kernel
theorem dL_thief_19 : decode cL_thief 19 = .ok (.iconst 0, 1) := by decide +kernel
theorem dL_thief_20 : decode cL_thief 20 = .ok (.ireturn, 1) := by decide +kernel
def hL_thief (o : String ⊕ Int32) (ov : Nat → Int64) : Option (Int32 × (Nat → Int64)) := match o with
  | .inr r => some (0, vp_updL ov ((0 : Int32).toNatClampNeg) r.toInt64)
  | .inl E => if E = "java/lang/IndexOutOfBoundsException" then some (1, ov) else (none)
def pL_thief (E : String) : Nat := 15
theorem yw_L_thief : Cond.codeWith yL_thief cL_thief 6 (some .int) [(0, 12, 15, 24)] ∈ lw_tbl ∧ Cond.static yL_thief ∈ lw_tbl := ⟨(tb_5 (List.mem_of_getElem? (i := 87) (by decide +kernel))), (tb_5 (List.mem_of_getElem? (i := 86) (by decide +kernel)))⟩
set_option maxHeartbeats 4000000 in
set_option maxRecDepth 100000 in
theorem kL_thief {l : Launch} {G : GT} {Z : Nat → Nat × Nat} (ht : l.stackTraces = false) {V V2 : VT} {oa : Nat} {ov ov2 : Nat → Int64} {x1 : Int32} {x2 : Int32} {x3 : Int32} {o : String ⊕ Int32} {rr : Int32} (h : fX9_thief V x1 x2 x3 = some (o, V2)) (hr : hL_thief o ov = some (rr, ov2)) : HI l G (SH Z) yL_thief (.codeWith yL_thief cL_thief 6 (some .int) [(0, 12, 15, 24)]) 10 3 [.ref (G.2.2 0), .int x1, .int x2, .int x3, .ref oa] V oa ov rr V2 ov2 := by
  intro sz
  refine hmet_of (Qs := fun sz => QO G oa sz rr V2 ov2) (SH_ok Z) (by decide) (Nat.le_of_ble_eq_true rfl) ?_ sz
  intro p e s m args below meth c ls E htab hw hl
  have hx := E.1
  have hb := E.2.1
  have hl : lv_has ls 6 [(0, .ref (G.2.2 0)), (1, .int x1), (2, .int x2), (3, .int x3), (4, .ref oa)] := hl
  have hca : ∀ Ec, o = .inl Ec → ct_at RL [(0, 12, 15, 24)] 7 Ec (pL_thief Ec) := by
    intro Ec e
    subst e
    unfold hL_thief at hr
    dsimp only at hr
    by_cases c0 : Ec = "java/lang/IndexOutOfBoundsException"
    · subst c0
      exact ⟨[], { startPc := 0, endPc := 12, handlerPc := 15, catchType := 24 }, [], rfl, (fun z hz => nomatch hz), by decide, by decide, ⟨_, lc_24, rfl⟩, by decide, tc_IndexOutOfBoundsException⟩
    · rw [if_neg c0] at hr
      cases hr
  refine lv_aload hx hb dL_thief_0 (lv_at hl 4 rfl) ?_
  refine lv_iconst (v := (0 : Int32)) hx hb dL_thief_2 (by decide) ?_
  refine lv_aload_n hx hb dL_thief_3 rfl (lv_at hl 0 rfl) ?_
  refine lv_iload_n hx hb dL_thief_4 rfl (lv_at hl 1 rfl) ?_
  refine lv_iload_n hx hb dL_thief_5 rfl (lv_at hl 2 rfl) ?_
  refine lv_iload_n hx hb dL_thief_6 rfl (lv_at hl 3 rfl) ?_
  refine h_VI (As := [.int x1, .int x2, .int x3]) (hh := [(0, 12, 15, 24)]) (hp := pL_thief) E hw (kX9_thief (l := l) (G := G) (Z := Z) ht h) yy_X9_thief lm_RL_81 rfl rfl hl.1 (by decide) (by decide) (by decide) rfl (Nat.le_of_ble_eq_true rfl) dL_thief_7 htab hca (fun r H locs ho hw => ?_) (fun Ec q H locs ho hw => ?_)
  · subst ho
    unfold hL_thief at hr
    dsimp only at hr
    cases hr
    refine lv_i2l hx hb dL_thief_10 rfl ?_
    refine h_ls E hw vp_0_1 rfl dL_thief_11 (fun H locs hw => ?_)
    refine lv_goto (tgt := 19) hx hb dL_thief_12 (by decide) ?_
    refine lv_iconst (v := (0 : Int32)) hx hb dL_thief_19 (by decide) ?_
    exact h_ri E hw (by decide) (by decide) dL_thief_20
  · subst ho
    unfold hL_thief at hr
    dsimp only at hr
    by_cases c0 : Ec = "java/lang/IndexOutOfBoundsException"
    · subst c0
      have hr : some ((1 : Int32), ov) = some (rr, ov2) := by simpa using hr
      cases hr
      refine lv_astore (lv' := [(5, .ref q), (0, .ref (G.2.2 0)), (1, .int x1), (2, .int x2), (3, .int x3), (4, .ref oa)]) hx hb dL_thief_15 hl (by decide) rfl (fun ls hl => ?_)
      refine lv_iconst (v := (1 : Int32)) hx hb dL_thief_17 (by decide) ?_
      exact h_ri E hw (by decide) (by decide) dL_thief_18
    · rw [if_neg c0] at hr
      cases hr
/-! clear -/
theorem dL_clear_0 : decode cL_clear 0 = .ok (.aload_n 3, 1) := by decide +kernel
theorem dL_clear_1 : decode cL_clear 1 = .ok (.iconst 0, 1) := by decide +kernel
theorem dL_clear_2 : decode cL_clear 2 = .ok (.aload_n 0, 1) := by decide +kernel
theorem dL_clear_3 : decode cL_clear 3 = .ok (.iload_n 1, 1) := by decide +kernel
theorem dL_clear_4 : decode cL_clear 4 = .ok (.iload_n 2, 1) := by decide +kernel
theorem dL_clear_5 : decode cL_clear 5 = .ok (.invokevirtual 84, 3) := by decide +kernel
theorem dL_clear_8 : decode cL_clear 8 = .ok (.i2l, 1) := by decide +kernel
theorem dL_clear_9 : decode cL_clear 9 = .ok (.lastore, 1) := by decide +kernel
theorem dL_clear_10 : decode cL_clear 10 = .ok (.goto 7, 3) := by decide +kernel
theorem dL_clear_13 : decode cL_clear 13 = .ok (.astore 4, 2) := by decide +kernel
theorem dL_clear_15 : decode cL_clear 15 = .ok (.iconst 1, 1) := by decide +kernel
theorem dL_clear_16 : decode cL_clear 16 = .ok (.ireturn, 1) := by decide +kernel
theorem dL_clear_17 : decode cL_clear 17 = .ok (.iconst 0, 1) := by decide +kernel
theorem dL_clear_18 : decode cL_clear 18 = .ok (.ireturn, 1) := by decide +kernel
def hL_clear (o : String ⊕ Int32) (ov : Nat → Int64) : Option (Int32 × (Nat → Int64)) := match o with
  | .inr r => some (0, vp_updL ov ((0 : Int32).toNatClampNeg) r.toInt64)
  | .inl E => if E = "java/lang/IndexOutOfBoundsException" then some (1, ov) else (none)
def pL_clear (E : String) : Nat := 13
theorem yw_L_clear : Cond.codeWith yL_clear cL_clear 5 (some .int) [(0, 10, 13, 24)] ∈ lw_tbl ∧ Cond.static yL_clear ∈ lw_tbl := ⟨(tb_5 (List.mem_of_getElem? (i := 103) (by decide +kernel))), (tb_5 (List.mem_of_getElem? (i := 102) (by decide +kernel)))⟩
set_option maxHeartbeats 4000000 in
set_option maxRecDepth 100000 in
theorem kL_clear {l : Launch} {G : GT} {Z : Nat → Nat × Nat} (ht : l.stackTraces = false) {V V2 : VT} {oa : Nat} {ov ov2 : Nat → Int64} {x1 : Int32} {x2 : Int32} {o : String ⊕ Int32} {rr : Int32} (h : fX9_clear V x1 x2 = some (o, V2)) (hr : hL_clear o ov = some (rr, ov2)) : HI l G (SH Z) yL_clear (.codeWith yL_clear cL_clear 5 (some .int) [(0, 10, 13, 24)]) 10 2 [.ref (G.2.2 0), .int x1, .int x2, .ref oa] V oa ov rr V2 ov2 := by
  intro sz
  refine hmet_of (Qs := fun sz => QO G oa sz rr V2 ov2) (SH_ok Z) (by decide) (Nat.le_of_ble_eq_true rfl) ?_ sz
  intro p e s m args below meth c ls E htab hw hl
  have hx := E.1
  have hb := E.2.1
  have hl : lv_has ls 5 [(0, .ref (G.2.2 0)), (1, .int x1), (2, .int x2), (3, .ref oa)] := hl
  have hca : ∀ Ec, o = .inl Ec → ct_at RL [(0, 10, 13, 24)] 5 Ec (pL_clear Ec) := by
    intro Ec e
    subst e
    unfold hL_clear at hr
    dsimp only at hr
    by_cases c0 : Ec = "java/lang/IndexOutOfBoundsException"
    · subst c0
      exact ⟨[], { startPc := 0, endPc := 10, handlerPc := 13, catchType := 24 }, [], rfl, (fun z hz => nomatch hz), by decide, by decide, ⟨_, lc_24, rfl⟩, by decide, tc_IndexOutOfBoundsException⟩
    · rw [if_neg c0] at hr
      cases hr
  refine lv_aload_n hx hb dL_clear_0 rfl (lv_at hl 3 rfl) ?_
  refine lv_iconst (v := (0 : Int32)) hx hb dL_clear_1 (by decide) ?_
  refine lv_aload_n hx hb dL_clear_2 rfl (lv_at hl 0 rfl) ?_
  refine lv_iload_n hx hb dL_clear_3 rfl (lv_at hl 1 rfl) ?_
  refine lv_iload_n hx hb dL_clear_4 rfl (lv_at hl 2 rfl) ?_
  refine h_VI (As := [.int x1, .int x2]) (hh := [(0, 10, 13, 24)]) (hp := pL_clear) E hw (kX9_clear (l := l) (G := G) (Z := Z) ht h) yy_X9_clear lm_RL_84 rfl rfl hl.1 (by decide) (by decide) (by decide) rfl (Nat.le_of_ble_eq_true rfl) dL_clear_5 htab hca (fun r H locs ho hw => ?_) (fun Ec q H locs ho hw => ?_)
  · subst ho
    unfold hL_clear at hr
    dsimp only at hr
    cases hr
    refine lv_i2l hx hb dL_clear_8 rfl ?_
    refine h_ls E hw vp_0_1 rfl dL_clear_9 (fun H locs hw => ?_)
    refine lv_goto (tgt := 17) hx hb dL_clear_10 (by decide) ?_
    refine lv_iconst (v := (0 : Int32)) hx hb dL_clear_17 (by decide) ?_
    exact h_ri E hw (by decide) (by decide) dL_clear_18
  · subst ho
    unfold hL_clear at hr
    dsimp only at hr
    by_cases c0 : Ec = "java/lang/IndexOutOfBoundsException"
    · subst c0
      have hr : some ((1 : Int32), ov) = some (rr, ov2) := by simpa using hr
      cases hr
      refine lv_astore (lv' := [(4, .ref q), (0, .ref (G.2.2 0)), (1, .int x1), (2, .int x2), (3, .ref oa)]) hx hb dL_clear_13 hl (by decide) rfl (fun ls hl => ?_)
      refine lv_iconst (v := (1 : Int32)) hx hb dL_clear_15 (by decide) ?_
      exact h_ri E hw (by decide) (by decide) dL_clear_16
    · rw [if_neg c0] at hr
      cases hr
/-! soonest -/
theorem dL_soonest_0 : decode cL_soonest 0 = .ok (.aload_n 3, 1) := by decide +kernel
theorem dL_soonest_1 : decode cL_soonest 1 = .ok (.iconst 0, 1) := by decide +kernel
theorem dL_soonest_2 : decode cL_soonest 2 = .ok (.aload_n 0, 1) := by decide +kernel
theorem dL_soonest_3 : decode cL_soonest 3 = .ok (.iload_n 1, 1) := by decide +kernel
theorem dL_soonest_4 : decode cL_soonest 4 = .ok (.iload_n 2, 1) := by decide +kernel
theorem dL_soonest_5 : decode cL_soonest 5 = .ok (.invokevirtual 87, 3) := by decide +kernel
theorem dL_soonest_8 : decode cL_soonest 8 = .ok (.i2l, 1) := by decide +kernel
theorem dL_soonest_9 : decode cL_soonest 9 = .ok (.lastore, 1) := by decide +kernel
theorem dL_soonest_10 : decode cL_soonest 10 = .ok (.goto 11, 3) := by decide +kernel
theorem dL_soonest_13 : decode cL_soonest 13 = .ok (.astore 4, 2) := by decide +kernel
theorem dL_soonest_15 : decode cL_soonest 15 = .ok (.iconst 1, 1) := by decide +kernel
theorem dL_soonest_16 : decode cL_soonest 16 = .ok (.ireturn, 1) := by decide +kernel
theorem dL_soonest_17 : decode cL_soonest 17 = .ok (.astore 4, 2) := by decide +kernel
theorem dL_soonest_19 : decode cL_soonest 19 = .ok (.iconst 2, 1) := by decide +kernel
theorem dL_soonest_20 : decode cL_soonest 20 = .ok (.ireturn, 1) := by decide +kernel
theorem dL_soonest_21 : decode cL_soonest 21 = .ok (.iconst 0, 1) := by decide +kernel
theorem dL_soonest_22 : decode cL_soonest 22 = .ok (.ireturn, 1) := by decide +kernel
def hL_soonest (o : String ⊕ Int32) (ov : Nat → Int64) : Option (Int32 × (Nat → Int64)) := match o with
  | .inr r => some (0, vp_updL ov ((0 : Int32).toNatClampNeg) r.toInt64)
  | .inl E => if E = "java/lang/IndexOutOfBoundsException" then some (1, ov) else (if E = "java/lang/IllegalArgumentException" then some (2, ov) else (none))
def pL_soonest (E : String) : Nat := if E = "java/lang/IndexOutOfBoundsException" then 13 else 17
theorem yw_L_soonest : Cond.codeWith yL_soonest cL_soonest 5 (some .int) [(0, 10, 13, 24), (0, 10, 17, 13)] ∈ lw_tbl ∧ Cond.static yL_soonest ∈ lw_tbl := ⟨(tb_5 (List.mem_of_getElem? (i := 111) (by decide +kernel))), (tb_5 (List.mem_of_getElem? (i := 110) (by decide +kernel)))⟩
set_option maxHeartbeats 4000000 in
set_option maxRecDepth 100000 in
theorem kL_soonest {l : Launch} {G : GT} {Z : Nat → Nat × Nat} (ht : l.stackTraces = false) {V V2 : VT} {oa : Nat} {ov ov2 : Nat → Int64} {x1 : Int32} {x2 : Int32} {o : String ⊕ Int32} {rr : Int32} (h : fX9_soonest V x1 x2 = some (o, V2)) (hr : hL_soonest o ov = some (rr, ov2)) : HI l G (SH Z) yL_soonest (.codeWith yL_soonest cL_soonest 5 (some .int) [(0, 10, 13, 24), (0, 10, 17, 13)]) 10 2 [.ref (G.2.2 0), .int x1, .int x2, .ref oa] V oa ov rr V2 ov2 := by
  intro sz
  refine hmet_of (Qs := fun sz => QO G oa sz rr V2 ov2) (SH_ok Z) (by decide) (Nat.le_of_ble_eq_true rfl) ?_ sz
  intro p e s m args below meth c ls E htab hw hl
  have hx := E.1
  have hb := E.2.1
  have hl : lv_has ls 5 [(0, .ref (G.2.2 0)), (1, .int x1), (2, .int x2), (3, .ref oa)] := hl
  have hca : ∀ Ec, o = .inl Ec → ct_at RL [(0, 10, 13, 24), (0, 10, 17, 13)] 5 Ec (pL_soonest Ec) := by
    intro Ec e
    subst e
    unfold hL_soonest at hr
    dsimp only at hr
    by_cases c0 : Ec = "java/lang/IndexOutOfBoundsException"
    · subst c0
      exact ⟨[], { startPc := 0, endPc := 10, handlerPc := 13, catchType := 24 }, [{ startPc := 0, endPc := 10, handlerPc := 17, catchType := 13 }], rfl, (fun z hz => nomatch hz), by decide, by decide, ⟨_, lc_24, rfl⟩, by decide, tc_IndexOutOfBoundsException⟩
    · rw [if_neg c0] at hr
      by_cases c1 : Ec = "java/lang/IllegalArgumentException"
      · subst c1
        exact ⟨[{ startPc := 0, endPc := 10, handlerPc := 13, catchType := 24 }], { startPc := 0, endPc := 10, handlerPc := 17, catchType := 13 }, [], rfl, (fun z hz => by rw [List.mem_singleton.mp hz]; exact Or.inr ⟨by decide, "java/lang/IndexOutOfBoundsException", lc_24, by decide⟩), by decide, by decide, ⟨_, lc_13, rfl⟩, by decide, tc_IllegalArgumentException⟩
      · rw [if_neg c1] at hr
        cases hr
  refine lv_aload_n hx hb dL_soonest_0 rfl (lv_at hl 3 rfl) ?_
  refine lv_iconst (v := (0 : Int32)) hx hb dL_soonest_1 (by decide) ?_
  refine lv_aload_n hx hb dL_soonest_2 rfl (lv_at hl 0 rfl) ?_
  refine lv_iload_n hx hb dL_soonest_3 rfl (lv_at hl 1 rfl) ?_
  refine lv_iload_n hx hb dL_soonest_4 rfl (lv_at hl 2 rfl) ?_
  refine h_VI (As := [.int x1, .int x2]) (hh := [(0, 10, 13, 24), (0, 10, 17, 13)]) (hp := pL_soonest) E hw (kX9_soonest (l := l) (G := G) (Z := Z) ht h) yy_X9_soonest lm_RL_87 rfl rfl hl.1 (by decide) (by decide) (by decide) rfl (Nat.le_of_ble_eq_true rfl) dL_soonest_5 htab hca (fun r H locs ho hw => ?_) (fun Ec q H locs ho hw => ?_)
  · subst ho
    unfold hL_soonest at hr
    dsimp only at hr
    cases hr
    refine lv_i2l hx hb dL_soonest_8 rfl ?_
    refine h_ls E hw vp_0_1 rfl dL_soonest_9 (fun H locs hw => ?_)
    refine lv_goto (tgt := 21) hx hb dL_soonest_10 (by decide) ?_
    refine lv_iconst (v := (0 : Int32)) hx hb dL_soonest_21 (by decide) ?_
    exact h_ri E hw (by decide) (by decide) dL_soonest_22
  · subst ho
    unfold hL_soonest at hr
    dsimp only at hr
    by_cases c0 : Ec = "java/lang/IndexOutOfBoundsException"
    · subst c0
      have hr : some ((1 : Int32), ov) = some (rr, ov2) := by simpa using hr
      cases hr
      refine lv_astore (lv' := [(4, .ref q), (0, .ref (G.2.2 0)), (1, .int x1), (2, .int x2), (3, .ref oa)]) hx hb dL_soonest_13 hl (by decide) rfl (fun ls hl => ?_)
      refine lv_iconst (v := (1 : Int32)) hx hb dL_soonest_15 (by decide) ?_
      exact h_ri E hw (by decide) (by decide) dL_soonest_16
    · rw [if_neg c0] at hr
      by_cases c1 : Ec = "java/lang/IllegalArgumentException"
      · subst c1
        have hr : some ((2 : Int32), ov) = some (rr, ov2) := by simpa using hr
        cases hr
        refine lv_astore (lv' := [(4, .ref q), (0, .ref (G.2.2 0)), (1, .int x1), (2, .int x2), (3, .ref oa)]) hx hb dL_soonest_17 hl (by decide) rfl (fun ls hl => ?_)
        refine lv_iconst (v := (2 : Int32)) hx hb dL_soonest_19 (by decide) ?_
        exact h_ri E hw (by decide) (by decide) dL_soonest_20
      · rw [if_neg c1] at hr
        cases hr
/-! ahead -/
theorem dL_ahead_0 : decode cL_ahead 0 = .ok (.aload_n 3, 1) := by decide +kernel
theorem dL_ahead_1 : decode cL_ahead 1 = .ok (.iconst 0, 1) := by decide +kernel
theorem dL_ahead_2 : decode cL_ahead 2 = .ok (.aload_n 0, 1) := by decide +kernel
theorem dL_ahead_3 : decode cL_ahead 3 = .ok (.iload_n 1, 1) := by decide +kernel
theorem dL_ahead_4 : decode cL_ahead 4 = .ok (.iload_n 2, 1) := by decide +kernel
theorem dL_ahead_5 : decode cL_ahead 5 = .ok (.invokevirtual 90, 3) := by decide +kernel
theorem dL_ahead_8 : decode cL_ahead 8 = .ok (.i2l, 1) := by decide +kernel
theorem dL_ahead_9 : decode cL_ahead 9 = .ok (.lastore, 1) := by decide +kernel
theorem dL_ahead_10 : decode cL_ahead 10 = .ok (.goto 7, 3) := by decide +kernel
theorem dL_ahead_13 : decode cL_ahead 13 = .ok (.astore 4, 2) := by decide +kernel
theorem dL_ahead_15 : decode cL_ahead 15 = .ok (.iconst 1, 1) := by decide +kernel
theorem dL_ahead_16 : decode cL_ahead 16 = .ok (.ireturn, 1) := by decide +kernel
theorem dL_ahead_17 : decode cL_ahead 17 = .ok (.iconst 0, 1) := by decide +kernel
theorem dL_ahead_18 : decode cL_ahead 18 = .ok (.ireturn, 1) := by decide +kernel
def hL_ahead (o : String ⊕ Int32) (ov : Nat → Int64) : Option (Int32 × (Nat → Int64)) := match o with
  | .inr r => some (0, vp_updL ov ((0 : Int32).toNatClampNeg) r.toInt64)
  | .inl E => if E = "java/lang/IllegalArgumentException" then some (1, ov) else (none)
def pL_ahead (E : String) : Nat := 13
theorem yw_L_ahead : Cond.codeWith yL_ahead cL_ahead 5 (some .int) [(0, 10, 13, 13)] ∈ lw_tbl ∧ Cond.static yL_ahead ∈ lw_tbl := ⟨(tb_5 (List.mem_of_getElem? (i := 121) (by decide +kernel))), (tb_5 (List.mem_of_getElem? (i := 120) (by decide +kernel)))⟩
set_option maxHeartbeats 4000000 in
set_option maxRecDepth 100000 in
theorem kL_ahead {l : Launch} {G : GT} {Z : Nat → Nat × Nat} (ht : l.stackTraces = false) {V V2 : VT} {oa : Nat} {ov ov2 : Nat → Int64} {x1 : Int32} {x2 : Int32} {o : String ⊕ Int32} {rr : Int32} (h : fX9_ahead V x1 x2 = some (o, V2)) (hr : hL_ahead o ov = some (rr, ov2)) : HI l G (SH Z) yL_ahead (.codeWith yL_ahead cL_ahead 5 (some .int) [(0, 10, 13, 13)]) 10 2 [.ref (G.2.2 0), .int x1, .int x2, .ref oa] V oa ov rr V2 ov2 := by
  intro sz
  refine hmet_of (Qs := fun sz => QO G oa sz rr V2 ov2) (SH_ok Z) (by decide) (Nat.le_of_ble_eq_true rfl) ?_ sz
  intro p e s m args below meth c ls E htab hw hl
  have hx := E.1
  have hb := E.2.1
  have hl : lv_has ls 5 [(0, .ref (G.2.2 0)), (1, .int x1), (2, .int x2), (3, .ref oa)] := hl
  have hca : ∀ Ec, o = .inl Ec → ct_at RL [(0, 10, 13, 13)] 5 Ec (pL_ahead Ec) := by
    intro Ec e
    subst e
    unfold hL_ahead at hr
    dsimp only at hr
    by_cases c0 : Ec = "java/lang/IllegalArgumentException"
    · subst c0
      exact ⟨[], { startPc := 0, endPc := 10, handlerPc := 13, catchType := 13 }, [], rfl, (fun z hz => nomatch hz), by decide, by decide, ⟨_, lc_13, rfl⟩, by decide, tc_IllegalArgumentException⟩
    · rw [if_neg c0] at hr
      cases hr
  refine lv_aload_n hx hb dL_ahead_0 rfl (lv_at hl 3 rfl) ?_
  refine lv_iconst (v := (0 : Int32)) hx hb dL_ahead_1 (by decide) ?_
  refine lv_aload_n hx hb dL_ahead_2 rfl (lv_at hl 0 rfl) ?_
  refine lv_iload_n hx hb dL_ahead_3 rfl (lv_at hl 1 rfl) ?_
  refine lv_iload_n hx hb dL_ahead_4 rfl (lv_at hl 2 rfl) ?_
  refine h_VI (As := [.int x1, .int x2]) (hh := [(0, 10, 13, 13)]) (hp := pL_ahead) E hw (kX9_ahead (l := l) (G := G) (Z := Z) ht h) yy_X9_ahead lm_RL_90 rfl rfl hl.1 (by decide) (by decide) (by decide) rfl (Nat.le_of_ble_eq_true rfl) dL_ahead_5 htab hca (fun r H locs ho hw => ?_) (fun Ec q H locs ho hw => ?_)
  · subst ho
    unfold hL_ahead at hr
    dsimp only at hr
    cases hr
    refine lv_i2l hx hb dL_ahead_8 rfl ?_
    refine h_ls E hw vp_0_1 rfl dL_ahead_9 (fun H locs hw => ?_)
    refine lv_goto (tgt := 17) hx hb dL_ahead_10 (by decide) ?_
    refine lv_iconst (v := (0 : Int32)) hx hb dL_ahead_17 (by decide) ?_
    exact h_ri E hw (by decide) (by decide) dL_ahead_18
  · subst ho
    unfold hL_ahead at hr
    dsimp only at hr
    by_cases c0 : Ec = "java/lang/IllegalArgumentException"
    · subst c0
      have hr : some ((1 : Int32), ov) = some (rr, ov2) := by simpa using hr
      cases hr
      refine lv_astore (lv' := [(4, .ref q), (0, .ref (G.2.2 0)), (1, .int x1), (2, .int x2), (3, .ref oa)]) hx hb dL_ahead_13 hl (by decide) rfl (fun ls hl => ?_)
      refine lv_iconst (v := (1 : Int32)) hx hb dL_ahead_15 (by decide) ?_
      exact h_ri E hw (by decide) (by decide) dL_ahead_16
    · rw [if_neg c0] at hr
      cases hr
/-! later -/
theorem dL_later_0 : decode cL_later 0 = .ok (.aload_n 2, 1) := by decide +kernel
theorem dL_later_1 : decode cL_later 1 = .ok (.iconst 0, 1) := by decide +kernel
theorem dL_later_2 : decode cL_later 2 = .ok (.aload_n 0, 1) := by decide +kernel
theorem dL_later_3 : decode cL_later 3 = .ok (.iload_n 1, 1) := by decide +kernel
theorem dL_later_4 : decode cL_later 4 = .ok (.invokevirtual 93, 3) := by decide +kernel
theorem dL_later_7 : decode cL_later 7 = .ok (.i2l, 1) := by decide +kernel
theorem dL_later_8 : decode cL_later 8 = .ok (.lastore, 1) := by decide +kernel
theorem dL_later_9 : decode cL_later 9 = .ok (.goto 6, 3) := by decide +kernel
theorem dL_later_12 : decode cL_later 12 = .ok (.astore_n 3, 1) := by decide +kernel
theorem dL_later_13 : decode cL_later 13 = .ok (.iconst 1, 1) := by decide +kernel
theorem dL_later_14 : decode cL_later 14 = .ok (.ireturn, 1) := by decide +kernel
theorem dL_later_15 : decode cL_later 15 = .ok (.iconst 0, 1) := by decide +kernel
theorem dL_later_16 : decode cL_later 16 = .ok (.ireturn, 1) := by decide +kernel
def hL_later (o : String ⊕ Int32) (ov : Nat → Int64) : Option (Int32 × (Nat → Int64)) := match o with
  | .inr r => some (0, vp_updL ov ((0 : Int32).toNatClampNeg) r.toInt64)
  | .inl E => if E = "java/lang/IllegalArgumentException" then some (1, ov) else (none)
def pL_later (E : String) : Nat := 12
theorem yw_L_later : Cond.codeWith yL_later cL_later 4 (some .int) [(0, 9, 12, 13)] ∈ lw_tbl ∧ Cond.static yL_later ∈ lw_tbl := ⟨(tb_5 (List.mem_of_getElem? (i := 128) (by decide +kernel))), (tb_5 (List.mem_of_getElem? (i := 127) (by decide +kernel)))⟩
set_option maxHeartbeats 4000000 in
set_option maxRecDepth 100000 in
theorem kL_later {l : Launch} {G : GT} {Z : Nat → Nat × Nat} (ht : l.stackTraces = false) {V V2 : VT} {oa : Nat} {ov ov2 : Nat → Int64} {x1 : Int32} {o : String ⊕ Int32} {rr : Int32} (h : fX9_later V x1 = some (o, V2)) (hr : hL_later o ov = some (rr, ov2)) : HI l G (SH Z) yL_later (.codeWith yL_later cL_later 4 (some .int) [(0, 9, 12, 13)]) 10 1 [.ref (G.2.2 0), .int x1, .ref oa] V oa ov rr V2 ov2 := by
  intro sz
  refine hmet_of (Qs := fun sz => QO G oa sz rr V2 ov2) (SH_ok Z) (by decide) (Nat.le_of_ble_eq_true rfl) ?_ sz
  intro p e s m args below meth c ls E htab hw hl
  have hx := E.1
  have hb := E.2.1
  have hl : lv_has ls 4 [(0, .ref (G.2.2 0)), (1, .int x1), (2, .ref oa)] := hl
  have hca : ∀ Ec, o = .inl Ec → ct_at RL [(0, 9, 12, 13)] 4 Ec (pL_later Ec) := by
    intro Ec e
    subst e
    unfold hL_later at hr
    dsimp only at hr
    by_cases c0 : Ec = "java/lang/IllegalArgumentException"
    · subst c0
      exact ⟨[], { startPc := 0, endPc := 9, handlerPc := 12, catchType := 13 }, [], rfl, (fun z hz => nomatch hz), by decide, by decide, ⟨_, lc_13, rfl⟩, by decide, tc_IllegalArgumentException⟩
    · rw [if_neg c0] at hr
      cases hr
  refine lv_aload_n hx hb dL_later_0 rfl (lv_at hl 2 rfl) ?_
  refine lv_iconst (v := (0 : Int32)) hx hb dL_later_1 (by decide) ?_
  refine lv_aload_n hx hb dL_later_2 rfl (lv_at hl 0 rfl) ?_
  refine lv_iload_n hx hb dL_later_3 rfl (lv_at hl 1 rfl) ?_
  refine h_VI (As := [.int x1]) (hh := [(0, 9, 12, 13)]) (hp := pL_later) E hw (kX9_later (l := l) (G := G) (Z := Z) ht h) yy_X9_later lm_RL_93 rfl rfl hl.1 (by decide) (by decide) (by decide) rfl (Nat.le_of_ble_eq_true rfl) dL_later_4 htab hca (fun r H locs ho hw => ?_) (fun Ec q H locs ho hw => ?_)
  · subst ho
    unfold hL_later at hr
    dsimp only at hr
    cases hr
    refine lv_i2l hx hb dL_later_7 rfl ?_
    refine h_ls E hw vp_0_1 rfl dL_later_8 (fun H locs hw => ?_)
    refine lv_goto (tgt := 15) hx hb dL_later_9 (by decide) ?_
    refine lv_iconst (v := (0 : Int32)) hx hb dL_later_15 (by decide) ?_
    exact h_ri E hw (by decide) (by decide) dL_later_16
  · subst ho
    unfold hL_later at hr
    dsimp only at hr
    by_cases c0 : Ec = "java/lang/IllegalArgumentException"
    · subst c0
      have hr : some ((1 : Int32), ov) = some (rr, ov2) := by simpa using hr
      cases hr
      refine lv_astore_n (lv' := [(3, .ref q), (0, .ref (G.2.2 0)), (1, .int x1), (2, .ref oa)]) hx hb dL_later_12 rfl hl (by decide) rfl (fun ls hl => ?_)
      refine lv_iconst (v := (1 : Int32)) hx hb dL_later_13 (by decide) ?_
      exact h_ri E hw (by decide) (by decide) dL_later_14
    · rw [if_neg c0] at hr
      cases hr
/-! denied -/
theorem dL_denied_0 : decode cL_denied 0 = .ok (.aload_n 2, 1) := by decide +kernel
theorem dL_denied_1 : decode cL_denied 1 = .ok (.iconst 0, 1) := by decide +kernel
theorem dL_denied_2 : decode cL_denied 2 = .ok (.aload_n 0, 1) := by decide +kernel
theorem dL_denied_3 : decode cL_denied 3 = .ok (.iload_n 1, 1) := by decide +kernel
theorem dL_denied_4 : decode cL_denied 4 = .ok (.invokevirtual 96, 3) := by decide +kernel
theorem dL_denied_7 : decode cL_denied 7 = .ok (.i2l, 1) := by decide +kernel
theorem dL_denied_8 : decode cL_denied 8 = .ok (.lastore, 1) := by decide +kernel
theorem dL_denied_9 : decode cL_denied 9 = .ok (.goto 6, 3) := by decide +kernel
theorem dL_denied_12 : decode cL_denied 12 = .ok (.astore_n 3, 1) := by decide +kernel
theorem dL_denied_13 : decode cL_denied 13 = .ok (.iconst 1, 1) := by decide +kernel
theorem dL_denied_14 : decode cL_denied 14 = .ok (.ireturn, 1) := by decide +kernel
theorem dL_denied_15 : decode cL_denied 15 = .ok (.iconst 0, 1) := by decide +kernel
theorem dL_denied_16 : decode cL_denied 16 = .ok (.ireturn, 1) := by decide +kernel
def hL_denied (o : String ⊕ Int32) (ov : Nat → Int64) : Option (Int32 × (Nat → Int64)) := match o with
  | .inr r => some (0, vp_updL ov ((0 : Int32).toNatClampNeg) r.toInt64)
  | .inl E => if E = "java/lang/IllegalArgumentException" then some (1, ov) else (none)
def pL_denied (E : String) : Nat := 12
theorem yw_L_denied : Cond.codeWith yL_denied cL_denied 4 (some .int) [(0, 9, 12, 13)] ∈ lw_tbl ∧ Cond.static yL_denied ∈ lw_tbl := ⟨(tb_5 (List.mem_of_getElem? (i := 135) (by decide +kernel))), (tb_5 (List.mem_of_getElem? (i := 134) (by decide +kernel)))⟩
set_option maxHeartbeats 4000000 in
set_option maxRecDepth 100000 in
theorem kL_denied {l : Launch} {G : GT} {Z : Nat → Nat × Nat} (ht : l.stackTraces = false) {V V2 : VT} {oa : Nat} {ov ov2 : Nat → Int64} {x1 : Int32} {o : String ⊕ Int32} {rr : Int32} (h : fX9_denied V x1 = some (o, V2)) (hr : hL_denied o ov = some (rr, ov2)) : HI l G (SH Z) yL_denied (.codeWith yL_denied cL_denied 4 (some .int) [(0, 9, 12, 13)]) 8 1 [.ref (G.2.2 0), .int x1, .ref oa] V oa ov rr V2 ov2 := by
  intro sz
  refine hmet_of (Qs := fun sz => QO G oa sz rr V2 ov2) (SH_ok Z) (by decide) (Nat.le_of_ble_eq_true rfl) ?_ sz
  intro p e s m args below meth c ls E htab hw hl
  have hx := E.1
  have hb := E.2.1
  have hl : lv_has ls 4 [(0, .ref (G.2.2 0)), (1, .int x1), (2, .ref oa)] := hl
  have hca : ∀ Ec, o = .inl Ec → ct_at RL [(0, 9, 12, 13)] 4 Ec (pL_denied Ec) := by
    intro Ec e
    subst e
    unfold hL_denied at hr
    dsimp only at hr
    by_cases c0 : Ec = "java/lang/IllegalArgumentException"
    · subst c0
      exact ⟨[], { startPc := 0, endPc := 9, handlerPc := 12, catchType := 13 }, [], rfl, (fun z hz => nomatch hz), by decide, by decide, ⟨_, lc_13, rfl⟩, by decide, tc_IllegalArgumentException⟩
    · rw [if_neg c0] at hr
      cases hr
  refine lv_aload_n hx hb dL_denied_0 rfl (lv_at hl 2 rfl) ?_
  refine lv_iconst (v := (0 : Int32)) hx hb dL_denied_1 (by decide) ?_
  refine lv_aload_n hx hb dL_denied_2 rfl (lv_at hl 0 rfl) ?_
  refine lv_iload_n hx hb dL_denied_3 rfl (lv_at hl 1 rfl) ?_
  refine h_VI (As := [.int x1]) (hh := [(0, 9, 12, 13)]) (hp := pL_denied) E hw (kX9_denied (l := l) (G := G) (Z := Z) ht h) yy_X9_denied lm_RL_96 rfl rfl hl.1 (by decide) (by decide) (by decide) rfl (Nat.le_of_ble_eq_true rfl) dL_denied_4 htab hca (fun r H locs ho hw => ?_) (fun Ec q H locs ho hw => ?_)
  · subst ho
    unfold hL_denied at hr
    dsimp only at hr
    cases hr
    refine lv_i2l hx hb dL_denied_7 rfl ?_
    refine h_ls E hw vp_0_1 rfl dL_denied_8 (fun H locs hw => ?_)
    refine lv_goto (tgt := 15) hx hb dL_denied_9 (by decide) ?_
    refine lv_iconst (v := (0 : Int32)) hx hb dL_denied_15 (by decide) ?_
    exact h_ri E hw (by decide) (by decide) dL_denied_16
  · subst ho
    unfold hL_denied at hr
    dsimp only at hr
    by_cases c0 : Ec = "java/lang/IllegalArgumentException"
    · subst c0
      have hr : some ((1 : Int32), ov) = some (rr, ov2) := by simpa using hr
      cases hr
      refine lv_astore_n (lv' := [(3, .ref q), (0, .ref (G.2.2 0)), (1, .int x1), (2, .ref oa)]) hx hb dL_denied_12 rfl hl (by decide) rfl (fun ls hl => ?_)
      refine lv_iconst (v := (1 : Int32)) hx hb dL_denied_13 (by decide) ?_
      exact h_ri E hw (by decide) (by decide) dL_denied_14
    · rw [if_neg c0] at hr
      cases hr
/-! ask -/
theorem dL_ask_0 : decode cL_ask 0 = .ok (.aload_n 1, 1) := by decide +kernel
theorem dL_ask_1 : decode cL_ask 1 = .ok (.iconst 0, 1) := by decide +kernel
theorem dL_ask_2 : decode cL_ask 2 = .ok (.aload_n 0, 1) := by decide +kernel
theorem dL_ask_3 : decode cL_ask 3 = .ok (.invokevirtual 100, 3) := by decide +kernel
theorem dL_ask_6 : decode cL_ask 6 = .ok (.i2l, 1) := by decide +kernel
theorem dL_ask_7 : decode cL_ask 7 = .ok (.lastore, 1) := by decide +kernel
theorem dL_ask_8 : decode cL_ask 8 = .ok (.goto 6, 3) := by decide +kernel
theorem dL_ask_11 : decode cL_ask 11 = .ok (.astore_n 2, 1) := by decide +kernel
theorem dL_ask_12 : decode cL_ask 12 = .ok (.iconst 1, 1) := by decide +kernel
theorem dL_ask_13 : decode cL_ask 13 = .ok (.ireturn, 1) := by decide +kernel
theorem dL_ask_14 : decode cL_ask 14 = .ok (.iconst 0, 1) := by decide +kernel
theorem dL_ask_15 : decode cL_ask 15 = .ok (.ireturn, 1) := by decide +kernel
def hL_ask (o : String ⊕ Int32) (ov : Nat → Int64) : Option (Int32 × (Nat → Int64)) := match o with
  | .inr r => some (0, vp_updL ov ((0 : Int32).toNatClampNeg) r.toInt64)
  | .inl E => if E = "java/lang/IllegalArgumentException" then some (1, ov) else (none)
def pL_ask (E : String) : Nat := 11
theorem yw_L_ask : Cond.codeWith yL_ask cL_ask 3 (some .int) [(0, 8, 11, 13)] ∈ lw_tbl ∧ Cond.static yL_ask ∈ lw_tbl := ⟨(tb_5 (List.mem_of_getElem? (i := 157) (by decide +kernel))), (tb_5 (List.mem_of_getElem? (i := 156) (by decide +kernel)))⟩
set_option maxHeartbeats 4000000 in
set_option maxRecDepth 100000 in
theorem kL_ask {l : Launch} {G : GT} {Z : Nat → Nat × Nat} (ht : l.stackTraces = false) {V V2 : VT} {oa : Nat} {ov ov2 : Nat → Int64} {o : String ⊕ Int32} {rr : Int32} (h : fX9_ask V  = some (o, V2)) (hr : hL_ask o ov = some (rr, ov2)) : HI l G (SH Z) yL_ask (.codeWith yL_ask cL_ask 3 (some .int) [(0, 8, 11, 13)]) 8 1 [.ref (G.2.2 0), .ref oa] V oa ov rr V2 ov2 := by
  intro sz
  refine hmet_of (Qs := fun sz => QO G oa sz rr V2 ov2) (SH_ok Z) (by decide) (Nat.le_of_ble_eq_true rfl) ?_ sz
  intro p e s m args below meth c ls E htab hw hl
  have hx := E.1
  have hb := E.2.1
  have hl : lv_has ls 3 [(0, .ref (G.2.2 0)), (1, .ref oa)] := hl
  have hca : ∀ Ec, o = .inl Ec → ct_at RL [(0, 8, 11, 13)] 3 Ec (pL_ask Ec) := by
    intro Ec e
    subst e
    unfold hL_ask at hr
    dsimp only at hr
    by_cases c0 : Ec = "java/lang/IllegalArgumentException"
    · subst c0
      exact ⟨[], { startPc := 0, endPc := 8, handlerPc := 11, catchType := 13 }, [], rfl, (fun z hz => nomatch hz), by decide, by decide, ⟨_, lc_13, rfl⟩, by decide, tc_IllegalArgumentException⟩
    · rw [if_neg c0] at hr
      cases hr
  refine lv_aload_n hx hb dL_ask_0 rfl (lv_at hl 1 rfl) ?_
  refine lv_iconst (v := (0 : Int32)) hx hb dL_ask_1 (by decide) ?_
  refine lv_aload_n hx hb dL_ask_2 rfl (lv_at hl 0 rfl) ?_
  refine h_VI (As := []) (hh := [(0, 8, 11, 13)]) (hp := pL_ask) E hw (kX9_ask (l := l) (G := G) (Z := Z) ht h) yy_X9_ask lm_RL_100 rfl rfl hl.1 (by decide) (by decide) (by decide) rfl (Nat.le_of_ble_eq_true rfl) dL_ask_3 htab hca (fun r H locs ho hw => ?_) (fun Ec q H locs ho hw => ?_)
  · subst ho
    unfold hL_ask at hr
    dsimp only at hr
    cases hr
    refine lv_i2l hx hb dL_ask_6 rfl ?_
    refine h_ls E hw vp_0_1 rfl dL_ask_7 (fun H locs hw => ?_)
    refine lv_goto (tgt := 14) hx hb dL_ask_8 (by decide) ?_
    refine lv_iconst (v := (0 : Int32)) hx hb dL_ask_14 (by decide) ?_
    exact h_ri E hw (by decide) (by decide) dL_ask_15
  · subst ho
    unfold hL_ask at hr
    dsimp only at hr
    by_cases c0 : Ec = "java/lang/IllegalArgumentException"
    · subst c0
      have hr : some ((1 : Int32), ov) = some (rr, ov2) := by simpa using hr
      cases hr
      refine lv_astore_n (lv' := [(2, .ref q), (0, .ref (G.2.2 0)), (1, .ref oa)]) hx hb dL_ask_11 rfl hl (by decide) rfl (fun ls hl => ?_)
      refine lv_iconst (v := (1 : Int32)) hx hb dL_ask_12 (by decide) ?_
      exact h_ri E hw (by decide) (by decide) dL_ask_13
    · rw [if_neg c0] at hr
      cases hr
/-! eyes -/
theorem dL_eyes_0 : decode cL_eyes 0 = .ok (.aload_n 2, 1) := by decide +kernel
theorem dL_eyes_1 : decode cL_eyes 1 = .ok (.iconst 0, 1) := by decide +kernel
theorem dL_eyes_2 : decode cL_eyes 2 = .ok (.aload_n 0, 1) := by decide +kernel
theorem dL_eyes_3 : decode cL_eyes 3 = .ok (.iload_n 1, 1) := by decide +kernel
theorem dL_eyes_4 : decode cL_eyes 4 = .ok (.invokevirtual 103, 3) := by decide +kernel
theorem dL_eyes_7 : decode cL_eyes 7 = .ok (.i2l, 1) := by decide +kernel
theorem dL_eyes_8 : decode cL_eyes 8 = .ok (.lastore, 1) := by decide +kernel
theorem dL_eyes_9 : decode cL_eyes 9 = .ok (.goto 6, 3) := by decide +kernel
theorem dL_eyes_12 : decode cL_eyes 12 = .ok (.astore_n 3, 1) := by decide +kernel
theorem dL_eyes_13 : decode cL_eyes 13 = .ok (.iconst 1, 1) := by decide +kernel
theorem dL_eyes_14 : decode cL_eyes 14 = .ok (.ireturn, 1) := by decide +kernel
theorem dL_eyes_15 : decode cL_eyes 15 = .ok (.iconst 0, 1) := by decide +kernel
theorem dL_eyes_16 : decode cL_eyes 16 = .ok (.ireturn, 1) := by decide +kernel
def hL_eyes (o : String ⊕ Int32) (ov : Nat → Int64) : Option (Int32 × (Nat → Int64)) := match o with
  | .inr r => some (0, vp_updL ov ((0 : Int32).toNatClampNeg) r.toInt64)
  | .inl E => if E = "java/lang/IndexOutOfBoundsException" then some (1, ov) else (none)
def pL_eyes (E : String) : Nat := 12
theorem yw_L_eyes : Cond.codeWith yL_eyes cL_eyes 4 (some .int) [(0, 9, 12, 24)] ∈ lw_tbl ∧ Cond.static yL_eyes ∈ lw_tbl := ⟨(tb_5 (List.mem_of_getElem? (i := 169) (by decide +kernel))), (tb_5 (List.mem_of_getElem? (i := 168) (by decide +kernel)))⟩
set_option maxHeartbeats 4000000 in
set_option maxRecDepth 100000 in
theorem kL_eyes {l : Launch} {G : GT} {Z : Nat → Nat × Nat} (ht : l.stackTraces = false) {V V2 : VT} {oa : Nat} {ov ov2 : Nat → Int64} {x1 : Int32} {o : String ⊕ Int32} {rr : Int32} (h : fX9_eyes V x1 = some (o, V2)) (hr : hL_eyes o ov = some (rr, ov2)) : HI l G (SH Z) yL_eyes (.codeWith yL_eyes cL_eyes 4 (some .int) [(0, 9, 12, 24)]) 10 1 [.ref (G.2.2 0), .int x1, .ref oa] V oa ov rr V2 ov2 := by
  intro sz
  refine hmet_of (Qs := fun sz => QO G oa sz rr V2 ov2) (SH_ok Z) (by decide) (Nat.le_of_ble_eq_true rfl) ?_ sz
  intro p e s m args below meth c ls E htab hw hl
  have hx := E.1
  have hb := E.2.1
  have hl : lv_has ls 4 [(0, .ref (G.2.2 0)), (1, .int x1), (2, .ref oa)] := hl
  have hca : ∀ Ec, o = .inl Ec → ct_at RL [(0, 9, 12, 24)] 4 Ec (pL_eyes Ec) := by
    intro Ec e
    subst e
    unfold hL_eyes at hr
    dsimp only at hr
    by_cases c0 : Ec = "java/lang/IndexOutOfBoundsException"
    · subst c0
      exact ⟨[], { startPc := 0, endPc := 9, handlerPc := 12, catchType := 24 }, [], rfl, (fun z hz => nomatch hz), by decide, by decide, ⟨_, lc_24, rfl⟩, by decide, tc_IndexOutOfBoundsException⟩
    · rw [if_neg c0] at hr
      cases hr
  refine lv_aload_n hx hb dL_eyes_0 rfl (lv_at hl 2 rfl) ?_
  refine lv_iconst (v := (0 : Int32)) hx hb dL_eyes_1 (by decide) ?_
  refine lv_aload_n hx hb dL_eyes_2 rfl (lv_at hl 0 rfl) ?_
  refine lv_iload_n hx hb dL_eyes_3 rfl (lv_at hl 1 rfl) ?_
  refine h_VI (As := [.int x1]) (hh := [(0, 9, 12, 24)]) (hp := pL_eyes) E hw (kX9_eyes (l := l) (G := G) (Z := Z) ht h) yy_X9_eyes lm_RL_103 rfl rfl hl.1 (by decide) (by decide) (by decide) rfl (Nat.le_of_ble_eq_true rfl) dL_eyes_4 htab hca (fun r H locs ho hw => ?_) (fun Ec q H locs ho hw => ?_)
  · subst ho
    unfold hL_eyes at hr
    dsimp only at hr
    cases hr
    refine lv_i2l hx hb dL_eyes_7 rfl ?_
    refine h_ls E hw vp_0_1 rfl dL_eyes_8 (fun H locs hw => ?_)
    refine lv_goto (tgt := 15) hx hb dL_eyes_9 (by decide) ?_
    refine lv_iconst (v := (0 : Int32)) hx hb dL_eyes_15 (by decide) ?_
    exact h_ri E hw (by decide) (by decide) dL_eyes_16
  · subst ho
    unfold hL_eyes at hr
    dsimp only at hr
    by_cases c0 : Ec = "java/lang/IndexOutOfBoundsException"
    · subst c0
      have hr : some ((1 : Int32), ov) = some (rr, ov2) := by simpa using hr
      cases hr
      refine lv_astore_n (lv' := [(3, .ref q), (0, .ref (G.2.2 0)), (1, .int x1), (2, .ref oa)]) hx hb dL_eyes_12 rfl hl (by decide) rfl (fun ls hl => ?_)
      refine lv_iconst (v := (1 : Int32)) hx hb dL_eyes_13 (by decide) ?_
      exact h_ri E hw (by decide) (by decide) dL_eyes_14
    · rw [if_neg c0] at hr
      cases hr
/-! alone -/
theorem dL_alone_0 : decode cL_alone 0 = .ok (.aload_n 3, 1) := by decide +kernel
theorem dL_alone_1 : decode cL_alone 1 = .ok (.iconst 0, 1) := by decide +kernel
theorem dL_alone_2 : decode cL_alone 2 = .ok (.aload_n 0, 1) := by decide +kernel
theorem dL_alone_3 : decode cL_alone 3 = .ok (.iload_n 1, 1) := by decide +kernel
theorem dL_alone_4 : decode cL_alone 4 = .ok (.iload_n 2, 1) := by decide +kernel
theorem dL_alone_5 : decode cL_alone 5 = .ok (.invokevirtual 106, 3) := by decide +kernel
theorem dL_alone_8 : decode cL_alone 8 = .ok (.i2l, 1) := by decide +kernel
theorem dL_alone_9 : decode cL_alone 9 = .ok (.lastore, 1) := by decide +kernel
theorem dL_alone_10 : decode cL_alone 10 = .ok (.goto 7, 3) := by decide +kernel
theorem dL_alone_13 : decode cL_alone 13 = .ok (.astore 4, 2) := by decide +kernel
theorem dL_alone_15 : decode cL_alone 15 = .ok (.iconst 1, 1) := by decide +kernel
theorem dL_alone_16 : decode cL_alone 16 = .ok (.ireturn, 1) := by decide +kernel
theorem dL_alone_17 : decode cL_alone 17 = .ok (.iconst 0, 1) := by decide +kernel
theorem dL_alone_18 : decode cL_alone 18 = .ok (.ireturn, 1) := by decide +kernel
def hL_alone (o : String ⊕ Int32) (ov : Nat → Int64) : Option (Int32 × (Nat → Int64)) := match o with
  | .inr r => some (0, vp_updL ov ((0 : Int32).toNatClampNeg) r.toInt64)
  | .inl E => if E = "java/lang/IndexOutOfBoundsException" then some (1, ov) else (none)
def pL_alone (E : String) : Nat := 13
theorem yw_L_alone : Cond.codeWith yL_alone cL_alone 5 (some .int) [(0, 10, 13, 24)] ∈ lw_tbl ∧ Cond.static yL_alone ∈ lw_tbl := ⟨(tb_5 (List.mem_of_getElem? (i := 185) (by decide +kernel))), (tb_5 (List.mem_of_getElem? (i := 184) (by decide +kernel)))⟩
set_option maxHeartbeats 4000000 in
set_option maxRecDepth 100000 in
theorem kL_alone {l : Launch} {G : GT} {Z : Nat → Nat × Nat} (ht : l.stackTraces = false) {V V2 : VT} {oa : Nat} {ov ov2 : Nat → Int64} {x1 : Int32} {x2 : Int32} {o : String ⊕ Int32} {rr : Int32} (h : fX9_alone V x1 x2 = some (o, V2)) (hr : hL_alone o ov = some (rr, ov2)) : HI l G (SH Z) yL_alone (.codeWith yL_alone cL_alone 5 (some .int) [(0, 10, 13, 24)]) 10 2 [.ref (G.2.2 0), .int x1, .int x2, .ref oa] V oa ov rr V2 ov2 := by
  intro sz
  refine hmet_of (Qs := fun sz => QO G oa sz rr V2 ov2) (SH_ok Z) (by decide) (Nat.le_of_ble_eq_true rfl) ?_ sz
  intro p e s m args below meth c ls E htab hw hl
  have hx := E.1
  have hb := E.2.1
  have hl : lv_has ls 5 [(0, .ref (G.2.2 0)), (1, .int x1), (2, .int x2), (3, .ref oa)] := hl
  have hca : ∀ Ec, o = .inl Ec → ct_at RL [(0, 10, 13, 24)] 5 Ec (pL_alone Ec) := by
    intro Ec e
    subst e
    unfold hL_alone at hr
    dsimp only at hr
    by_cases c0 : Ec = "java/lang/IndexOutOfBoundsException"
    · subst c0
      exact ⟨[], { startPc := 0, endPc := 10, handlerPc := 13, catchType := 24 }, [], rfl, (fun z hz => nomatch hz), by decide, by decide, ⟨_, lc_24, rfl⟩, by decide, tc_IndexOutOfBoundsException⟩
    · rw [if_neg c0] at hr
      cases hr
  refine lv_aload_n hx hb dL_alone_0 rfl (lv_at hl 3 rfl) ?_
  refine lv_iconst (v := (0 : Int32)) hx hb dL_alone_1 (by decide) ?_
  refine lv_aload_n hx hb dL_alone_2 rfl (lv_at hl 0 rfl) ?_
  refine lv_iload_n hx hb dL_alone_3 rfl (lv_at hl 1 rfl) ?_
  refine lv_iload_n hx hb dL_alone_4 rfl (lv_at hl 2 rfl) ?_
  refine h_VI (As := [.int x1, .int x2]) (hh := [(0, 10, 13, 24)]) (hp := pL_alone) E hw (kX9_alone (l := l) (G := G) (Z := Z) ht h) yy_X9_alone lm_RL_106 rfl rfl hl.1 (by decide) (by decide) (by decide) rfl (Nat.le_of_ble_eq_true rfl) dL_alone_5 htab hca (fun r H locs ho hw => ?_) (fun Ec q H locs ho hw => ?_)
  · subst ho
    unfold hL_alone at hr
    dsimp only at hr
    cases hr
    refine lv_i2l hx hb dL_alone_8 rfl ?_
    refine h_ls E hw vp_0_1 rfl dL_alone_9 (fun H locs hw => ?_)
    refine lv_goto (tgt := 17) hx hb dL_alone_10 (by decide) ?_
    refine lv_iconst (v := (0 : Int32)) hx hb dL_alone_17 (by decide) ?_
    exact h_ri E hw (by decide) (by decide) dL_alone_18
  · subst ho
    unfold hL_alone at hr
    dsimp only at hr
    by_cases c0 : Ec = "java/lang/IndexOutOfBoundsException"
    · subst c0
      have hr : some ((1 : Int32), ov) = some (rr, ov2) := by simpa using hr
      cases hr
      refine lv_astore (lv' := [(4, .ref q), (0, .ref (G.2.2 0)), (1, .int x1), (2, .int x2), (3, .ref oa)]) hx hb dL_alone_13 hl (by decide) rfl (fun ls hl => ?_)
      refine lv_iconst (v := (1 : Int32)) hx hb dL_alone_15 (by decide) ?_
      exact h_ri E hw (by decide) (by decide) dL_alone_16
    · rw [if_neg c0] at hr
      cases hr
/-! trial -/
theorem dL_trial_0 : decode cL_trial 0 = .ok (.aload_n 3, 1) := by decide +kernel
theorem dL_trial_1 : decode cL_trial 1 = .ok (.iconst 0, 1) := by decide +kernel
theorem dL_trial_2 : decode cL_trial 2 = .ok (.aload_n 0, 1) := by decide +kernel
theorem dL_trial_3 : decode cL_trial 3 = .ok (.iload_n 1, 1) := by decide +kernel
theorem dL_trial_4 : decode cL_trial 4 = .ok (.iload_n 2, 1) := by decide +kernel
theorem dL_trial_5 : decode cL_trial 5 = .ok (.invokevirtual 109, 3) := by decide +kernel
theorem dL_trial_8 : decode cL_trial 8 = .ok (.i2l, 1) := by decide +kernel
theorem dL_trial_9 : decode cL_trial 9 = .ok (.lastore, 1) := by decide +kernel
theorem dL_trial_10 : decode cL_trial 10 = .ok (.goto 7, 3) := by decide +kernel
theorem dL_trial_13 : decode cL_trial 13 = .ok (.astore 4, 2) := by decide +kernel
theorem dL_trial_15 : decode cL_trial 15 = .ok (.iconst 1, 1) := by decide +kernel
theorem dL_trial_16 : decode cL_trial 16 = .ok (.ireturn, 1) := by decide +kernel
theorem dL_trial_17 : decode cL_trial 17 = .ok (.iconst 0, 1) := by decide +kernel
theorem dL_trial_18 : decode cL_trial 18 = .ok (.ireturn, 1) := by decide +kernel
def hL_trial (o : String ⊕ Int32) (ov : Nat → Int64) : Option (Int32 × (Nat → Int64)) := match o with
  | .inr r => some (0, vp_updL ov ((0 : Int32).toNatClampNeg) r.toInt64)
  | .inl E => if E = "java/lang/IllegalArgumentException" then some (1, ov) else (none)
def pL_trial (E : String) : Nat := 13
theorem yw_L_trial : Cond.codeWith yL_trial cL_trial 5 (some .int) [(0, 10, 13, 13)] ∈ lw_tbl ∧ Cond.static yL_trial ∈ lw_tbl := ⟨(tb_5 (List.mem_of_getElem? (i := 196) (by decide +kernel))), (tb_5 (List.mem_of_getElem? (i := 195) (by decide +kernel)))⟩
set_option maxHeartbeats 4000000 in
set_option maxRecDepth 100000 in
theorem kL_trial {l : Launch} {G : GT} {Z : Nat → Nat × Nat} (ht : l.stackTraces = false) {V V2 : VT} {oa : Nat} {ov ov2 : Nat → Int64} {x1 : Int32} {x2 : Int32} {o : String ⊕ Int32} {rr : Int32} (h : fX9_trial V x1 x2 = some (o, V2)) (hr : hL_trial o ov = some (rr, ov2)) : HI l G (SH Z) yL_trial (.codeWith yL_trial cL_trial 5 (some .int) [(0, 10, 13, 13)]) 10 1 [.ref (G.2.2 0), .int x1, .int x2, .ref oa] V oa ov rr V2 ov2 := by
  intro sz
  refine hmet_of (Qs := fun sz => QO G oa sz rr V2 ov2) (SH_ok Z) (by decide) (Nat.le_of_ble_eq_true rfl) ?_ sz
  intro p e s m args below meth c ls E htab hw hl
  have hx := E.1
  have hb := E.2.1
  have hl : lv_has ls 5 [(0, .ref (G.2.2 0)), (1, .int x1), (2, .int x2), (3, .ref oa)] := hl
  have hca : ∀ Ec, o = .inl Ec → ct_at RL [(0, 10, 13, 13)] 5 Ec (pL_trial Ec) := by
    intro Ec e
    subst e
    unfold hL_trial at hr
    dsimp only at hr
    by_cases c0 : Ec = "java/lang/IllegalArgumentException"
    · subst c0
      exact ⟨[], { startPc := 0, endPc := 10, handlerPc := 13, catchType := 13 }, [], rfl, (fun z hz => nomatch hz), by decide, by decide, ⟨_, lc_13, rfl⟩, by decide, tc_IllegalArgumentException⟩
    · rw [if_neg c0] at hr
      cases hr
  refine lv_aload_n hx hb dL_trial_0 rfl (lv_at hl 3 rfl) ?_
  refine lv_iconst (v := (0 : Int32)) hx hb dL_trial_1 (by decide) ?_
  refine lv_aload_n hx hb dL_trial_2 rfl (lv_at hl 0 rfl) ?_
  refine lv_iload_n hx hb dL_trial_3 rfl (lv_at hl 1 rfl) ?_
  refine lv_iload_n hx hb dL_trial_4 rfl (lv_at hl 2 rfl) ?_
  refine h_VI (As := [.int x1, .int x2]) (hh := [(0, 10, 13, 13)]) (hp := pL_trial) E hw (kX9_trial (l := l) (G := G) (Z := Z) ht h) yy_X9_trial lm_RL_109 rfl rfl hl.1 (by decide) (by decide) (by decide) rfl (Nat.le_of_ble_eq_true rfl) dL_trial_5 htab hca (fun r H locs ho hw => ?_) (fun Ec q H locs ho hw => ?_)
  · subst ho
    unfold hL_trial at hr
    dsimp only at hr
    cases hr
    refine lv_i2l hx hb dL_trial_8 rfl ?_
    refine h_ls E hw vp_0_1 rfl dL_trial_9 (fun H locs hw => ?_)
    refine lv_goto (tgt := 17) hx hb dL_trial_10 (by decide) ?_
    refine lv_iconst (v := (0 : Int32)) hx hb dL_trial_17 (by decide) ?_
    exact h_ri E hw (by decide) (by decide) dL_trial_18
  · subst ho
    unfold hL_trial at hr
    dsimp only at hr
    by_cases c0 : Ec = "java/lang/IllegalArgumentException"
    · subst c0
      have hr : some ((1 : Int32), ov) = some (rr, ov2) := by simpa using hr
      cases hr
      refine lv_astore (lv' := [(4, .ref q), (0, .ref (G.2.2 0)), (1, .int x1), (2, .int x2), (3, .ref oa)]) hx hb dL_trial_13 hl (by decide) rfl (fun ls hl => ?_)
      refine lv_iconst (v := (1 : Int32)) hx hb dL_trial_15 (by decide) ?_
      exact h_ri E hw (by decide) (by decide) dL_trial_16
    · rw [if_neg c0] at hr
      cases hr
/-! span -/
theorem dL_span_0 : decode cL_span 0 = .ok (.aload_n 3, 1) := by decide +kernel
theorem dL_span_1 : decode cL_span 1 = .ok (.iconst 0, 1) := by decide +kernel
theorem dL_span_2 : decode cL_span 2 = .ok (.aload_n 0, 1) := by decide +kernel
theorem dL_span_3 : decode cL_span 3 = .ok (.iload_n 1, 1) := by decide +kernel
theorem dL_span_4 : decode cL_span 4 = .ok (.iload_n 2, 1) := by decide +kernel
theorem dL_span_5 : decode cL_span 5 = .ok (.invokevirtual 112, 3) := by decide +kernel
theorem dL_span_8 : decode cL_span 8 = .ok (.i2l, 1) := by decide +kernel
theorem dL_span_9 : decode cL_span 9 = .ok (.lastore, 1) := by decide +kernel
theorem dL_span_10 : decode cL_span 10 = .ok (.goto 7, 3) := by decide +kernel
theorem dL_span_13 : decode cL_span 13 = .ok (.astore 4, 2) := by decide +kernel
theorem dL_span_15 : decode cL_span 15 = .ok (.iconst 1, 1) := by decide +kernel
theorem dL_span_16 : decode cL_span 16 = .ok (.ireturn, 1) := by decide +kernel
theorem dL_span_17 : decode cL_span 17 = .ok (.iconst 0, 1) := by decide +kernel
theorem dL_span_18 : decode cL_span 18 = .ok (.ireturn, 1) := by decide +kernel
def hL_span (o : String ⊕ Int32) (ov : Nat → Int64) : Option (Int32 × (Nat → Int64)) := match o with
  | .inr r => some (0, vp_updL ov ((0 : Int32).toNatClampNeg) r.toInt64)
  | .inl E => if E = "java/lang/IllegalArgumentException" then some (1, ov) else (none)
def pL_span (E : String) : Nat := 13
theorem yw_L_span : Cond.codeWith yL_span cL_span 5 (some .int) [(0, 10, 13, 13)] ∈ lw_tbl ∧ Cond.static yL_span ∈ lw_tbl := ⟨(tb_5 (List.mem_of_getElem? (i := 207) (by decide +kernel))), (tb_5 (List.mem_of_getElem? (i := 206) (by decide +kernel)))⟩
set_option maxHeartbeats 4000000 in
set_option maxRecDepth 100000 in
theorem kL_span {l : Launch} {G : GT} {Z : Nat → Nat × Nat} (ht : l.stackTraces = false) {V V2 : VT} {oa : Nat} {ov ov2 : Nat → Int64} {x1 : Int32} {x2 : Int32} {o : String ⊕ Int32} {rr : Int32} (h : fX9_span V x1 x2 = some (o, V2)) (hr : hL_span o ov = some (rr, ov2)) : HI l G (SH Z) yL_span (.codeWith yL_span cL_span 5 (some .int) [(0, 10, 13, 13)]) 10 1 [.ref (G.2.2 0), .int x1, .int x2, .ref oa] V oa ov rr V2 ov2 := by
  intro sz
  refine hmet_of (Qs := fun sz => QO G oa sz rr V2 ov2) (SH_ok Z) (by decide) (Nat.le_of_ble_eq_true rfl) ?_ sz
  intro p e s m args below meth c ls E htab hw hl
  have hx := E.1
  have hb := E.2.1
  have hl : lv_has ls 5 [(0, .ref (G.2.2 0)), (1, .int x1), (2, .int x2), (3, .ref oa)] := hl
  have hca : ∀ Ec, o = .inl Ec → ct_at RL [(0, 10, 13, 13)] 5 Ec (pL_span Ec) := by
    intro Ec e
    subst e
    unfold hL_span at hr
    dsimp only at hr
    by_cases c0 : Ec = "java/lang/IllegalArgumentException"
    · subst c0
      exact ⟨[], { startPc := 0, endPc := 10, handlerPc := 13, catchType := 13 }, [], rfl, (fun z hz => nomatch hz), by decide, by decide, ⟨_, lc_13, rfl⟩, by decide, tc_IllegalArgumentException⟩
    · rw [if_neg c0] at hr
      cases hr
  refine lv_aload_n hx hb dL_span_0 rfl (lv_at hl 3 rfl) ?_
  refine lv_iconst (v := (0 : Int32)) hx hb dL_span_1 (by decide) ?_
  refine lv_aload_n hx hb dL_span_2 rfl (lv_at hl 0 rfl) ?_
  refine lv_iload_n hx hb dL_span_3 rfl (lv_at hl 1 rfl) ?_
  refine lv_iload_n hx hb dL_span_4 rfl (lv_at hl 2 rfl) ?_
  refine h_VI (As := [.int x1, .int x2]) (hh := [(0, 10, 13, 13)]) (hp := pL_span) E hw (kX9_span (l := l) (G := G) (Z := Z) ht h) yy_X9_span lm_RL_112 rfl rfl hl.1 (by decide) (by decide) (by decide) rfl (Nat.le_of_ble_eq_true rfl) dL_span_5 htab hca (fun r H locs ho hw => ?_) (fun Ec q H locs ho hw => ?_)
  · subst ho
    unfold hL_span at hr
    dsimp only at hr
    cases hr
    refine lv_i2l hx hb dL_span_8 rfl ?_
    refine h_ls E hw vp_0_1 rfl dL_span_9 (fun H locs hw => ?_)
    refine lv_goto (tgt := 17) hx hb dL_span_10 (by decide) ?_
    refine lv_iconst (v := (0 : Int32)) hx hb dL_span_17 (by decide) ?_
    exact h_ri E hw (by decide) (by decide) dL_span_18
  · subst ho
    unfold hL_span at hr
    dsimp only at hr
    by_cases c0 : Ec = "java/lang/IllegalArgumentException"
    · subst c0
      have hr : some ((1 : Int32), ov) = some (rr, ov2) := by simpa using hr
      cases hr
      refine lv_astore (lv' := [(4, .ref q), (0, .ref (G.2.2 0)), (1, .int x1), (2, .int x2), (3, .ref oa)]) hx hb dL_span_13 hl (by decide) rfl (fun ls hl => ?_)
      refine lv_iconst (v := (1 : Int32)) hx hb dL_span_15 (by decide) ?_
      exact h_ri E hw (by decide) (by decide) dL_span_16
    · rw [if_neg c0] at hr
      cases hr
/-! led -/
theorem dL_led_0 : decode cL_led 0 = .ok (.aload_n 3, 1) := by decide +kernel
theorem dL_led_1 : decode cL_led 1 = .ok (.iconst 0, 1) := by decide +kernel
theorem dL_led_2 : decode cL_led 2 = .ok (.aload_n 0, 1) := by decide +kernel
theorem dL_led_3 : decode cL_led 3 = .ok (.iload_n 1, 1) := by decide +kernel
theorem dL_led_4 : decode cL_led 4 = .ok (.iload_n 2, 1) := by decide +kernel
theorem dL_led_5 : decode cL_led 5 = .ok (.invokevirtual 115, 3) := by decide +kernel
theorem dL_led_8 : decode cL_led 8 = .ok (.i2l, 1) := by decide +kernel
theorem dL_led_9 : decode cL_led 9 = .ok (.lastore, 1) := by decide +kernel
theorem dL_led_10 : decode cL_led 10 = .ok (.goto 7, 3) := by decide +kernel
theorem dL_led_13 : decode cL_led 13 = .ok (.astore 4, 2) := by decide +kernel
theorem dL_led_15 : decode cL_led 15 = .ok (.iconst 1, 1) := by decide +kernel
theorem dL_led_16 : decode cL_led 16 = .ok (.ireturn, 1) := by decide +kernel
theorem dL_led_17 : decode cL_led 17 = .ok (.iconst 0, 1) := by decide +kernel
theorem dL_led_18 : decode cL_led 18 = .ok (.ireturn, 1) := by decide +kernel
def hL_led (o : String ⊕ Int32) (ov : Nat → Int64) : Option (Int32 × (Nat → Int64)) := match o with
  | .inr r => some (0, vp_updL ov ((0 : Int32).toNatClampNeg) r.toInt64)
  | .inl E => if E = "java/lang/IndexOutOfBoundsException" then some (1, ov) else (none)
def pL_led (E : String) : Nat := 13
theorem yw_L_led : Cond.codeWith yL_led cL_led 5 (some .int) [(0, 10, 13, 24)] ∈ lw_tbl ∧ Cond.static yL_led ∈ lw_tbl := ⟨(tb_5 (List.mem_of_getElem? (i := 216) (by decide +kernel))), (tb_5 (List.mem_of_getElem? (i := 215) (by decide +kernel)))⟩
set_option maxHeartbeats 4000000 in
set_option maxRecDepth 100000 in
theorem kL_led {l : Launch} {G : GT} {Z : Nat → Nat × Nat} (ht : l.stackTraces = false) {V V2 : VT} {oa : Nat} {ov ov2 : Nat → Int64} {x1 : Int32} {x2 : Int32} {o : String ⊕ Int32} {rr : Int32} (h : fX9_led V x1 x2 = some (o, V2)) (hr : hL_led o ov = some (rr, ov2)) : HI l G (SH Z) yL_led (.codeWith yL_led cL_led 5 (some .int) [(0, 10, 13, 24)]) 10 1 [.ref (G.2.2 0), .int x1, .int x2, .ref oa] V oa ov rr V2 ov2 := by
  intro sz
  refine hmet_of (Qs := fun sz => QO G oa sz rr V2 ov2) (SH_ok Z) (by decide) (Nat.le_of_ble_eq_true rfl) ?_ sz
  intro p e s m args below meth c ls E htab hw hl
  have hx := E.1
  have hb := E.2.1
  have hl : lv_has ls 5 [(0, .ref (G.2.2 0)), (1, .int x1), (2, .int x2), (3, .ref oa)] := hl
  have hca : ∀ Ec, o = .inl Ec → ct_at RL [(0, 10, 13, 24)] 5 Ec (pL_led Ec) := by
    intro Ec e
    subst e
    unfold hL_led at hr
    dsimp only at hr
    by_cases c0 : Ec = "java/lang/IndexOutOfBoundsException"
    · subst c0
      exact ⟨[], { startPc := 0, endPc := 10, handlerPc := 13, catchType := 24 }, [], rfl, (fun z hz => nomatch hz), by decide, by decide, ⟨_, lc_24, rfl⟩, by decide, tc_IndexOutOfBoundsException⟩
    · rw [if_neg c0] at hr
      cases hr
  refine lv_aload_n hx hb dL_led_0 rfl (lv_at hl 3 rfl) ?_
  refine lv_iconst (v := (0 : Int32)) hx hb dL_led_1 (by decide) ?_
  refine lv_aload_n hx hb dL_led_2 rfl (lv_at hl 0 rfl) ?_
  refine lv_iload_n hx hb dL_led_3 rfl (lv_at hl 1 rfl) ?_
  refine lv_iload_n hx hb dL_led_4 rfl (lv_at hl 2 rfl) ?_
  refine h_VI (As := [.int x1, .int x2]) (hh := [(0, 10, 13, 24)]) (hp := pL_led) E hw (kX9_led (l := l) (G := G) (Z := Z) ht h) yy_X9_led lm_RL_115 rfl rfl hl.1 (by decide) (by decide) (by decide) rfl (Nat.le_of_ble_eq_true rfl) dL_led_5 htab hca (fun r H locs ho hw => ?_) (fun Ec q H locs ho hw => ?_)
  · subst ho
    unfold hL_led at hr
    dsimp only at hr
    cases hr
    refine lv_i2l hx hb dL_led_8 rfl ?_
    refine h_ls E hw vp_0_1 rfl dL_led_9 (fun H locs hw => ?_)
    refine lv_goto (tgt := 17) hx hb dL_led_10 (by decide) ?_
    refine lv_iconst (v := (0 : Int32)) hx hb dL_led_17 (by decide) ?_
    exact h_ri E hw (by decide) (by decide) dL_led_18
  · subst ho
    unfold hL_led at hr
    dsimp only at hr
    by_cases c0 : Ec = "java/lang/IndexOutOfBoundsException"
    · subst c0
      have hr : some ((1 : Int32), ov) = some (rr, ov2) := by simpa using hr
      cases hr
      refine lv_astore (lv' := [(4, .ref q), (0, .ref (G.2.2 0)), (1, .int x1), (2, .int x2), (3, .ref oa)]) hx hb dL_led_13 hl (by decide) rfl (fun ls hl => ?_)
      refine lv_iconst (v := (1 : Int32)) hx hb dL_led_15 (by decide) ?_
      exact h_ri E hw (by decide) (by decide) dL_led_16
    · rw [if_neg c0] at hr
      cases hr
/-! log -/
theorem dL_log_0 : decode cL_log 0 = .ok (.aload_n 3, 1) := by decide +kernel
theorem dL_log_1 : decode cL_log 1 = .ok (.iconst 0, 1) := by decide +kernel
theorem dL_log_2 : decode cL_log 2 = .ok (.aload_n 0, 1) := by decide +kernel
theorem dL_log_3 : decode cL_log 3 = .ok (.iload_n 1, 1) := by decide +kernel
theorem dL_log_4 : decode cL_log 4 = .ok (.iload_n 2, 1) := by decide +kernel
theorem dL_log_5 : decode cL_log 5 = .ok (.invokevirtual 118, 3) := by decide +kernel
theorem dL_log_8 : decode cL_log 8 = .ok (.i2l, 1) := by decide +kernel
theorem dL_log_9 : decode cL_log 9 = .ok (.lastore, 1) := by decide +kernel
theorem dL_log_10 : decode cL_log 10 = .ok (.goto 7, 3) := by decide +kernel
theorem dL_log_13 : decode cL_log 13 = .ok (.astore 4, 2) := by decide +kernel
theorem dL_log_15 : decode cL_log 15 = .ok (.iconst 1, 1) := by decide +kernel
theorem dL_log_16 : decode cL_log 16 = .ok (.ireturn, 1) := by decide +kernel
theorem dL_log_17 : decode cL_log 17 = .ok (.iconst 0, 1) := by decide +kernel
theorem dL_log_18 : decode cL_log 18 = .ok (.ireturn, 1) := by decide +kernel
def hL_log (o : String ⊕ Int32) (ov : Nat → Int64) : Option (Int32 × (Nat → Int64)) := match o with
  | .inr r => some (0, vp_updL ov ((0 : Int32).toNatClampNeg) r.toInt64)
  | .inl E => if E = "java/util/NoSuchElementException" then some (1, ov) else (none)
def pL_log (E : String) : Nat := 13
theorem yw_L_log : Cond.codeWith yL_log cL_log 5 (some .int) [(0, 10, 13, 26)] ∈ lw_tbl ∧ Cond.static yL_log ∈ lw_tbl := ⟨(tb_6 (List.mem_of_getElem? (i := 4) (by decide +kernel))), (tb_6 (List.mem_of_getElem? (i := 3) (by decide +kernel)))⟩
set_option maxHeartbeats 4000000 in
set_option maxRecDepth 100000 in
theorem kL_log {l : Launch} {G : GT} {Z : Nat → Nat × Nat} (ht : l.stackTraces = false) {V V2 : VT} {oa : Nat} {ov ov2 : Nat → Int64} {x1 : Int32} {x2 : Int32} {o : String ⊕ Int32} {rr : Int32} (h : fX9_log V x1 x2 = some (o, V2)) (hr : hL_log o ov = some (rr, ov2)) : HI l G (SH Z) yL_log (.codeWith yL_log cL_log 5 (some .int) [(0, 10, 13, 26)]) 8 1 [.ref (G.2.2 0), .int x1, .int x2, .ref oa] V oa ov rr V2 ov2 := by
  intro sz
  refine hmet_of (Qs := fun sz => QO G oa sz rr V2 ov2) (SH_ok Z) (by decide) (Nat.le_of_ble_eq_true rfl) ?_ sz
  intro p e s m args below meth c ls E htab hw hl
  have hx := E.1
  have hb := E.2.1
  have hl : lv_has ls 5 [(0, .ref (G.2.2 0)), (1, .int x1), (2, .int x2), (3, .ref oa)] := hl
  have hca : ∀ Ec, o = .inl Ec → ct_at RL [(0, 10, 13, 26)] 5 Ec (pL_log Ec) := by
    intro Ec e
    subst e
    unfold hL_log at hr
    dsimp only at hr
    by_cases c0 : Ec = "java/util/NoSuchElementException"
    · subst c0
      exact ⟨[], { startPc := 0, endPc := 10, handlerPc := 13, catchType := 26 }, [], rfl, (fun z hz => nomatch hz), by decide, by decide, ⟨_, lc_26, rfl⟩, by decide, tc_NoSuchElementException⟩
    · rw [if_neg c0] at hr
      cases hr
  refine lv_aload_n hx hb dL_log_0 rfl (lv_at hl 3 rfl) ?_
  refine lv_iconst (v := (0 : Int32)) hx hb dL_log_1 (by decide) ?_
  refine lv_aload_n hx hb dL_log_2 rfl (lv_at hl 0 rfl) ?_
  refine lv_iload_n hx hb dL_log_3 rfl (lv_at hl 1 rfl) ?_
  refine lv_iload_n hx hb dL_log_4 rfl (lv_at hl 2 rfl) ?_
  refine h_VI (As := [.int x1, .int x2]) (hh := [(0, 10, 13, 26)]) (hp := pL_log) E hw (kX9_log (l := l) (G := G) (Z := Z) ht h) yy_X9_log lm_RL_118 rfl rfl hl.1 (by decide) (by decide) (by decide) rfl (Nat.le_of_ble_eq_true rfl) dL_log_5 htab hca (fun r H locs ho hw => ?_) (fun Ec q H locs ho hw => ?_)
  · subst ho
    unfold hL_log at hr
    dsimp only at hr
    cases hr
    refine lv_i2l hx hb dL_log_8 rfl ?_
    refine h_ls E hw vp_0_1 rfl dL_log_9 (fun H locs hw => ?_)
    refine lv_goto (tgt := 17) hx hb dL_log_10 (by decide) ?_
    refine lv_iconst (v := (0 : Int32)) hx hb dL_log_17 (by decide) ?_
    exact h_ri E hw (by decide) (by decide) dL_log_18
  · subst ho
    unfold hL_log at hr
    dsimp only at hr
    by_cases c0 : Ec = "java/util/NoSuchElementException"
    · subst c0
      have hr : some ((1 : Int32), ov) = some (rr, ov2) := by simpa using hr
      cases hr
      refine lv_astore (lv' := [(4, .ref q), (0, .ref (G.2.2 0)), (1, .int x1), (2, .int x2), (3, .ref oa)]) hx hb dL_log_13 hl (by decide) rfl (fun ls hl => ?_)
      refine lv_iconst (v := (1 : Int32)) hx hb dL_log_15 (by decide) ?_
      exact h_ri E hw (by decide) (by decide) dL_log_16
    · rw [if_neg c0] at hr
      cases hr
