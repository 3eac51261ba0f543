/-! ===== AllSawIt.needHouse(I)V ===== -/
theorem dX9_needHouse_0 : decode cX9_needHouse 0 = .ok (.iload_n 1, 1) := by decide +kernel
theorem dX9_needHouse_1 : decode cX9_needHouse 1 = .ok (.ifCond .lt 14, 3) := by decide +kernel
theorem dX9_needHouse_4 : decode cX9_needHouse 4 = .ok (.iload_n 1, 1) := by decide +kernel
theorem dX9_needHouse_5 : decode cX9_needHouse 5 = .ok (.aload_n 0, 1) := by decide +kernel
theorem dX9_needHouse_6 : decode cX9_needHouse 6 = .ok (.getfield 19, 3) := by decide +kernel
theorem dX9_needHouse_9 : decode cX9_needHouse 9 = .ok (.getfield 225, 3) := by decide +kernel
theorem dX9_needHouse_12 : decode cX9_needHouse 12 = .ok (.if_icmp .lt 14, 3) := by decide +kernel
theorem dX9_needHouse_15 : decode cX9_needHouse 15 = .ok (.new 367, 3) := by decide +kernel
theorem dX9_needHouse_18 : decode cX9_needHouse 18 = .ok (.dup, 1) := by decide +kernel
theorem dX9_needHouse_19 : decode cX9_needHouse 19 = .ok (.ldc_w 369, 3) := by decide +kernel
theorem dX9_needHouse_22 : decode cX9_needHouse 22 = .ok (.invokespecial 371, 3) := by decide +kernel
theorem dX9_needHouse_25 : decode cX9_needHouse 25 = .ok (.athrow, 1) := by decide +kernel
theorem dX9_needHouse_26 : decode cX9_needHouse 26 = .ok (.return_, 1) := by decide +kernel
noncomputable def fX9_needHouse_j15 (V : VT) : Option (String ⊕ Unit) := some (.inl "java/lang/IndexOutOfBoundsException")
noncomputable def fX9_needHouse (V : VT) (x1 : Int32) : Option (String ⊕ Unit) := if x1 < 0 then (fX9_needHouse_j15 V) else (if x1 < (V 2 3) then (some (.inr ())) else (fX9_needHouse_j15 V))
set_option maxHeartbeats 4000000 in
set_option maxRecDepth 100000 in
theorem wX9_needHouse_j15 {p : Program} {l : Launch} {e : Env} {s : State} {m : MethodId} {args : Array Value} {below : List Frame} {meth : Method} {c : Code} {G : GT} {Z : Nat → Nat × Nat} {Q : State → Prop} (E : En p s m args c meth cX9_needHouse 2 RX9 none G (SG Z)) (ht : l.stackTraces = false) (hnt : ∀ x ∈ c.exceptionTable.toList, False) {V : VT} {r : (String ⊕ Unit)} (h : fX9_needHouse_j15 V = some r) (kr : Q = vx_MQ below (XW G s.heap.size r V) (XE G s.heap.size r V) args s 1 6 (gA G s.heap.size)) {H : Heap} {locs : List Loc} {ls : Array Slot} (hw : HW G s.heap V H locs) (hl : lv_has ls 2 []) : W p l e (rmX 7 1) s m args below meth c H locs 0 0 Q (F0 m 15 ls []) := by
  have hx := en_x E
  have hb := en_b E
  have hB := en_B E
  unfold fX9_needHouse_j15 at h
  have h := Option.some.inj h
  subst h
  rw [kr]
  exact x_th (w := 11) (cls := "java/lang/IndexOutOfBoundsException") E hw ht (by decide) rfl rfl (by decide) tw1_367 tw2_367 tw3_367 tw4_367 tw6_367 hl.1 dX9_needHouse_15 dX9_needHouse_18 (Or.inr ⟨dX9_needHouse_19, dX9_needHouse_22, dX9_needHouse_25⟩) hnt (by decide) (by decide) (Nat.le_of_ble_eq_true rfl) (by decide)
set_option maxHeartbeats 4000000 in
set_option maxRecDepth 100000 in
theorem kX9_needHouse {l : Launch} {G : GT} {Z : Nat → Nat × Nat} (ht : l.stackTraces = false) {V : VT} {x1 : Int32} {r : (String ⊕ Unit)} (h : fX9_needHouse V x1 = some r) : XN l G (SG Z) yX9_needHouse (.code yX9_needHouse cX9_needHouse 2 none) 7 1 [.ref (G.2.2 0), .int x1] V r := by
  intro sz
  refine xmet_of (Qs := fun sz => XW G sz r V) (Xs := fun sz => XE G sz r V) (SG_ok Z) (by decide) (Nat.le_of_ble_eq_true rfl) ?_ sz
  intro p e s m args below meth c ls E hnt hw hl
  have hx := en_x E
  have hb := en_b E
  have hB := en_B E
  generalize hQ : vx_MQ _ _ _ _ _ _ _ _ = Q
  have kr : Q = vx_MQ below (XW G s.heap.size r V) (XE G s.heap.size r V) args s 1 6 (gA G s.heap.size) := hQ.symm
  have hl : lv_has ls 2 [(0, .ref (G.2.2 0)), (1, .int x1)] := hl
  obtain ⟨H, eH⟩ : ∃ H, H = s.heap := ⟨_, rfl⟩
  obtain ⟨locs, elocs⟩ : ∃ z : List Loc, z = [] := ⟨_, rfl⟩
  have hw : HW G s.heap V H locs := by rw [eH, elocs]; exact hw
  show W p l e _ s m args below meth c s.heap [] 0 0 Q (F0 m 0 ls [])
  rw [← eH, ← elocs]
  unfold fX9_needHouse at h
  refine lv_iload_n hx hb dX9_needHouse_0 rfl (lv_at hl 1 rfl) ?_
  refine lv_if_lt (tgt := 15) hx hb dX9_needHouse_1 (by decide) (fun c2 => ?_) (fun c2 => ?_)
  · rw [if_pos c2] at h
    exact wX9_needHouse_j15 E ht hnt h kr hw (lv_sub hl [] rfl)
  · rw [if_neg c2] at h
    refine lv_iload_n hx hb dX9_needHouse_4 rfl (lv_at hl 1 rfl) ?_
    refine lv_aload_n hx hb dX9_needHouse_5 rfl (lv_at hl 0 rfl) ?_
    refine r_gr E hw 0 1 2 (N := 11) (C := RX9) (T := TX9) (by decide) rfl rfl (by decide) rfl iw_9 rfl lf_RX9_19 dX9_needHouse_6 ?_
    refine r_giN E hw 2 3 (N := 13) (C := RX6) (T := TX6) (by decide) rfl rfl (by decide) rfl iw_6 rfl lf_RX9_225 dX9_needHouse_9 ?_
    refine lv_icmp_lt (tgt := 26) hx hb dX9_needHouse_12 (by decide) (fun c1 => ?_) (fun c1 => ?_)
    · rw [if_pos c1] at h
      have h := Option.some.inj h
      subst h
      rw [kr]
      exact x_rv E hw (by decide) (by decide) dX9_needHouse_26
    · rw [if_neg c1] at h
      exact wX9_needHouse_j15 E ht hnt h kr hw (lv_sub hl [] rfl)
/-! ===== AllSawIt.needDeed(I)V ===== -/
theorem dX9_needDeed_0 : decode cX9_needDeed 0 = .ok (.iload_n 1, 1) := by decide +kernel
theorem dX9_needDeed_1 : decode cX9_needDeed 1 = .ok (.ifCond .lt 14, 3) := by decide +kernel
theorem dX9_needDeed_4 : decode cX9_needDeed 4 = .ok (.iload_n 1, 1) := by decide +kernel
theorem dX9_needDeed_5 : decode cX9_needDeed 5 = .ok (.aload_n 0, 1) := by decide +kernel
theorem dX9_needDeed_6 : decode cX9_needDeed 6 = .ok (.getfield 19, 3) := by decide +kernel
theorem dX9_needDeed_9 : decode cX9_needDeed 9 = .ok (.getfield 349, 3) := by decide +kernel
theorem dX9_needDeed_12 : decode cX9_needDeed 12 = .ok (.if_icmp .lt 14, 3) := by decide +kernel
theorem dX9_needDeed_15 : decode cX9_needDeed 15 = .ok (.new 367, 3) := by decide +kernel
theorem dX9_needDeed_18 : decode cX9_needDeed 18 = .ok (.dup, 1) := by decide +kernel
theorem dX9_needDeed_19 : decode cX9_needDeed 19 = .ok (.ldc_w 372, 3) := by decide +kernel
theorem dX9_needDeed_22 : decode cX9_needDeed 22 = .ok (.invokespecial 371, 3) := by decide +kernel
theorem dX9_needDeed_25 : decode cX9_needDeed 25 = .ok (.athrow, 1) := by decide +kernel
theorem dX9_needDeed_26 : decode cX9_needDeed 26 = .ok (.return_, 1) := by decide +kernel
noncomputable def fX9_needDeed_j15 (V : VT) : Option (String ⊕ Unit) := some (.inl "java/lang/IndexOutOfBoundsException")
noncomputable def fX9_needDeed (V : VT) (x1 : Int32) : Option (String ⊕ Unit) := if x1 < 0 then (fX9_needDeed_j15 V) else (if x1 < (V 2 4) then (some (.inr ())) else (fX9_needDeed_j15 V))
set_option maxHeartbeats 4000000 in
set_option maxRecDepth 100000 in
theorem wX9_needDeed_j15 {p : Program} {l : Launch} {e : Env} {s : State} {m : MethodId} {args : Array Value} {below : List Frame} {meth : Method} {c : Code} {G : GT} {Z : Nat → Nat × Nat} {Q : State → Prop} (E : En p s m args c meth cX9_needDeed 2 RX9 none G (SG Z)) (ht : l.stackTraces = false) (hnt : ∀ x ∈ c.exceptionTable.toList, False) {V : VT} {r : (String ⊕ Unit)} (h : fX9_needDeed_j15 V = some r) (kr : Q = vx_MQ below (XW G s.heap.size r V) (XE G s.heap.size r V) args s 1 6 (gA G s.heap.size)) {H : Heap} {locs : List Loc} {ls : Array Slot} (hw : HW G s.heap V H locs) (hl : lv_has ls 2 []) : W p l e (rmX 7 1) s m args below meth c H locs 0 0 Q (F0 m 15 ls []) := by
  have hx := en_x E
  have hb := en_b E
  have hB := en_B E
  unfold fX9_needDeed_j15 at h
  have h := Option.some.inj h
  subst h
  rw [kr]
  exact x_th (w := 12) (cls := "java/lang/IndexOutOfBoundsException") E hw ht (by decide) rfl rfl (by decide) tw1_367 tw2_367 tw3_367 tw4_367 tw6_367 hl.1 dX9_needDeed_15 dX9_needDeed_18 (Or.inr ⟨dX9_needDeed_19, dX9_needDeed_22, dX9_needDeed_25⟩) hnt (by decide) (by decide) (Nat.le_of_ble_eq_true rfl) (by decide)
set_option maxHeartbeats 4000000 in
set_option maxRecDepth 100000 in
theorem kX9_needDeed {l : Launch} {G : GT} {Z : Nat → Nat × Nat} (ht : l.stackTraces = false) {V : VT} {x1 : Int32} {r : (String ⊕ Unit)} (h : fX9_needDeed V x1 = some r) : XN l G (SG Z) yX9_needDeed (.code yX9_needDeed cX9_needDeed 2 none) 7 1 [.ref (G.2.2 0), .int x1] V r := by
  intro sz
  refine xmet_of (Qs := fun sz => XW G sz r V) (Xs := fun sz => XE G sz r V) (SG_ok Z) (by decide) (Nat.le_of_ble_eq_true rfl) ?_ sz
  intro p e s m args below meth c ls E hnt hw hl
  have hx := en_x E
  have hb := en_b E
  have hB := en_B E
  generalize hQ : vx_MQ _ _ _ _ _ _ _ _ = Q
  have kr : Q = vx_MQ below (XW G s.heap.size r V) (XE G s.heap.size r V) args s 1 6 (gA G s.heap.size) := hQ.symm
  have hl : lv_has ls 2 [(0, .ref (G.2.2 0)), (1, .int x1)] := hl
  obtain ⟨H, eH⟩ : ∃ H, H = s.heap := ⟨_, rfl⟩
  obtain ⟨locs, elocs⟩ : ∃ z : List Loc, z = [] := ⟨_, rfl⟩
  have hw : HW G s.heap V H locs := by rw [eH, elocs]; exact hw
  show W p l e _ s m args below meth c s.heap [] 0 0 Q (F0 m 0 ls [])
  rw [← eH, ← elocs]
  unfold fX9_needDeed at h
  refine lv_iload_n hx hb dX9_needDeed_0 rfl (lv_at hl 1 rfl) ?_
  refine lv_if_lt (tgt := 15) hx hb dX9_needDeed_1 (by decide) (fun c2 => ?_) (fun c2 => ?_)
  · rw [if_pos c2] at h
    exact wX9_needDeed_j15 E ht hnt h kr hw (lv_sub hl [] rfl)
  · rw [if_neg c2] at h
    refine lv_iload_n hx hb dX9_needDeed_4 rfl (lv_at hl 1 rfl) ?_
    refine lv_aload_n hx hb dX9_needDeed_5 rfl (lv_at hl 0 rfl) ?_
    refine r_gr E hw 0 1 2 (N := 11) (C := RX9) (T := TX9) (by decide) rfl rfl (by decide) rfl iw_9 rfl lf_RX9_19 dX9_needDeed_6 ?_
    refine r_giN E hw 2 4 (N := 13) (C := RX6) (T := TX6) (by decide) rfl rfl (by decide) rfl iw_6 rfl lf_RX9_349 dX9_needDeed_9 ?_
    refine lv_icmp_lt (tgt := 26) hx hb dX9_needDeed_12 (by decide) (fun c1 => ?_) (fun c1 => ?_)
    · rw [if_pos c1] at h
      have h := Option.some.inj h
      subst h
      rw [kr]
      exact x_rv E hw (by decide) (by decide) dX9_needDeed_26
    · rw [if_neg c1] at h
      exact wX9_needDeed_j15 E ht hnt h kr hw (lv_sub hl [] rfl)
/-! ===== AllSawIt.needPlace(I)V ===== -/
theorem dX9_needPlace_0 : decode cX9_needPlace 0 = .ok (.iload_n 0, 1) := by decide +kernel
theorem dX9_needPlace_1 : decode cX9_needPlace 1 = .ok (.ifCond .lt 9, 3) := by decide +kernel
theorem dX9_needPlace_4 : decode cX9_needPlace 4 = .ok (.iload_n 0, 1) := by decide +kernel
theorem dX9_needPlace_5 : decode cX9_needPlace 5 = .ok (.bipush 24, 2) := by decide +kernel
theorem dX9_needPlace_7 : decode cX9_needPlace 7 = .ok (.if_icmp .lt 14, 3) := by decide +kernel
theorem dX9_needPlace_10 : decode cX9_needPlace 10 = .ok (.new 367, 3) := by decide +kernel
theorem dX9_needPlace_13 : decode cX9_needPlace 13 = .ok (.dup, 1) := by decide +kernel
theorem dX9_needPlace_14 : decode cX9_needPlace 14 = .ok (.ldc_w 374, 3) := by decide +kernel
theorem dX9_needPlace_17 : decode cX9_needPlace 17 = .ok (.invokespecial 371, 3) := by decide +kernel
theorem dX9_needPlace_20 : decode cX9_needPlace 20 = .ok (.athrow, 1) := by decide +kernel
theorem dX9_needPlace_21 : decode cX9_needPlace 21 = .ok (.return_, 1) := by decide +kernel
noncomputable def fX9_needPlace_j10 (V : VT) : Option (String ⊕ Unit) := some (.inl "java/lang/IndexOutOfBoundsException")
noncomputable def fX9_needPlace (V : VT) (x1 : Int32) : Option (String ⊕ Unit) := if x1 < 0 then (fX9_needPlace_j10 V) else (if x1 < (24 : Int32) then (some (.inr ())) else (fX9_needPlace_j10 V))
set_option maxHeartbeats 4000000 in
set_option maxRecDepth 100000 in
theorem wX9_needPlace_j10 {p : Program} {l : Launch} {e : Env} {s : State} {m : MethodId} {args : Array Value} {below : List Frame} {meth : Method} {c : Code} {G : GT} {Z : Nat → Nat × Nat} {Q : State → Prop} (E : En p s m args c meth cX9_needPlace 1 RX9 none G (SG Z)) (ht : l.stackTraces = false) (hnt : ∀ x ∈ c.exceptionTable.toList, False) {V : VT} {r : (String ⊕ Unit)} (h : fX9_needPlace_j10 V = some r) (kr : Q = vx_MQ below (XW G s.heap.size r V) (XE G s.heap.size r V) args s 1 6 (gA G s.heap.size)) {H : Heap} {locs : List Loc} {ls : Array Slot} (hw : HW G s.heap V H locs) (hl : lv_has ls 1 []) : W p l e (rmX 7 1) s m args below meth c H locs 0 0 Q (F0 m 10 ls []) := by
  have hx := en_x E
  have hb := en_b E
  have hB := en_B E
  unfold fX9_needPlace_j10 at h
  have h := Option.some.inj h
  subst h
  rw [kr]
  exact x_th (w := 13) (cls := "java/lang/IndexOutOfBoundsException") E hw ht (by decide) rfl rfl (by decide) tw1_367 tw2_367 tw3_367 tw4_367 tw6_367 hl.1 dX9_needPlace_10 dX9_needPlace_13 (Or.inr ⟨dX9_needPlace_14, dX9_needPlace_17, dX9_needPlace_20⟩) hnt (by decide) (by decide) (Nat.le_of_ble_eq_true rfl) (by decide)
set_option maxHeartbeats 4000000 in
set_option maxRecDepth 100000 in
theorem kX9_needPlace {l : Launch} {G : GT} {Z : Nat → Nat × Nat} (ht : l.stackTraces = false) {V : VT} {x1 : Int32} {r : (String ⊕ Unit)} (h : fX9_needPlace V x1 = some r) : XN l G (SG Z) yX9_needPlace (.code yX9_needPlace cX9_needPlace 1 none) 7 1 [.int x1] V r := by
  intro sz
  refine xmet_of (Qs := fun sz => XW G sz r V) (Xs := fun sz => XE G sz r V) (SG_ok Z) (by decide) (Nat.le_of_ble_eq_true rfl) ?_ sz
  intro p e s m args below meth c ls E hnt hw hl
  have hx := en_x E
  have hb := en_b E
  have hB := en_B E
  generalize hQ : vx_MQ _ _ _ _ _ _ _ _ = Q
  have kr : Q = vx_MQ below (XW G s.heap.size r V) (XE G s.heap.size r V) args s 1 6 (gA G s.heap.size) := hQ.symm
  have hl : lv_has ls 1 [(0, .int x1)] := hl
  obtain ⟨H, eH⟩ : ∃ H, H = s.heap := ⟨_, rfl⟩
  obtain ⟨locs, elocs⟩ : ∃ z : List Loc, z = [] := ⟨_, rfl⟩
  have hw : HW G s.heap V H locs := by rw [eH, elocs]; exact hw
  show W p l e _ s m args below meth c s.heap [] 0 0 Q (F0 m 0 ls [])
  rw [← eH, ← elocs]
  unfold fX9_needPlace at h
  refine lv_iload_n hx hb dX9_needPlace_0 rfl (lv_at hl 0 rfl) ?_
  refine lv_if_lt (tgt := 10) hx hb dX9_needPlace_1 (by decide) (fun c2 => ?_) (fun c2 => ?_)
  · rw [if_pos c2] at h
    exact wX9_needPlace_j10 E ht hnt h kr hw (lv_sub hl [] rfl)
  · rw [if_neg c2] at h
    refine lv_iload_n hx hb dX9_needPlace_4 rfl (lv_at hl 0 rfl) ?_
    refine lv_bipush (v := (24 : Int32)) hx hb dX9_needPlace_5 (by decide) ?_
    refine lv_icmp_lt (tgt := 21) hx hb dX9_needPlace_7 (by decide) (fun c1 => ?_) (fun c1 => ?_)
    · rw [if_pos c1] at h
      have h := Option.some.inj h
      subst h
      rw [kr]
      exact x_rv E hw (by decide) (by decide) dX9_needPlace_21
    · rw [if_neg c1] at h
      exact wX9_needPlace_j10 E ht hnt h kr hw (lv_sub hl [] rfl)
/-! ===== AllSawIt.needHour(I)V ===== -/
theorem dX9_needHour_0 : decode cX9_needHour 0 = .ok (.iload_n 0, 1) := by decide +kernel
theorem dX9_needHour_1 : decode cX9_needHour 1 = .ok (.ifCond .lt 9, 3) := by decide +kernel
theorem dX9_needHour_4 : decode cX9_needHour 4 = .ok (.iload_n 0, 1) := by decide +kernel
theorem dX9_needHour_5 : decode cX9_needHour 5 = .ok (.bipush 24, 2) := by decide +kernel
theorem dX9_needHour_7 : decode cX9_needHour 7 = .ok (.if_icmp .lt 14, 3) := by decide +kernel
theorem dX9_needHour_10 : decode cX9_needHour 10 = .ok (.new 367, 3) := by decide +kernel
theorem dX9_needHour_13 : decode cX9_needHour 13 = .ok (.dup, 1) := by decide +kernel
theorem dX9_needHour_14 : decode cX9_needHour 14 = .ok (.ldc_w 376, 3) := by decide +kernel
theorem dX9_needHour_17 : decode cX9_needHour 17 = .ok (.invokespecial 371, 3) := by decide +kernel
theorem dX9_needHour_20 : decode cX9_needHour 20 = .ok (.athrow, 1) := by decide +kernel
theorem dX9_needHour_21 : decode cX9_needHour 21 = .ok (.return_, 1) := by decide +kernel
noncomputable def fX9_needHour_j10 (V : VT) : Option (String ⊕ Unit) := some (.inl "java/lang/IndexOutOfBoundsException")
noncomputable def fX9_needHour (V : VT) (x1 : Int32) : Option (String ⊕ Unit) := if x1 < 0 then (fX9_needHour_j10 V) else (if x1 < (24 : Int32) then (some (.inr ())) else (fX9_needHour_j10 V))
set_option maxHeartbeats 4000000 in
set_option maxRecDepth 100000 in
theorem wX9_needHour_j10 {p : Program} {l : Launch} {e : Env} {s : State} {m : MethodId} {args : Array Value} {below : List Frame} {meth : Method} {c : Code} {G : GT} {Z : Nat → Nat × Nat} {Q : State → Prop} (E : En p s m args c meth cX9_needHour 1 RX9 none G (SG Z)) (ht : l.stackTraces = false) (hnt : ∀ x ∈ c.exceptionTable.toList, False) {V : VT} {r : (String ⊕ Unit)} (h : fX9_needHour_j10 V = some r) (kr : Q = vx_MQ below (XW G s.heap.size r V) (XE G s.heap.size r V) args s 1 6 (gA G s.heap.size)) {H : Heap} {locs : List Loc} {ls : Array Slot} (hw : HW G s.heap V H locs) (hl : lv_has ls 1 []) : W p l e (rmX 7 1) s m args below meth c H locs 0 0 Q (F0 m 10 ls []) := by
  have hx := en_x E
  have hb := en_b E
  have hB := en_B E
  unfold fX9_needHour_j10 at h
  have h := Option.some.inj h
  subst h
  rw [kr]
  exact x_th (w := 14) (cls := "java/lang/IndexOutOfBoundsException") E hw ht (by decide) rfl rfl (by decide) tw1_367 tw2_367 tw3_367 tw4_367 tw6_367 hl.1 dX9_needHour_10 dX9_needHour_13 (Or.inr ⟨dX9_needHour_14, dX9_needHour_17, dX9_needHour_20⟩) hnt (by decide) (by decide) (Nat.le_of_ble_eq_true rfl) (by decide)
set_option maxHeartbeats 4000000 in
set_option maxRecDepth 100000 in
theorem kX9_needHour {l : Launch} {G : GT} {Z : Nat → Nat × Nat} (ht : l.stackTraces = false) {V : VT} {x1 : Int32} {r : (String ⊕ Unit)} (h : fX9_needHour V x1 = some r) : XN l G (SG Z) yX9_needHour (.code yX9_needHour cX9_needHour 1 none) 7 1 [.int x1] V r := by
  intro sz
  refine xmet_of (Qs := fun sz => XW G sz r V) (Xs := fun sz => XE G sz r V) (SG_ok Z) (by decide) (Nat.le_of_ble_eq_true rfl) ?_ sz
  intro p e s m args below meth c ls E hnt hw hl
  have hx := en_x E
  have hb := en_b E
  have hB := en_B E
  generalize hQ : vx_MQ _ _ _ _ _ _ _ _ = Q
  have kr : Q = vx_MQ below (XW G s.heap.size r V) (XE G s.heap.size r V) args s 1 6 (gA G s.heap.size) := hQ.symm
  have hl : lv_has ls 1 [(0, .int x1)] := hl
  obtain ⟨H, eH⟩ : ∃ H, H = s.heap := ⟨_, rfl⟩
  obtain ⟨locs, elocs⟩ : ∃ z : List Loc, z = [] := ⟨_, rfl⟩
  have hw : HW G s.heap V H locs := by rw [eH, elocs]; exact hw
  show W p l e _ s m args below meth c s.heap [] 0 0 Q (F0 m 0 ls [])
  rw [← eH, ← elocs]
  unfold fX9_needHour at h
  refine lv_iload_n hx hb dX9_needHour_0 rfl (lv_at hl 0 rfl) ?_
  refine lv_if_lt (tgt := 10) hx hb dX9_needHour_1 (by decide) (fun c2 => ?_) (fun c2 => ?_)
  · rw [if_pos c2] at h
    exact wX9_needHour_j10 E ht hnt h kr hw (lv_sub hl [] rfl)
  · rw [if_neg c2] at h
    refine lv_iload_n hx hb dX9_needHour_4 rfl (lv_at hl 0 rfl) ?_
    refine lv_bipush (v := (24 : Int32)) hx hb dX9_needHour_5 (by decide) ?_
    refine lv_icmp_lt (tgt := 21) hx hb dX9_needHour_7 (by decide) (fun c1 => ?_) (fun c1 => ?_)
    · rw [if_pos c1] at h
      have h := Option.some.inj h
      subst h
      rw [kr]
      exact x_rv E hw (by decide) (by decide) dX9_needHour_21
    · rw [if_neg c1] at h
      exact wX9_needHour_j10 E ht hnt h kr hw (lv_sub hl [] rfl)
/-! ===== AllSawIt.needNumber(III)V ===== -/
theorem dX9_needNumber_0 : decode cX9_needNumber 0 = .ok (.iload_n 0, 1) := by decide +kernel
theorem dX9_needNumber_1 : decode cX9_needNumber 1 = .ok (.iload_n 1, 1) := by decide +kernel
theorem dX9_needNumber_2 : decode cX9_needNumber 2 = .ok (.if_icmp .lt 8, 3) := by decide +kernel
theorem dX9_needNumber_5 : decode cX9_needNumber 5 = .ok (.iload_n 0, 1) := by decide +kernel
theorem dX9_needNumber_6 : decode cX9_needNumber 6 = .ok (.iload_n 2, 1) := by decide +kernel
theorem dX9_needNumber_7 : decode cX9_needNumber 7 = .ok (.if_icmp .le 14, 3) := by decide +kernel
theorem dX9_needNumber_10 : decode cX9_needNumber 10 = .ok (.new 85, 3) := by decide +kernel
theorem dX9_needNumber_13 : decode cX9_needNumber 13 = .ok (.dup, 1) := by decide +kernel
theorem dX9_needNumber_14 : decode cX9_needNumber 14 = .ok (.ldc_w 378, 3) := by decide +kernel
theorem dX9_needNumber_17 : decode cX9_needNumber 17 = .ok (.invokespecial 89, 3) := by decide +kernel
theorem dX9_needNumber_20 : decode cX9_needNumber 20 = .ok (.athrow, 1) := by decide +kernel
theorem dX9_needNumber_21 : decode cX9_needNumber 21 = .ok (.return_, 1) := by decide +kernel
noncomputable def fX9_needNumber_j10 (V : VT) : Option (String ⊕ Unit) := some (.inl "java/lang/IllegalArgumentException")
noncomputable def fX9_needNumber (V : VT) (x1 : Int32) (x2 : Int32) (x3 : Int32) : Option (String ⊕ Unit) := if x1 < x2 then (fX9_needNumber_j10 V) else (if x1 ≤ x3 then (some (.inr ())) else (fX9_needNumber_j10 V))
set_option maxHeartbeats 4000000 in
set_option maxRecDepth 100000 in
theorem wX9_needNumber_j10 {p : Program} {l : Launch} {e : Env} {s : State} {m : MethodId} {args : Array Value} {below : List Frame} {meth : Method} {c : Code} {G : GT} {Z : Nat → Nat × Nat} {Q : State → Prop} (E : En p s m args c meth cX9_needNumber 3 RX9 none G (SG Z)) (ht : l.stackTraces = false) (hnt : ∀ x ∈ c.exceptionTable.toList, False) {V : VT} {r : (String ⊕ Unit)} (h : fX9_needNumber_j10 V = some r) (kr : Q = vx_MQ below (XW G s.heap.size r V) (XE G s.heap.size r V) args s 1 6 (gA G s.heap.size)) {H : Heap} {locs : List Loc} {ls : Array Slot} (hw : HW G s.heap V H locs) (hl : lv_has ls 3 []) : W p l e (rmX 7 1) s m args below meth c H locs 0 0 Q (F0 m 10 ls []) := by
  have hx := en_x E
  have hb := en_b E
  have hB := en_B E
  unfold fX9_needNumber_j10 at h
  have h := Option.some.inj h
  subst h
  rw [kr]
  exact x_th (w := 15) (cls := "java/lang/IllegalArgumentException") E hw ht (by decide) rfl rfl (by decide) tw1_85 tw2_85 tw3_85 tw4_85 tw6_85 hl.1 dX9_needNumber_10 dX9_needNumber_13 (Or.inr ⟨dX9_needNumber_14, dX9_needNumber_17, dX9_needNumber_20⟩) hnt (by decide) (by decide) (Nat.le_of_ble_eq_true rfl) (by decide)
set_option maxHeartbeats 4000000 in
set_option maxRecDepth 100000 in
theorem kX9_needNumber {l : Launch} {G : GT} {Z : Nat → Nat × Nat} (ht : l.stackTraces = false) {V : VT} {x1 : Int32} {x2 : Int32} {x3 : Int32} {r : (String ⊕ Unit)} (h : fX9_needNumber V x1 x2 x3 = some r) : XN l G (SG Z) yX9_needNumber (.code yX9_needNumber cX9_needNumber 3 none) 7 1 [.int x1, .int x2, .int x3] V r := by
  intro sz
  refine xmet_of (Qs := fun sz => XW G sz r V) (Xs := fun sz => XE G sz r V) (SG_ok Z) (by decide) (Nat.le_of_ble_eq_true rfl) ?_ sz
  intro p e s m args below meth c ls E hnt hw hl
  have hx := en_x E
  have hb := en_b E
  have hB := en_B E
  generalize hQ : vx_MQ _ _ _ _ _ _ _ _ = Q
  have kr : Q = vx_MQ below (XW G s.heap.size r V) (XE G s.heap.size r V) args s 1 6 (gA G s.heap.size) := hQ.symm
  have hl : lv_has ls 3 [(0, .int x1), (1, .int x2), (2, .int x3)] := hl
  obtain ⟨H, eH⟩ : ∃ H, H = s.heap := ⟨_, rfl⟩
  obtain ⟨locs, elocs⟩ : ∃ z : List Loc, z = [] := ⟨_, rfl⟩
  have hw : HW G s.heap V H locs := by rw [eH, elocs]; exact hw
  show W p l e _ s m args below meth c s.heap [] 0 0 Q (F0 m 0 ls [])
  rw [← eH, ← elocs]
  unfold fX9_needNumber at h
  refine lv_iload_n hx hb dX9_needNumber_0 rfl (lv_at hl 0 rfl) ?_
  refine lv_iload_n hx hb dX9_needNumber_1 rfl (lv_at hl 1 rfl) ?_
  refine lv_icmp_lt (tgt := 10) hx hb dX9_needNumber_2 (by decide) (fun c2 => ?_) (fun c2 => ?_)
  · rw [if_pos c2] at h
    exact wX9_needNumber_j10 E ht hnt h kr hw (lv_sub hl [] rfl)
  · rw [if_neg c2] at h
    refine lv_iload_n hx hb dX9_needNumber_5 rfl (lv_at hl 0 rfl) ?_
    refine lv_iload_n hx hb dX9_needNumber_6 rfl (lv_at hl 2 rfl) ?_
    refine lv_icmp_le (tgt := 21) hx hb dX9_needNumber_7 (by decide) (fun c1 => ?_) (fun c1 => ?_)
    · rw [if_pos c1] at h
      have h := Option.some.inj h
      subst h
      rw [kr]
      exact x_rv E hw (by decide) (by decide) dX9_needNumber_21
    · rw [if_neg c1] at h
      exact wX9_needNumber_j10 E ht hnt h kr hw (lv_sub hl [] rfl)
/-! ===== AllSawIt.street()I ===== -/
theorem dX9_street_0 : decode cX9_street 0 = .ok (.aload_n 0, 1) := by decide +kernel
theorem dX9_street_1 : decode cX9_street 1 = .ok (.getfield 23, 3) := by decide +kernel
theorem dX9_street_4 : decode cX9_street 4 = .ok (.aload_n 0, 1) := by decide +kernel
theorem dX9_street_5 : decode cX9_street 5 = .ok (.getfield 19, 3) := by decide +kernel
theorem dX9_street_8 : decode cX9_street 8 = .ok (.invokevirtual 71, 3) := by decide +kernel
theorem dX9_street_11 : decode cX9_street 11 = .ok (.aload_n 0, 1) := by decide +kernel
theorem dX9_street_12 : decode cX9_street 12 = .ok (.getfield 12, 3) := by decide +kernel
theorem dX9_street_15 : decode cX9_street 15 = .ok (.aload_n 0, 1) := by decide +kernel
theorem dX9_street_16 : decode cX9_street 16 = .ok (.getfield 23, 3) := by decide +kernel
theorem dX9_street_19 : decode cX9_street 19 = .ok (.invokestatic 75, 3) := by decide +kernel
theorem dX9_street_22 : decode cX9_street 22 = .ok (.istore_n 1, 1) := by decide +kernel
theorem dX9_street_23 : decode cX9_street 23 = .ok (.aload_n 0, 1) := by decide +kernel
theorem dX9_street_24 : decode cX9_street 24 = .ok (.iload_n 1, 1) := by decide +kernel
theorem dX9_street_25 : decode cX9_street 25 = .ok (.invokevirtual 81, 3) := by decide +kernel
theorem dX9_street_28 : decode cX9_street 28 = .ok (.iload_n 1, 1) := by decide +kernel
theorem dX9_street_29 : decode cX9_street 29 = .ok (.ifCond .ne 13, 3) := by decide +kernel
theorem dX9_street_32 : decode cX9_street 32 = .ok (.new 85, 3) := by decide +kernel
theorem dX9_street_35 : decode cX9_street 35 = .ok (.dup, 1) := by decide +kernel
theorem dX9_street_36 : decode cX9_street 36 = .ok (.ldc 87, 2) := by decide +kernel
theorem dX9_street_38 : decode cX9_street 38 = .ok (.invokespecial 89, 3) := by decide +kernel
theorem dX9_street_41 : decode cX9_street 41 = .ok (.athrow, 1) := by decide +kernel
theorem dX9_street_42 : decode cX9_street 42 = .ok (.aload_n 0, 1) := by decide +kernel
theorem dX9_street_43 : decode cX9_street 43 = .ok (.getfield 19, 3) := by decide +kernel
theorem dX9_street_46 : decode cX9_street 46 = .ok (.getfield 92, 3) := by decide +kernel
theorem dX9_street_49 : decode cX9_street 49 = .ok (.bipush 12, 2) := by decide +kernel
theorem dX9_street_51 : decode cX9_street 51 = .ok (.if_icmp .lt 13, 3) := by decide +kernel
theorem dX9_street_54 : decode cX9_street 54 = .ok (.new 95, 3) := by decide +kernel
theorem dX9_street_57 : decode cX9_street 57 = .ok (.dup, 1) := by decide +kernel
theorem dX9_street_58 : decode cX9_street 58 = .ok (.ldc 97, 2) := by decide +kernel
theorem dX9_street_60 : decode cX9_street 60 = .ok (.invokespecial 99, 3) := by decide +kernel
theorem dX9_street_63 : decode cX9_street 63 = .ok (.athrow, 1) := by decide +kernel
theorem dX9_street_64 : decode cX9_street 64 = .ok (.aload_n 0, 1) := by decide +kernel
theorem dX9_street_65 : decode cX9_street 65 = .ok (.getfield 19, 3) := by decide +kernel
theorem dX9_street_68 : decode cX9_street 68 = .ok (.aload_n 0, 1) := by decide +kernel
theorem dX9_street_69 : decode cX9_street 69 = .ok (.getfield 23, 3) := by decide +kernel
theorem dX9_street_72 : decode cX9_street 72 = .ok (.invokevirtual 71, 3) := by decide +kernel
theorem dX9_street_75 : decode cX9_street 75 = .ok (.aload_n 0, 1) := by decide +kernel
theorem dX9_street_76 : decode cX9_street 76 = .ok (.getfield 19, 3) := by decide +kernel
theorem dX9_street_79 : decode cX9_street 79 = .ok (.dup, 1) := by decide +kernel
theorem dX9_street_80 : decode cX9_street 80 = .ok (.getfield 92, 3) := by decide +kernel
theorem dX9_street_83 : decode cX9_street 83 = .ok (.iconst 1, 1) := by decide +kernel
theorem dX9_street_84 : decode cX9_street 84 = .ok (.iadd, 1) := by decide +kernel
theorem dX9_street_85 : decode cX9_street 85 = .ok (.putfield 92, 3) := by decide +kernel
theorem dX9_street_88 : decode cX9_street 88 = .ok (.aload_n 0, 1) := by decide +kernel
theorem dX9_street_89 : decode cX9_street 89 = .ok (.getfield 45, 3) := by decide +kernel
theorem dX9_street_92 : decode cX9_street 92 = .ok (.invokevirtual 100, 3) := by decide +kernel
theorem dX9_street_95 : decode cX9_street 95 = .ok (.aload_n 0, 1) := by decide +kernel
theorem dX9_street_96 : decode cX9_street 96 = .ok (.getfield 19, 3) := by decide +kernel
theorem dX9_street_99 : decode cX9_street 99 = .ok (.getfield 92, 3) := by decide +kernel
theorem dX9_street_102 : decode cX9_street 102 = .ok (.ireturn, 1) := by decide +kernel
noncomputable def fX9_street (V : VT) : Option ((String ⊕ Int32) × VT) := ob_R (fX6_copyFrom V 3 2) fun V2 => ob_I (fX7_read V2 3) fun y4 V5 => ob_R (fX9_endText V5 y4) fun V7 => if y4 = 0 then (some (.inl "java/lang/IllegalArgumentException", V7)) else (if (V7 2 5) < (12 : Int32) then (ob_R (fX6_copyFrom V7 2 3) fun V9 => lt_ (va_up V9 2 (upd (V9 2) 5 ((V9 2 5) + (1 : Int32)))) fun V10 => ob_R (fX0_forget V10 ) fun V12 => some (.inr (V12 2 5), V12)) else (some (.inl "java/lang/UnsupportedOperationException", V7)))
set_option maxHeartbeats 4000000 in
set_option maxRecDepth 100000 in
theorem kX9_street {l : Launch} {G : GT} {Z : Nat → Nat × Nat} (ht : l.stackTraces = false) {V : VT} {r : ((String ⊕ Int32) × VT)} (h : fX9_street V = some r) : XI l G (SG Z) yX9_street (.code yX9_street cX9_street 2 (some .int)) 11 1 [.ref (G.2.2 0)] V r.1 r.2 := by
  intro sz
  refine xmet_of (Qs := fun sz => XQ G sz r.1 r.2) (Xs := fun sz => XE G sz r.1 r.2) (SG_ok Z) (by decide) (Nat.le_of_ble_eq_true rfl) ?_ sz
  intro p e s m args below meth c ls E hnt hw hl
  have hx := en_x E
  have hb := en_b E
  have hB := en_B E
  generalize hQ : vx_MQ _ _ _ _ _ _ _ _ = Q
  have kr : Q = vx_MQ below (XQ G s.heap.size r.1 r.2) (XE G s.heap.size r.1 r.2) args s 1 6 (gA G s.heap.size) := hQ.symm
  have hl : lv_has ls 2 [(0, .ref (G.2.2 0))] := hl
  obtain ⟨H, eH⟩ : ∃ H, H = s.heap := ⟨_, rfl⟩
  obtain ⟨locs, elocs⟩ : ∃ z : List Loc, z = [] := ⟨_, rfl⟩
  have hw : HW G s.heap V H locs := by rw [eH, elocs]; exact hw
  show W p l e _ s m args below meth c s.heap [] 0 0 Q (F0 m 0 ls [])
  rw [← eH, ← elocs]
  unfold fX9_street at h
  refine lv_aload_n hx hb dX9_street_0 rfl (lv_at hl 0 rfl) ?_
  refine r_gr E hw 0 2 3 (N := 11) (C := RX9) (T := TX9) (by decide) rfl rfl (by decide) rfl iw_9 rfl lf_RX9_23 dX9_street_1 ?_
  refine lv_aload_n hx hb dX9_street_4 rfl (lv_at hl 0 rfl) ?_
  refine r_gr E hw 0 1 2 (N := 11) (C := RX9) (T := TX9) (by decide) rfl rfl (by decide) rfl iw_9 rfl lf_RX9_19 dX9_street_5 ?_
  obtain ⟨V2, h1, h⟩ := ob_R_some h
  refine g_VV E hw (kX6_copyFrom (l := l) (G := G) hB ⟨by decide, by decide⟩ ⟨by decide, by decide⟩ h1) yy_X6_copyFrom lm_RX9_71 rfl (by decide) rfl rfl hl.1 (by decide) (by decide) (by decide) rfl (Nat.le_of_ble_eq_true rfl) dX9_street_8 (fun H locs hw => ?_)
  refine lv_aload_n hx hb dX9_street_11 rfl (lv_at hl 0 rfl) ?_
  refine r_gr E hw 0 0 1 (N := 11) (C := RX9) (T := TX9) (by decide) rfl rfl (by decide) rfl iw_9 rfl lf_RX9_12 dX9_street_12 ?_
  refine lv_aload_n hx hb dX9_street_15 rfl (lv_at hl 0 rfl) ?_
  refine r_gr E hw 0 2 3 (N := 11) (C := RX9) (T := TX9) (by decide) rfl rfl (by decide) rfl iw_9 rfl lf_RX9_23 dX9_street_16 ?_
  obtain ⟨y4, V5, h3, h⟩ := ob_I_some h
  refine g_SI E hw (kX7_read (l := l) (G := G) (Z := Z) ⟨by decide, by decide⟩ h3) yy_X7_read lm_RX9_75 rfl hl.1 (by decide) (by decide) (by decide) rfl (Nat.le_of_ble_eq_true rfl) dX9_street_19 (fun H locs hw => ?_)
  refine lv_istore_n (lv' := [(1, .int y4), (0, .ref (G.2.2 0))]) hx hb dX9_street_22 rfl hl (by decide) rfl (fun ls hl => ?_)
  refine lv_aload_n hx hb dX9_street_23 rfl (lv_at hl 1 rfl) ?_
  refine lv_iload_n hx hb dX9_street_24 rfl (lv_at hl 0 rfl) ?_
  obtain ⟨V7, h6, h⟩ := ob_R_some h
  refine g_VV E hw (kX9_endText (l := l) (G := G) hB  h6) yy_X9_endText lm_RX9_81 rfl (by decide) rfl rfl hl.1 (by decide) (by decide) (by decide) rfl (Nat.le_of_ble_eq_true rfl) dX9_street_25 (fun H locs hw => ?_)
  refine lv_iload_n hx hb dX9_street_28 rfl (lv_at hl 0 rfl) ?_
  refine lv_if_ne (tgt := 42) hx hb dX9_street_29 (by decide) (fun c14 => ?_) (fun c14 => ?_)
  · rw [if_neg c14] at h
    refine lv_aload_n hx hb dX9_street_42 rfl (lv_at hl 1 rfl) ?_
    refine r_gr E hw 0 1 2 (N := 11) (C := RX9) (T := TX9) (by decide) rfl rfl (by decide) rfl iw_9 rfl lf_RX9_19 dX9_street_43 ?_
    refine r_giN E hw 2 5 (N := 13) (C := RX6) (T := TX6) (by decide) rfl rfl (by decide) rfl iw_6 rfl lf_RX9_92 dX9_street_46 ?_
    refine lv_bipush (v := (12 : Int32)) hx hb dX9_street_49 (by decide) ?_
    refine lv_icmp_lt (tgt := 64) hx hb dX9_street_51 (by decide) (fun c13 => ?_) (fun c13 => ?_)
    · rw [if_pos c13] at h
      refine lv_aload_n hx hb dX9_street_64 rfl (lv_at hl 1 rfl) ?_
      refine r_gr E hw 0 1 2 (N := 11) (C := RX9) (T := TX9) (by decide) rfl rfl (by decide) rfl iw_9 rfl lf_RX9_19 dX9_street_65 ?_
      refine lv_aload_n hx hb dX9_street_68 rfl (lv_at hl 1 rfl) ?_
      refine r_gr E hw 0 2 3 (N := 11) (C := RX9) (T := TX9) (by decide) rfl rfl (by decide) rfl iw_9 rfl lf_RX9_23 dX9_street_69 ?_
      obtain ⟨V9, h8, h⟩ := ob_R_some h
      refine g_VV E hw (kX6_copyFrom (l := l) (G := G) hB ⟨by decide, by decide⟩ ⟨by decide, by decide⟩ h8) yy_X6_copyFrom lm_RX9_71 rfl (by decide) rfl rfl hl.1 (by decide) (by decide) (by decide) rfl (Nat.le_of_ble_eq_true rfl) dX9_street_72 (fun H locs hw => ?_)
      refine lv_aload_n hx hb dX9_street_75 rfl (lv_at hl 1 rfl) ?_
      refine r_gr E hw 0 1 2 (N := 11) (C := RX9) (T := TX9) (by decide) rfl rfl (by decide) rfl iw_9 rfl lf_RX9_19 dX9_street_76 ?_
      refine lv_dup hx hb dX9_street_79 rfl ?_
      refine r_giN E hw 2 5 (N := 13) (C := RX6) (T := TX6) (by decide) rfl rfl (by decide) rfl iw_6 rfl lf_RX9_92 dX9_street_80 ?_
      refine lv_iconst (v := (1 : Int32)) hx hb dX9_street_83 (by decide) ?_
      refine lv_iadd hx hb dX9_street_84 ?_
      obtain ⟨V10, eV10, h⟩ := lt_some h
      refine r_piN E hw 2 5 (N := 13) (C := RX6) (T := TX6) (ty0 := tyX6) (ty := .int) (by decide) rfl rfl (by decide) rfl iw_6 rfl tyX6_ok nmX6 rfl rfl (vp_nar_int _) rfl lf_RX9_92 eV10 dX9_street_85 (fun H locs hw => ?_)
      refine lv_aload_n hx hb dX9_street_88 rfl (lv_at hl 1 rfl) ?_
      refine r_gr E hw 0 7 20 (N := 11) (C := RX9) (T := TX9) (by decide) rfl rfl (by decide) rfl iw_9 rfl lf_RX9_45 dX9_street_89 ?_
      obtain ⟨V12, h11, h⟩ := ob_R_some h
      refine g_VV E hw (kX0_forget (l := l) (G := G) hB  h11) yy_X0_forget lm_RX9_100 rfl (by decide) rfl rfl hl.1 (by decide) (by decide) (by decide) rfl (Nat.le_of_ble_eq_true rfl) dX9_street_92 (fun H locs hw => ?_)
      refine lv_aload_n hx hb dX9_street_95 rfl (lv_at hl 1 rfl) ?_
      refine r_gr E hw 0 1 2 (N := 11) (C := RX9) (T := TX9) (by decide) rfl rfl (by decide) rfl iw_9 rfl lf_RX9_19 dX9_street_96 ?_
      refine r_giN E hw 2 5 (N := 13) (C := RX6) (T := TX6) (by decide) rfl rfl (by decide) rfl iw_6 rfl lf_RX9_92 dX9_street_99 ?_
      have h := Option.some.inj h
      subst h
      rw [kr]
      exact x_ri E hw (by decide) (by decide) dX9_street_102
    · rw [if_neg c13] at h
      have h := Option.some.inj h
      subst h
      rw [kr]
      exact x_th (w := 1) (cls := "java/lang/UnsupportedOperationException") E hw ht (by decide) rfl rfl (by decide) tw1_95 tw2_95 tw3_95 tw4_95 tw6_95 hl.1 dX9_street_54 dX9_street_57 (Or.inl ⟨dX9_street_58, dX9_street_60, dX9_street_63⟩) hnt (by decide) (by decide) (Nat.le_of_ble_eq_true rfl) (by decide)
  · rw [if_pos c14] at h
    have h := Option.some.inj h
    subst h
    rw [kr]
    exact x_th (w := 0) (cls := "java/lang/IllegalArgumentException") E hw ht (by decide) rfl rfl (by decide) tw1_85 tw2_85 tw3_85 tw4_85 tw6_85 hl.1 dX9_street_32 dX9_street_35 (Or.inl ⟨dX9_street_36, dX9_street_38, dX9_street_41⟩) hnt (by decide) (by decide) (Nat.le_of_ble_eq_true rfl) (by decide)
/-! ===== AllSawIt.law()I ===== -/
theorem dX9_law_0 : decode cX9_law 0 = .ok (.aload_n 0, 1) := by decide +kernel
theorem dX9_law_1 : decode cX9_law 1 = .ok (.getfield 12, 3) := by decide +kernel
theorem dX9_law_4 : decode cX9_law 4 = .ok (.aload_n 0, 1) := by decide +kernel
theorem dX9_law_5 : decode cX9_law 5 = .ok (.getfield 36, 3) := by decide +kernel
theorem dX9_law_8 : decode cX9_law 8 = .ok (.invokestatic 103, 3) := by decide +kernel
theorem dX9_law_11 : decode cX9_law 11 = .ok (.istore_n 1, 1) := by decide +kernel
theorem dX9_law_12 : decode cX9_law 12 = .ok (.aload_n 0, 1) := by decide +kernel
theorem dX9_law_13 : decode cX9_law 13 = .ok (.iload_n 1, 1) := by decide +kernel
theorem dX9_law_14 : decode cX9_law 14 = .ok (.invokevirtual 81, 3) := by decide +kernel
theorem dX9_law_17 : decode cX9_law 17 = .ok (.iload_n 1, 1) := by decide +kernel
theorem dX9_law_18 : decode cX9_law 18 = .ok (.ifCond .ne 13, 3) := by decide +kernel
theorem dX9_law_21 : decode cX9_law 21 = .ok (.new 85, 3) := by decide +kernel
theorem dX9_law_24 : decode cX9_law 24 = .ok (.dup, 1) := by decide +kernel
theorem dX9_law_25 : decode cX9_law 25 = .ok (.ldc 108, 2) := by decide +kernel
theorem dX9_law_27 : decode cX9_law 27 = .ok (.invokespecial 89, 3) := by decide +kernel
theorem dX9_law_30 : decode cX9_law 30 = .ok (.athrow, 1) := by decide +kernel
theorem dX9_law_31 : decode cX9_law 31 = .ok (.aload_n 0, 1) := by decide +kernel
theorem dX9_law_32 : decode cX9_law 32 = .ok (.getfield 32, 3) := by decide +kernel
theorem dX9_law_35 : decode cX9_law 35 = .ok (.aload_n 0, 1) := by decide +kernel
theorem dX9_law_36 : decode cX9_law 36 = .ok (.getfield 36, 3) := by decide +kernel
theorem dX9_law_39 : decode cX9_law 39 = .ok (.invokevirtual 110, 3) := by decide +kernel
theorem dX9_law_42 : decode cX9_law 42 = .ok (.aload_n 0, 1) := by decide +kernel
theorem dX9_law_43 : decode cX9_law 43 = .ok (.getfield 45, 3) := by decide +kernel
theorem dX9_law_46 : decode cX9_law 46 = .ok (.invokevirtual 100, 3) := by decide +kernel
theorem dX9_law_49 : decode cX9_law 49 = .ok (.aload_n 0, 1) := by decide +kernel
theorem dX9_law_50 : decode cX9_law 50 = .ok (.getfield 32, 3) := by decide +kernel
theorem dX9_law_53 : decode cX9_law 53 = .ok (.getfield 113, 3) := by decide +kernel
theorem dX9_law_56 : decode cX9_law 56 = .ok (.ireturn, 1) := by decide +kernel
noncomputable def fX9_law (V : VT) : Option ((String ⊕ Int32) × VT) := ob_I (fX4_read V ) fun y2 V3 => ob_R (fX9_endText V3 y2) fun V5 => if y2 = 0 then (some (.inl "java/lang/IllegalArgumentException", V5)) else (ob_R (fX3_copyFrom V5 17 18) fun V7 => ob_R (fX0_forget V7 ) fun V9 => some (.inr (V9 17 2), V9))
set_option maxHeartbeats 4000000 in
set_option maxRecDepth 100000 in
theorem kX9_law {l : Launch} {G : GT} {Z : Nat → Nat × Nat} (ht : l.stackTraces = false) {V : VT} {r : ((String ⊕ Int32) × VT)} (h : fX9_law V = some r) : XI l G (SG Z) yX9_law (.code yX9_law cX9_law 2 (some .int)) 99 1 [.ref (G.2.2 0)] V r.1 r.2 := by
  intro sz
  refine xmet_of (Qs := fun sz => XQ G sz r.1 r.2) (Xs := fun sz => XE G sz r.1 r.2) (SG_ok Z) (by decide) (Nat.le_of_ble_eq_true rfl) ?_ sz
  intro p e s m args below meth c ls E hnt hw hl
  have hx := en_x E
  have hb := en_b E
  have hB := en_B E
  generalize hQ : vx_MQ _ _ _ _ _ _ _ _ = Q
  have kr : Q = vx_MQ below (XQ G s.heap.size r.1 r.2) (XE G s.heap.size r.1 r.2) args s 1 6 (gA G s.heap.size) := hQ.symm
  have hl : lv_has ls 2 [(0, .ref (G.2.2 0))] := hl
  obtain ⟨H, eH⟩ : ∃ H, H = s.heap := ⟨_, rfl⟩
  obtain ⟨locs, elocs⟩ : ∃ z : List Loc, z = [] := ⟨_, rfl⟩
  have hw : HW G s.heap V H locs := by rw [eH, elocs]; exact hw
  show W p l e _ s m args below meth c s.heap [] 0 0 Q (F0 m 0 ls [])
  rw [← eH, ← elocs]
  unfold fX9_law at h
  refine lv_aload_n hx hb dX9_law_0 rfl (lv_at hl 0 rfl) ?_
  refine r_gr E hw 0 0 1 (N := 11) (C := RX9) (T := TX9) (by decide) rfl rfl (by decide) rfl iw_9 rfl lf_RX9_12 dX9_law_1 ?_
  refine lv_aload_n hx hb dX9_law_4 rfl (lv_at hl 0 rfl) ?_
  refine r_gr E hw 0 5 18 (N := 11) (C := RX9) (T := TX9) (by decide) rfl rfl (by decide) rfl iw_9 rfl lf_RX9_36 dX9_law_5 ?_
  obtain ⟨y2, V3, h1, h⟩ := ob_I_some h
  refine g_SI E hw (kX4_read (l := l) (G := G) (Z := Z)  h1) yy_X4_read lm_RX9_103 rfl hl.1 (by decide) (by decide) (by decide) rfl (Nat.le_of_ble_eq_true rfl) dX9_law_8 (fun H locs hw => ?_)
  refine lv_istore_n (lv' := [(1, .int y2), (0, .ref (G.2.2 0))]) hx hb dX9_law_11 rfl hl (by decide) rfl (fun ls hl => ?_)
  refine lv_aload_n hx hb dX9_law_12 rfl (lv_at hl 1 rfl) ?_
  refine lv_iload_n hx hb dX9_law_13 rfl (lv_at hl 0 rfl) ?_
  obtain ⟨V5, h4, h⟩ := ob_R_some h
  refine g_VV E hw (kX9_endText (l := l) (G := G) hB  h4) yy_X9_endText lm_RX9_81 rfl (by decide) rfl rfl hl.1 (by decide) (by decide) (by decide) rfl (Nat.le_of_ble_eq_true rfl) dX9_law_14 (fun H locs hw => ?_)
  refine lv_iload_n hx hb dX9_law_17 rfl (lv_at hl 0 rfl) ?_
  refine lv_if_ne (tgt := 31) hx hb dX9_law_18 (by decide) (fun c10 => ?_) (fun c10 => ?_)
  · rw [if_neg c10] at h
    refine lv_aload_n hx hb dX9_law_31 rfl (lv_at hl 1 rfl) ?_
    refine r_gr E hw 0 4 17 (N := 11) (C := RX9) (T := TX9) (by decide) rfl rfl (by decide) rfl iw_9 rfl lf_RX9_32 dX9_law_32 ?_
    refine lv_aload_n hx hb dX9_law_35 rfl (lv_at hl 1 rfl) ?_
    refine r_gr E hw 0 5 18 (N := 11) (C := RX9) (T := TX9) (by decide) rfl rfl (by decide) rfl iw_9 rfl lf_RX9_36 dX9_law_36 ?_
    obtain ⟨V7, h6, h⟩ := ob_R_some h
    refine g_VV E hw (kX3_copyFrom (l := l) (G := G) hB ⟨by decide, by decide⟩ ⟨by decide, by decide⟩ h6) yy_X3_copyFrom lm_RX9_110 rfl (by decide) rfl rfl hl.1 (by decide) (by decide) (by decide) rfl (Nat.le_of_ble_eq_true rfl) dX9_law_39 (fun H locs hw => ?_)
    refine lv_aload_n hx hb dX9_law_42 rfl (lv_at hl 1 rfl) ?_
    refine r_gr E hw 0 7 20 (N := 11) (C := RX9) (T := TX9) (by decide) rfl rfl (by decide) rfl iw_9 rfl lf_RX9_45 dX9_law_43 ?_
    obtain ⟨V9, h8, h⟩ := ob_R_some h
    refine g_VV E hw (kX0_forget (l := l) (G := G) hB  h8) yy_X0_forget lm_RX9_100 rfl (by decide) rfl rfl hl.1 (by decide) (by decide) (by decide) rfl (Nat.le_of_ble_eq_true rfl) dX9_law_46 (fun H locs hw => ?_)
    refine lv_aload_n hx hb dX9_law_49 rfl (lv_at hl 1 rfl) ?_
    refine r_gr E hw 0 4 17 (N := 11) (C := RX9) (T := TX9) (by decide) rfl rfl (by decide) rfl iw_9 rfl lf_RX9_32 dX9_law_50 ?_
    refine r_giN E hw 17 2 (N := 10) (C := RX3) (T := TX3) (by decide) rfl rfl (by decide) rfl iw_3 rfl lf_RX9_113 dX9_law_53 ?_
    have h := Option.some.inj h
    subst h
    rw [kr]
    exact x_ri E hw (by decide) (by decide) dX9_law_56
  · rw [if_pos c10] at h
    have h := Option.some.inj h
    subst h
    rw [kr]
    exact x_th (w := 2) (cls := "java/lang/IllegalArgumentException") E hw ht (by decide) rfl rfl (by decide) tw1_85 tw2_85 tw3_85 tw4_85 tw6_85 hl.1 dX9_law_21 dX9_law_24 (Or.inl ⟨dX9_law_25, dX9_law_27, dX9_law_30⟩) hnt (by decide) (by decide) (Nat.le_of_ble_eq_true rfl) (by decide)
/-! ===== AllSawIt.sees(III)Z ===== -/
theorem dX9_sees_0 : decode cX9_sees 0 = .ok (.aload_n 0, 1) := by decide +kernel
theorem dX9_sees_1 : decode cX9_sees 1 = .ok (.iload_n 1, 1) := by decide +kernel
theorem dX9_sees_2 : decode cX9_sees 2 = .ok (.invokevirtual 119, 3) := by decide +kernel
theorem dX9_sees_5 : decode cX9_sees 5 = .ok (.iload_n 2, 1) := by decide +kernel
theorem dX9_sees_6 : decode cX9_sees 6 = .ok (.invokestatic 172, 3) := by decide +kernel
theorem dX9_sees_9 : decode cX9_sees 9 = .ok (.iload_n 3, 1) := by decide +kernel
theorem dX9_sees_10 : decode cX9_sees 10 = .ok (.invokestatic 175, 3) := by decide +kernel
theorem dX9_sees_13 : decode cX9_sees 13 = .ok (.aload_n 0, 1) := by decide +kernel
theorem dX9_sees_14 : decode cX9_sees 14 = .ok (.getfield 32, 3) := by decide +kernel
theorem dX9_sees_17 : decode cX9_sees 17 = .ok (.aload_n 0, 1) := by decide +kernel
theorem dX9_sees_18 : decode cX9_sees 18 = .ok (.getfield 19, 3) := by decide +kernel
theorem dX9_sees_21 : decode cX9_sees 21 = .ok (.iload_n 1, 1) := by decide +kernel
theorem dX9_sees_22 : decode cX9_sees 22 = .ok (.iload_n 2, 1) := by decide +kernel
theorem dX9_sees_23 : decode cX9_sees 23 = .ok (.iload_n 3, 1) := by decide +kernel
theorem dX9_sees_24 : decode cX9_sees 24 = .ok (.invokevirtual 178, 3) := by decide +kernel
theorem dX9_sees_27 : decode cX9_sees 27 = .ok (.ireturn, 1) := by decide +kernel
noncomputable def fX9_sees (V : VT) (x1 : Int32) (x2 : Int32) (x3 : Int32) : Option ((String ⊕ Int32) × VT) := ob_N (fX9_needHouse V x1) (fun E2 => some (.inl E2, V)) (ob_N (fX9_needPlace V x2) (fun E4 => some (.inl E4, V)) (ob_N (fX9_needHour V x3) (fun E6 => some (.inl E6, V)) (ob_I (fX3_lets V 2 x1 x2 x3) fun y8 V9 => zo_ y8 (some (.inr y8, V9)))))
set_option maxHeartbeats 4000000 in
set_option maxRecDepth 100000 in
theorem kX9_sees {l : Launch} {G : GT} {Z : Nat → Nat × Nat} (ht : l.stackTraces = false) {V : VT} {x1 : Int32} {x2 : Int32} {x3 : Int32} {r : ((String ⊕ Int32) × VT)} (h : fX9_sees V x1 x2 x3 = some r) : XI l G (SG Z) yX9_sees (.code yX9_sees cX9_sees 4 (some .boolean)) 9 3 [.ref (G.2.2 0), .int x1, .int x2, .int x3] V r.1 r.2 := by
  intro sz
  refine xmet_of (Qs := fun sz => XQ G sz r.1 r.2) (Xs := fun sz => XE G sz r.1 r.2) (SG_ok Z) (by decide) (Nat.le_of_ble_eq_true rfl) ?_ sz
  intro p e s m args below meth c ls E hnt hw hl
  have hx := en_x E
  have hb := en_b E
  have hB := en_B E
  generalize hQ : vx_MQ _ _ _ _ _ _ _ _ = Q
  have kr : Q = vx_MQ below (XQ G s.heap.size r.1 r.2) (XE G s.heap.size r.1 r.2) args s 3 18 (gA G s.heap.size) := hQ.symm
  have hl : lv_has ls 4 [(0, .ref (G.2.2 0)), (1, .int x1), (2, .int x2), (3, .int x3)] := hl
  obtain ⟨H, eH⟩ : ∃ H, H = s.heap := ⟨_, rfl⟩
  obtain ⟨locs, elocs⟩ : ∃ z : List Loc, z = [] := ⟨_, rfl⟩
  have hw : HW G s.heap V H locs := by rw [eH, elocs]; exact hw
  show W p l e _ s m args below meth c s.heap [] 0 0 Q (F0 m 0 ls [])
  rw [← eH, ← elocs]
  unfold fX9_sees at h
  refine lv_aload_n hx hb dX9_sees_0 rfl (lv_at hl 0 rfl) ?_
  refine lv_iload_n hx hb dX9_sees_1 rfl (lv_at hl 1 rfl) ?_
  rcases ob_N_some h with ⟨E2, h1, h⟩ | ⟨h1, h⟩
  · have h := Option.some.inj h
    subst h
    rw [kr]
    exact x_VVe E hw (kX9_needHouse (l := l) (G := G) (Z := Z) ht h1) yy_X9_needHouse lm_RX9_119 rfl (by decide) rfl rfl hl.1 (by decide) (by decide) (by decide) rfl (Nat.le_of_ble_eq_true rfl) dX9_sees_2 hnt (by decide)
  · refine x_VVn E hw (kX9_needHouse (l := l) (G := G) (Z := Z) ht h1) yy_X9_needHouse lm_RX9_119 rfl (by decide) rfl rfl hl.1 (by decide) (by decide) (by decide) rfl (Nat.le_of_ble_eq_true rfl) dX9_sees_2 (fun H locs hw => ?_)
    refine lv_iload_n hx hb dX9_sees_5 rfl (lv_at hl 2 rfl) ?_
    rcases ob_N_some h with ⟨E4, h3, h⟩ | ⟨h3, h⟩
    · have h := Option.some.inj h
      subst h
      rw [kr]
      exact x_SVe E hw (kX9_needPlace (l := l) (G := G) (Z := Z) ht h3) yy_X9_needPlace lm_RX9_172 rfl hl.1 (by decide) (by decide) (by decide) rfl (Nat.le_of_ble_eq_true rfl) dX9_sees_6 hnt (by decide)
    · refine x_SVn E hw (kX9_needPlace (l := l) (G := G) (Z := Z) ht h3) yy_X9_needPlace lm_RX9_172 rfl hl.1 (by decide) (by decide) (by decide) rfl (Nat.le_of_ble_eq_true rfl) dX9_sees_6 (fun H locs hw => ?_)
      refine lv_iload_n hx hb dX9_sees_9 rfl (lv_at hl 3 rfl) ?_
      rcases ob_N_some h with ⟨E6, h5, h⟩ | ⟨h5, h⟩
      · have h := Option.some.inj h
        subst h
        rw [kr]
        exact x_SVe E hw (kX9_needHour (l := l) (G := G) (Z := Z) ht h5) yy_X9_needHour lm_RX9_175 rfl hl.1 (by decide) (by decide) (by decide) rfl (Nat.le_of_ble_eq_true rfl) dX9_sees_10 hnt (by decide)
      · refine x_SVn E hw (kX9_needHour (l := l) (G := G) (Z := Z) ht h5) yy_X9_needHour lm_RX9_175 rfl hl.1 (by decide) (by decide) (by decide) rfl (Nat.le_of_ble_eq_true rfl) dX9_sees_10 (fun H locs hw => ?_)
        refine lv_aload_n hx hb dX9_sees_13 rfl (lv_at hl 0 rfl) ?_
        refine r_gr E hw 0 4 17 (N := 11) (C := RX9) (T := TX9) (by decide) rfl rfl (by decide) rfl iw_9 rfl lf_RX9_32 dX9_sees_14 ?_
        refine lv_aload_n hx hb dX9_sees_17 rfl (lv_at hl 0 rfl) ?_
        refine r_gr E hw 0 1 2 (N := 11) (C := RX9) (T := TX9) (by decide) rfl rfl (by decide) rfl iw_9 rfl lf_RX9_19 dX9_sees_18 ?_
        refine lv_iload_n hx hb dX9_sees_21 rfl (lv_at hl 1 rfl) ?_
        refine lv_iload_n hx hb dX9_sees_22 rfl (lv_at hl 2 rfl) ?_
        refine lv_iload_n hx hb dX9_sees_23 rfl (lv_at hl 3 rfl) ?_
        obtain ⟨y8, V9, h7, h⟩ := ob_I_some h
        refine g_VI E hw (kX3_lets (l := l) (G := G) hB ⟨by decide, by decide⟩ h7) yy_X3_lets lm_RX9_178 rfl (by decide) rfl rfl hl.1 (by decide) (by decide) (by decide) rfl (Nat.le_of_ble_eq_true rfl) dX9_sees_24 (fun H locs hw => ?_)
        obtain ⟨z10, h⟩ := zo_some h
        have h := Option.some.inj h
        subst h
        rw [kr]
        exact x_rz E hw (by decide) (by decide) z10 dX9_sees_27
/-! ===== AllSawIt.done(I)I ===== -/
theorem dX9_done_0 : decode cX9_done 0 = .ok (.aload_n 0, 1) := by decide +kernel
theorem dX9_done_1 : decode cX9_done 1 = .ok (.iload_n 1, 1) := by decide +kernel
theorem dX9_done_2 : decode cX9_done 2 = .ok (.invokevirtual 152, 3) := by decide +kernel
theorem dX9_done_5 : decode cX9_done 5 = .ok (.aload_n 0, 1) := by decide +kernel
theorem dX9_done_6 : decode cX9_done 6 = .ok (.getfield 19, 3) := by decide +kernel
theorem dX9_done_9 : decode cX9_done 9 = .ok (.iload_n 1, 1) := by decide +kernel
theorem dX9_done_10 : decode cX9_done 10 = .ok (.invokevirtual 158, 3) := by decide +kernel
theorem dX9_done_13 : decode cX9_done 13 = .ok (.ifCond .eq 13, 3) := by decide +kernel
theorem dX9_done_16 : decode cX9_done 16 = .ok (.new 182, 3) := by decide +kernel
theorem dX9_done_19 : decode cX9_done 19 = .ok (.dup, 1) := by decide +kernel
theorem dX9_done_20 : decode cX9_done 20 = .ok (.ldc 184, 2) := by decide +kernel
theorem dX9_done_22 : decode cX9_done 22 = .ok (.invokespecial 186, 3) := by decide +kernel
theorem dX9_done_25 : decode cX9_done 25 = .ok (.athrow, 1) := by decide +kernel
theorem dX9_done_26 : decode cX9_done 26 = .ok (.aload_n 0, 1) := by decide +kernel
theorem dX9_done_27 : decode cX9_done 27 = .ok (.getfield 45, 3) := by decide +kernel
theorem dX9_done_30 : decode cX9_done 30 = .ok (.aload_n 0, 1) := by decide +kernel
theorem dX9_done_31 : decode cX9_done 31 = .ok (.getfield 19, 3) := by decide +kernel
theorem dX9_done_34 : decode cX9_done 34 = .ok (.invokevirtual 187, 3) := by decide +kernel
theorem dX9_done_37 : decode cX9_done 37 = .ok (.aload_n 0, 1) := by decide +kernel
theorem dX9_done_38 : decode cX9_done 38 = .ok (.getfield 19, 3) := by decide +kernel
theorem dX9_done_41 : decode cX9_done 41 = .ok (.aload_n 0, 1) := by decide +kernel
theorem dX9_done_42 : decode cX9_done 42 = .ok (.getfield 32, 3) := by decide +kernel
theorem dX9_done_45 : decode cX9_done 45 = .ok (.aload_n 0, 1) := by decide +kernel
theorem dX9_done_46 : decode cX9_done 46 = .ok (.getfield 19, 3) := by decide +kernel
theorem dX9_done_49 : decode cX9_done 49 = .ok (.iload_n 1, 1) := by decide +kernel
theorem dX9_done_50 : decode cX9_done 50 = .ok (.iconst 0, 1) := by decide +kernel
theorem dX9_done_51 : decode cX9_done 51 = .ok (.invokevirtual 155, 3) := by decide +kernel
theorem dX9_done_54 : decode cX9_done 54 = .ok (.aload_n 0, 1) := by decide +kernel
theorem dX9_done_55 : decode cX9_done 55 = .ok (.getfield 19, 3) := by decide +kernel
theorem dX9_done_58 : decode cX9_done 58 = .ok (.iload_n 1, 1) := by decide +kernel
theorem dX9_done_59 : decode cX9_done 59 = .ok (.iconst 1, 1) := by decide +kernel
theorem dX9_done_60 : decode cX9_done 60 = .ok (.invokevirtual 155, 3) := by decide +kernel
theorem dX9_done_63 : decode cX9_done 63 = .ok (.invokestatic 190, 3) := by decide +kernel
theorem dX9_done_66 : decode cX9_done 66 = .ok (.istore_n 2, 1) := by decide +kernel
theorem dX9_done_67 : decode cX9_done 67 = .ok (.aload_n 0, 1) := by decide +kernel
theorem dX9_done_68 : decode cX9_done 68 = .ok (.getfield 19, 3) := by decide +kernel
theorem dX9_done_71 : decode cX9_done 71 = .ok (.iload_n 1, 1) := by decide +kernel
theorem dX9_done_72 : decode cX9_done 72 = .ok (.iload_n 2, 1) := by decide +kernel
theorem dX9_done_73 : decode cX9_done 73 = .ok (.invokevirtual 194, 3) := by decide +kernel
theorem dX9_done_76 : decode cX9_done 76 = .ok (.iload_n 2, 1) := by decide +kernel
theorem dX9_done_77 : decode cX9_done 77 = .ok (.ireturn, 1) := by decide +kernel
noncomputable def fX9_done (V : VT) (x1 : Int32) : Option ((String ⊕ Int32) × VT) := ob_N (fX9_needDeed V x1) (fun E2 => some (.inl E2, V)) (ob_R (fX6_isSo V 2 x1) fun y4 => if y4 = 0 then (ob_R (fX0_remember V 2) fun V6 => ob_R (fX6_ofDeed V6 2 x1 (0 : Int32)) fun y8 => ob_R (fX6_ofDeed V6 2 x1 (1 : Int32)) fun y10 => ob_I (fX5_witnessBits V6 2 y8 y10) fun y12 V13 => ob_R (fX6_addSeen V13 2 x1 y12) fun V15 => some (.inr y12, V15)) else (some (.inl "java/lang/IllegalStateException", V)))
set_option maxHeartbeats 4000000 in
set_option maxRecDepth 100000 in
theorem kX9_done {l : Launch} {G : GT} {Z : Nat → Nat × Nat} (ht : l.stackTraces = false) {V : VT} {x1 : Int32} {r : ((String ⊕ Int32) × VT)} (h : fX9_done V x1 = some r) : XI l G (SG Z) yX9_done (.code yX9_done cX9_done 3 (some .int)) 9 2 [.ref (G.2.2 0), .int x1] V r.1 r.2 := by
  intro sz
  refine xmet_of (Qs := fun sz => XQ G sz r.1 r.2) (Xs := fun sz => XE G sz r.1 r.2) (SG_ok Z) (by decide) (Nat.le_of_ble_eq_true rfl) ?_ sz
  intro p e s m args below meth c ls E hnt hw hl
  have hx := en_x E
  have hb := en_b E
  have hB := en_B E
  generalize hQ : vx_MQ _ _ _ _ _ _ _ _ = Q
  have kr : Q = vx_MQ below (XQ G s.heap.size r.1 r.2) (XE G s.heap.size r.1 r.2) args s 2 12 (gA G s.heap.size) := hQ.symm
  have hl : lv_has ls 3 [(0, .ref (G.2.2 0)), (1, .int x1)] := hl
  obtain ⟨H, eH⟩ : ∃ H, H = s.heap := ⟨_, rfl⟩
  obtain ⟨locs, elocs⟩ : ∃ z : List Loc, z = [] := ⟨_, rfl⟩
  have hw : HW G s.heap V H locs := by rw [eH, elocs]; exact hw
  show W p l e _ s m args below meth c s.heap [] 0 0 Q (F0 m 0 ls [])
  rw [← eH, ← elocs]
  unfold fX9_done at h
  refine lv_aload_n hx hb dX9_done_0 rfl (lv_at hl 0 rfl) ?_
  refine lv_iload_n hx hb dX9_done_1 rfl (lv_at hl 1 rfl) ?_
  rcases ob_N_some h with ⟨E2, h1, h⟩ | ⟨h1, h⟩
  · have h := Option.some.inj h
    subst h
    rw [kr]
    exact x_VVe E hw (kX9_needDeed (l := l) (G := G) (Z := Z) ht h1) yy_X9_needDeed lm_RX9_152 rfl (by decide) rfl rfl hl.1 (by decide) (by decide) (by decide) rfl (Nat.le_of_ble_eq_true rfl) dX9_done_2 hnt (by decide)
  · refine x_VVn E hw (kX9_needDeed (l := l) (G := G) (Z := Z) ht h1) yy_X9_needDeed lm_RX9_152 rfl (by decide) rfl rfl hl.1 (by decide) (by decide) (by decide) rfl (Nat.le_of_ble_eq_true rfl) dX9_done_2 (fun H locs hw => ?_)
    refine lv_aload_n hx hb dX9_done_5 rfl (lv_at hl 0 rfl) ?_
    refine r_gr E hw 0 1 2 (N := 11) (C := RX9) (T := TX9) (by decide) rfl rfl (by decide) rfl iw_9 rfl lf_RX9_19 dX9_done_6 ?_
    refine lv_iload_n hx hb dX9_done_9 rfl (lv_at hl 1 rfl) ?_
    obtain ⟨y4, h3, h⟩ := ob_R_some h
    refine g_VI E hw (kX6_isSo (l := l) (G := G) hB ⟨by decide, by decide⟩ h3) yy_X6_isSo lm_RX9_158 rfl (by decide) rfl rfl hl.1 (by decide) (by decide) (by decide) rfl (Nat.le_of_ble_eq_true rfl) dX9_done_10 (fun H locs hw => ?_)
    refine lv_if_eq (tgt := 26) hx hb dX9_done_13 (by decide) (fun c16 => ?_) (fun c16 => ?_)
    · rw [if_pos c16] at h
      refine lv_aload_n hx hb dX9_done_26 rfl (lv_at hl 0 rfl) ?_
      refine r_gr E hw 0 7 20 (N := 11) (C := RX9) (T := TX9) (by decide) rfl rfl (by decide) rfl iw_9 rfl lf_RX9_45 dX9_done_27 ?_
      refine lv_aload_n hx hb dX9_done_30 rfl (lv_at hl 0 rfl) ?_
      refine r_gr E hw 0 1 2 (N := 11) (C := RX9) (T := TX9) (by decide) rfl rfl (by decide) rfl iw_9 rfl lf_RX9_19 dX9_done_31 ?_
      obtain ⟨V6, h5, h⟩ := ob_R_some h
      refine g_VV E hw (kX0_remember (l := l) (G := G) hB ⟨by decide, by decide⟩ h5) yy_X0_remember lm_RX9_187 rfl (by decide) rfl rfl hl.1 (by decide) (by decide) (by decide) rfl (Nat.le_of_ble_eq_true rfl) dX9_done_34 (fun H locs hw => ?_)
      refine lv_aload_n hx hb dX9_done_37 rfl (lv_at hl 0 rfl) ?_
      refine r_gr E hw 0 1 2 (N := 11) (C := RX9) (T := TX9) (by decide) rfl rfl (by decide) rfl iw_9 rfl lf_RX9_19 dX9_done_38 ?_
      refine lv_aload_n hx hb dX9_done_41 rfl (lv_at hl 0 rfl) ?_
      refine r_gr E hw 0 4 17 (N := 11) (C := RX9) (T := TX9) (by decide) rfl rfl (by decide) rfl iw_9 rfl lf_RX9_32 dX9_done_42 ?_
      refine lv_aload_n hx hb dX9_done_45 rfl (lv_at hl 0 rfl) ?_
      refine r_gr E hw 0 1 2 (N := 11) (C := RX9) (T := TX9) (by decide) rfl rfl (by decide) rfl iw_9 rfl lf_RX9_19 dX9_done_46 ?_
      refine lv_iload_n hx hb dX9_done_49 rfl (lv_at hl 1 rfl) ?_
      refine lv_iconst (v := (0 : Int32)) hx hb dX9_done_50 (by decide) ?_
      obtain ⟨y8, h7, h⟩ := ob_R_some h
      refine g_VI E hw (kX6_ofDeed (l := l) (G := G) hB ⟨by decide, by decide⟩ h7) yy_X6_ofDeed lm_RX9_155 rfl (by decide) rfl rfl hl.1 (by decide) (by decide) (by decide) rfl (Nat.le_of_ble_eq_true rfl) dX9_done_51 (fun H locs hw => ?_)
      refine lv_aload_n hx hb dX9_done_54 rfl (lv_at hl 0 rfl) ?_
      refine r_gr E hw 0 1 2 (N := 11) (C := RX9) (T := TX9) (by decide) rfl rfl (by decide) rfl iw_9 rfl lf_RX9_19 dX9_done_55 ?_
      refine lv_iload_n hx hb dX9_done_58 rfl (lv_at hl 1 rfl) ?_
      refine lv_iconst (v := (1 : Int32)) hx hb dX9_done_59 (by decide) ?_
      obtain ⟨y10, h9, h⟩ := ob_R_some h
      refine g_VI E hw (kX6_ofDeed (l := l) (G := G) hB ⟨by decide, by decide⟩ h9) yy_X6_ofDeed lm_RX9_155 rfl (by decide) rfl rfl hl.1 (by decide) (by decide) (by decide) rfl (Nat.le_of_ble_eq_true rfl) dX9_done_60 (fun H locs hw => ?_)
      obtain ⟨y12, V13, h11, h⟩ := ob_I_some h
      refine g_SI E hw (kX5_witnessBits (l := l) (G := G) hB ⟨by decide, by decide⟩ h11) yy_X5_witnessBits lm_RX9_190 rfl hl.1 (by decide) (by decide) (by decide) rfl (Nat.le_of_ble_eq_true rfl) dX9_done_63 (fun H locs hw => ?_)
      refine lv_istore_n (lv' := [(2, .int y12), (0, .ref (G.2.2 0)), (1, .int x1)]) hx hb dX9_done_66 rfl hl (by decide) rfl (fun ls hl => ?_)
      refine lv_aload_n hx hb dX9_done_67 rfl (lv_at hl 1 rfl) ?_
      refine r_gr E hw 0 1 2 (N := 11) (C := RX9) (T := TX9) (by decide) rfl rfl (by decide) rfl iw_9 rfl lf_RX9_19 dX9_done_68 ?_
      refine lv_iload_n hx hb dX9_done_71 rfl (lv_at hl 2 rfl) ?_
      refine lv_iload_n hx hb dX9_done_72 rfl (lv_at hl 0 rfl) ?_
      obtain ⟨V15, h14, h⟩ := ob_R_some h
      refine g_VV E hw (kX6_addSeen (l := l) (G := G) hB ⟨by decide, by decide⟩ h14) yy_X6_addSeen lm_RX9_194 rfl (by decide) rfl rfl hl.1 (by decide) (by decide) (by decide) rfl (Nat.le_of_ble_eq_true rfl) dX9_done_73 (fun H locs hw => ?_)
      refine lv_iload_n hx hb dX9_done_76 rfl (lv_at hl 0 rfl) ?_
      have h := Option.some.inj h
      subst h
      rw [kr]
      exact x_ri E hw (by decide) (by decide) dX9_done_77
    · rw [if_neg c16] at h
      have h := Option.some.inj h
      subst h
      rw [kr]
      exact x_th (w := 5) (cls := "java/lang/IllegalStateException") E hw ht (by decide) rfl rfl (by decide) tw1_182 tw2_182 tw3_182 tw4_182 tw6_182 hl.1 dX9_done_16 dX9_done_19 (Or.inl ⟨dX9_done_20, dX9_done_22, dX9_done_25⟩) hnt (by decide) (by decide) (Nat.le_of_ble_eq_true rfl) (by decide)
/-! ===== AllSawIt.say(II)Z ===== -/
theorem dX9_say_0 : decode cX9_say 0 = .ok (.aload_n 0, 1) := by decide +kernel
theorem dX9_say_1 : decode cX9_say 1 = .ok (.iload_n 1, 1) := by decide +kernel
theorem dX9_say_2 : decode cX9_say 2 = .ok (.invokevirtual 119, 3) := by decide +kernel
theorem dX9_say_5 : decode cX9_say 5 = .ok (.aload_n 0, 1) := by decide +kernel
theorem dX9_say_6 : decode cX9_say 6 = .ok (.iload_n 2, 1) := by decide +kernel
theorem dX9_say_7 : decode cX9_say 7 = .ok (.invokevirtual 152, 3) := by decide +kernel
theorem dX9_say_10 : decode cX9_say 10 = .ok (.aload_n 0, 1) := by decide +kernel
theorem dX9_say_11 : decode cX9_say 11 = .ok (.getfield 19, 3) := by decide +kernel
theorem dX9_say_14 : decode cX9_say 14 = .ok (.iload_n 1, 1) := by decide +kernel
theorem dX9_say_15 : decode cX9_say 15 = .ok (.invokevirtual 133, 3) := by decide +kernel
theorem dX9_say_18 : decode cX9_say 18 = .ok (.ifCond .ne 27, 3) := by decide +kernel
theorem dX9_say_21 : decode cX9_say 21 = .ok (.aload_n 0, 1) := by decide +kernel
theorem dX9_say_22 : decode cX9_say 22 = .ok (.getfield 19, 3) := by decide +kernel
theorem dX9_say_25 : decode cX9_say 25 = .ok (.iload_n 1, 1) := by decide +kernel
theorem dX9_say_26 : decode cX9_say 26 = .ok (.iload_n 2, 1) := by decide +kernel
theorem dX9_say_27 : decode cX9_say 27 = .ok (.invokevirtual 198, 3) := by decide +kernel
theorem dX9_say_30 : decode cX9_say 30 = .ok (.ifCond .eq 15, 3) := by decide +kernel
theorem dX9_say_33 : decode cX9_say 33 = .ok (.aload_n 0, 1) := by decide +kernel
theorem dX9_say_34 : decode cX9_say 34 = .ok (.getfield 19, 3) := by decide +kernel
theorem dX9_say_37 : decode cX9_say 37 = .ok (.iload_n 1, 1) := by decide +kernel
theorem dX9_say_38 : decode cX9_say 38 = .ok (.iload_n 2, 1) := by decide +kernel
theorem dX9_say_39 : decode cX9_say 39 = .ok (.invokevirtual 202, 3) := by decide +kernel
theorem dX9_say_42 : decode cX9_say 42 = .ok (.ifCond .eq 13, 3) := by decide +kernel
theorem dX9_say_45 : decode cX9_say 45 = .ok (.new 182, 3) := by decide +kernel
theorem dX9_say_48 : decode cX9_say 48 = .ok (.dup, 1) := by decide +kernel
theorem dX9_say_49 : decode cX9_say 49 = .ok (.ldc 205, 2) := by decide +kernel
theorem dX9_say_51 : decode cX9_say 51 = .ok (.invokespecial 186, 3) := by decide +kernel
theorem dX9_say_54 : decode cX9_say 54 = .ok (.athrow, 1) := by decide +kernel
theorem dX9_say_55 : decode cX9_say 55 = .ok (.aload_n 0, 1) := by decide +kernel
theorem dX9_say_56 : decode cX9_say 56 = .ok (.getfield 45, 3) := by decide +kernel
theorem dX9_say_59 : decode cX9_say 59 = .ok (.aload_n 0, 1) := by decide +kernel
theorem dX9_say_60 : decode cX9_say 60 = .ok (.getfield 19, 3) := by decide +kernel
theorem dX9_say_63 : decode cX9_say 63 = .ok (.invokevirtual 187, 3) := by decide +kernel
theorem dX9_say_66 : decode cX9_say 66 = .ok (.aload_n 0, 1) := by decide +kernel
theorem dX9_say_67 : decode cX9_say 67 = .ok (.getfield 19, 3) := by decide +kernel
theorem dX9_say_70 : decode cX9_say 70 = .ok (.iload_n 1, 1) := by decide +kernel
theorem dX9_say_71 : decode cX9_say 71 = .ok (.iload_n 2, 1) := by decide +kernel
theorem dX9_say_72 : decode cX9_say 72 = .ok (.invokevirtual 207, 3) := by decide +kernel
theorem dX9_say_75 : decode cX9_say 75 = .ok (.aload_n 0, 1) := by decide +kernel
theorem dX9_say_76 : decode cX9_say 76 = .ok (.getfield 19, 3) := by decide +kernel
theorem dX9_say_79 : decode cX9_say 79 = .ok (.invokevirtual 210, 3) := by decide +kernel
theorem dX9_say_82 : decode cX9_say 82 = .ok (.aload_n 0, 1) := by decide +kernel
theorem dX9_say_83 : decode cX9_say 83 = .ok (.getfield 19, 3) := by decide +kernel
theorem dX9_say_86 : decode cX9_say 86 = .ok (.iload_n 2, 1) := by decide +kernel
theorem dX9_say_87 : decode cX9_say 87 = .ok (.invokevirtual 158, 3) := by decide +kernel
theorem dX9_say_90 : decode cX9_say 90 = .ok (.ireturn, 1) := by decide +kernel
noncomputable def fX9_say_j45 (V : VT) : Option ((String ⊕ Int32) × VT) := some (.inl "java/lang/IllegalStateException", V)
noncomputable def fX9_say (V : VT) (x1 : Int32) (x2 : Int32) : Option ((String ⊕ Int32) × VT) := ob_N (fX9_needHouse V x1) (fun E2 => some (.inl E2, V)) (ob_N (fX9_needDeed V x2) (fun E4 => some (.inl E4, V)) (ob_R (fX6_isAway V 2 x1) fun y6 => if y6 = 0 then (ob_R (fX6_hasSeen V 2 x1 x2) fun y8 => if y8 = 0 then (fX9_say_j45 V) else (ob_R (fX6_hasSaid V 2 x1 x2) fun y10 => if y10 = 0 then (ob_R (fX0_remember V 2) fun V12 => ob_R (fX6_addWord V12 2 x1 x2) fun V14 => ob_R (fX6_askAnew V14 2) fun V16 => ob_R (fX6_isSo V16 2 x2) fun y18 => zo_ y18 (some (.inr y18, V16))) else (fX9_say_j45 V))) else (fX9_say_j45 V)))
set_option maxHeartbeats 4000000 in
set_option maxRecDepth 100000 in
theorem wX9_say_j45 {p : Program} {l : Launch} {e : Env} {s : State} {m : MethodId} {args : Array Value} {below : List Frame} {meth : Method} {c : Code} {G : GT} {Z : Nat → Nat × Nat} {Q : State → Prop} (E : En p s m args c meth cX9_say 3 RX9 (some .boolean) G (SG Z)) (ht : l.stackTraces = false) (hnt : ∀ x ∈ c.exceptionTable.toList, False) {V : VT} {r : ((String ⊕ Int32) × VT)} (h : fX9_say_j45 V = some r) (kr : Q = vx_MQ below (XQ G s.heap.size r.1 r.2) (XE G s.heap.size r.1 r.2) args s 3 18 (gA G s.heap.size)) {H : Heap} {locs : List Loc} {ls : Array Slot} (hw : HW G s.heap V H locs) (hl : lv_has ls 3 []) : W p l e (rmX 9 3) s m args below meth c H locs 2 12 Q (F0 m 45 ls []) := by
  have hx := en_x E
  have hb := en_b E
  have hB := en_B E
  unfold fX9_say_j45 at h
  have h := Option.some.inj h
  subst h
  rw [kr]
  exact x_th (w := 6) (cls := "java/lang/IllegalStateException") E hw ht (by decide) rfl rfl (by decide) tw1_182 tw2_182 tw3_182 tw4_182 tw6_182 hl.1 dX9_say_45 dX9_say_48 (Or.inl ⟨dX9_say_49, dX9_say_51, dX9_say_54⟩) hnt (by decide) (by decide) (Nat.le_of_ble_eq_true rfl) (by decide)
set_option maxHeartbeats 4000000 in
set_option maxRecDepth 100000 in
theorem kX9_say {l : Launch} {G : GT} {Z : Nat → Nat × Nat} (ht : l.stackTraces = false) {V : VT} {x1 : Int32} {x2 : Int32} {r : ((String ⊕ Int32) × VT)} (h : fX9_say V x1 x2 = some r) : XI l G (SG Z) yX9_say (.code yX9_say cX9_say 3 (some .boolean)) 9 3 [.ref (G.2.2 0), .int x1, .int x2] V r.1 r.2 := by
  intro sz
  refine xmet_of (Qs := fun sz => XQ G sz r.1 r.2) (Xs := fun sz => XE G sz r.1 r.2) (SG_ok Z) (by decide) (Nat.le_of_ble_eq_true rfl) ?_ sz
  intro p e s m args below meth c ls E hnt hw hl
  have hx := en_x E
  have hb := en_b E
  have hB := en_B E
  generalize hQ : vx_MQ _ _ _ _ _ _ _ _ = Q
  have kr : Q = vx_MQ below (XQ G s.heap.size r.1 r.2) (XE G s.heap.size r.1 r.2) args s 3 18 (gA G s.heap.size) := hQ.symm
  have hl : lv_has ls 3 [(0, .ref (G.2.2 0)), (1, .int x1), (2, .int x2)] := hl
  obtain ⟨H, eH⟩ : ∃ H, H = s.heap := ⟨_, rfl⟩
  obtain ⟨locs, elocs⟩ : ∃ z : List Loc, z = [] := ⟨_, rfl⟩
  have hw : HW G s.heap V H locs := by rw [eH, elocs]; exact hw
  show W p l e _ s m args below meth c s.heap [] 0 0 Q (F0 m 0 ls [])
  rw [← eH, ← elocs]
  unfold fX9_say at h
  refine lv_aload_n hx hb dX9_say_0 rfl (lv_at hl 0 rfl) ?_
  refine lv_iload_n hx hb dX9_say_1 rfl (lv_at hl 1 rfl) ?_
  rcases ob_N_some h with ⟨E2, h1, h⟩ | ⟨h1, h⟩
  · have h := Option.some.inj h
    subst h
    rw [kr]
    exact x_VVe E hw (kX9_needHouse (l := l) (G := G) (Z := Z) ht h1) yy_X9_needHouse lm_RX9_119 rfl (by decide) rfl rfl hl.1 (by decide) (by decide) (by decide) rfl (Nat.le_of_ble_eq_true rfl) dX9_say_2 hnt (by decide)
  · refine x_VVn E hw (kX9_needHouse (l := l) (G := G) (Z := Z) ht h1) yy_X9_needHouse lm_RX9_119 rfl (by decide) rfl rfl hl.1 (by decide) (by decide) (by decide) rfl (Nat.le_of_ble_eq_true rfl) dX9_say_2 (fun H locs hw => ?_)
    refine lv_aload_n hx hb dX9_say_5 rfl (lv_at hl 0 rfl) ?_
    refine lv_iload_n hx hb dX9_say_6 rfl (lv_at hl 2 rfl) ?_
    rcases ob_N_some h with ⟨E4, h3, h⟩ | ⟨h3, h⟩
    · have h := Option.some.inj h
      subst h
      rw [kr]
      exact x_VVe E hw (kX9_needDeed (l := l) (G := G) (Z := Z) ht h3) yy_X9_needDeed lm_RX9_152 rfl (by decide) rfl rfl hl.1 (by decide) (by decide) (by decide) rfl (Nat.le_of_ble_eq_true rfl) dX9_say_7 hnt (by decide)
    · refine x_VVn E hw (kX9_needDeed (l := l) (G := G) (Z := Z) ht h3) yy_X9_needDeed lm_RX9_152 rfl (by decide) rfl rfl hl.1 (by decide) (by decide) (by decide) rfl (Nat.le_of_ble_eq_true rfl) dX9_say_7 (fun H locs hw => ?_)
      refine lv_aload_n hx hb dX9_say_10 rfl (lv_at hl 0 rfl) ?_
      refine r_gr E hw 0 1 2 (N := 11) (C := RX9) (T := TX9) (by decide) rfl rfl (by decide) rfl iw_9 rfl lf_RX9_19 dX9_say_11 ?_
      refine lv_iload_n hx hb dX9_say_14 rfl (lv_at hl 1 rfl) ?_
      obtain ⟨y6, h5, h⟩ := ob_R_some h
      refine g_VI E hw (kX6_isAway (l := l) (G := G) hB ⟨by decide, by decide⟩ h5) yy_X6_isAway lm_RX9_133 rfl (by decide) rfl rfl hl.1 (by decide) (by decide) (by decide) rfl (Nat.le_of_ble_eq_true rfl) dX9_say_15 (fun H locs hw => ?_)
      refine lv_if_ne (tgt := 45) hx hb dX9_say_18 (by decide) (fun c22 => ?_) (fun c22 => ?_)
      · rw [if_neg c22] at h
        exact wX9_say_j45 E ht hnt h kr hw (lv_sub hl [] rfl)
      · rw [if_pos c22] at h
        refine lv_aload_n hx hb dX9_say_21 rfl (lv_at hl 0 rfl) ?_
        refine r_gr E hw 0 1 2 (N := 11) (C := RX9) (T := TX9) (by decide) rfl rfl (by decide) rfl iw_9 rfl lf_RX9_19 dX9_say_22 ?_
        refine lv_iload_n hx hb dX9_say_25 rfl (lv_at hl 1 rfl) ?_
        refine lv_iload_n hx hb dX9_say_26 rfl (lv_at hl 2 rfl) ?_
        obtain ⟨y8, h7, h⟩ := ob_R_some h
        refine g_VI E hw (kX6_hasSeen (l := l) (G := G) hB ⟨by decide, by decide⟩ h7) yy_X6_hasSeen lm_RX9_198 rfl (by decide) rfl rfl hl.1 (by decide) (by decide) (by decide) rfl (Nat.le_of_ble_eq_true rfl) dX9_say_27 (fun H locs hw => ?_)
        refine lv_if_eq (tgt := 45) hx hb dX9_say_30 (by decide) (fun c21 => ?_) (fun c21 => ?_)
        · rw [if_pos c21] at h
          exact wX9_say_j45 E ht hnt h kr hw (lv_sub hl [] rfl)
        · rw [if_neg c21] at h
          refine lv_aload_n hx hb dX9_say_33 rfl (lv_at hl 0 rfl) ?_
          refine r_gr E hw 0 1 2 (N := 11) (C := RX9) (T := TX9) (by decide) rfl rfl (by decide) rfl iw_9 rfl lf_RX9_19 dX9_say_34 ?_
          refine lv_iload_n hx hb dX9_say_37 rfl (lv_at hl 1 rfl) ?_
          refine lv_iload_n hx hb dX9_say_38 rfl (lv_at hl 2 rfl) ?_
          obtain ⟨y10, h9, h⟩ := ob_R_some h
          refine g_VI E hw (kX6_hasSaid (l := l) (G := G) hB ⟨by decide, by decide⟩ h9) yy_X6_hasSaid lm_RX9_202 rfl (by decide) rfl rfl hl.1 (by decide) (by decide) (by decide) rfl (Nat.le_of_ble_eq_true rfl) dX9_say_39 (fun H locs hw => ?_)
          refine lv_if_eq (tgt := 55) hx hb dX9_say_42 (by decide) (fun c20 => ?_) (fun c20 => ?_)
          · rw [if_pos c20] at h
            refine lv_aload_n hx hb dX9_say_55 rfl (lv_at hl 0 rfl) ?_
            refine r_gr E hw 0 7 20 (N := 11) (C := RX9) (T := TX9) (by decide) rfl rfl (by decide) rfl iw_9 rfl lf_RX9_45 dX9_say_56 ?_
            refine lv_aload_n hx hb dX9_say_59 rfl (lv_at hl 0 rfl) ?_
            refine r_gr E hw 0 1 2 (N := 11) (C := RX9) (T := TX9) (by decide) rfl rfl (by decide) rfl iw_9 rfl lf_RX9_19 dX9_say_60 ?_
            obtain ⟨V12, h11, h⟩ := ob_R_some h
            refine g_VV E hw (kX0_remember (l := l) (G := G) hB ⟨by decide, by decide⟩ h11) yy_X0_remember lm_RX9_187 rfl (by decide) rfl rfl hl.1 (by decide) (by decide) (by decide) rfl (Nat.le_of_ble_eq_true rfl) dX9_say_63 (fun H locs hw => ?_)
            refine lv_aload_n hx hb dX9_say_66 rfl (lv_at hl 0 rfl) ?_
            refine r_gr E hw 0 1 2 (N := 11) (C := RX9) (T := TX9) (by decide) rfl rfl (by decide) rfl iw_9 rfl lf_RX9_19 dX9_say_67 ?_
            refine lv_iload_n hx hb dX9_say_70 rfl (lv_at hl 1 rfl) ?_
            refine lv_iload_n hx hb dX9_say_71 rfl (lv_at hl 2 rfl) ?_
            obtain ⟨V14, h13, h⟩ := ob_R_some h
            refine g_VV E hw (kX6_addWord (l := l) (G := G) hB ⟨by decide, by decide⟩ h13) yy_X6_addWord lm_RX9_207 rfl (by decide) rfl rfl hl.1 (by decide) (by decide) (by decide) rfl (Nat.le_of_ble_eq_true rfl) dX9_say_72 (fun H locs hw => ?_)
            refine lv_aload_n hx hb dX9_say_75 rfl (lv_at hl 0 rfl) ?_
            refine r_gr E hw 0 1 2 (N := 11) (C := RX9) (T := TX9) (by decide) rfl rfl (by decide) rfl iw_9 rfl lf_RX9_19 dX9_say_76 ?_
            obtain ⟨V16, h15, h⟩ := ob_R_some h
            refine g_VV E hw (kX6_askAnew (l := l) (G := G) hB ⟨by decide, by decide⟩ h15) yy_X6_askAnew lm_RX9_210 rfl (by decide) rfl rfl hl.1 (by decide) (by decide) (by decide) rfl (Nat.le_of_ble_eq_true rfl) dX9_say_79 (fun H locs hw => ?_)
            refine lv_aload_n hx hb dX9_say_82 rfl (lv_at hl 0 rfl) ?_
            refine r_gr E hw 0 1 2 (N := 11) (C := RX9) (T := TX9) (by decide) rfl rfl (by decide) rfl iw_9 rfl lf_RX9_19 dX9_say_83 ?_
            refine lv_iload_n hx hb dX9_say_86 rfl (lv_at hl 2 rfl) ?_
            obtain ⟨y18, h17, h⟩ := ob_R_some h
            refine g_VI E hw (kX6_isSo (l := l) (G := G) hB ⟨by decide, by decide⟩ h17) yy_X6_isSo lm_RX9_158 rfl (by decide) rfl rfl hl.1 (by decide) (by decide) (by decide) rfl (Nat.le_of_ble_eq_true rfl) dX9_say_87 (fun H locs hw => ?_)
            obtain ⟨z19, h⟩ := zo_some h
            have h := Option.some.inj h
            subst h
            rw [kr]
            exact x_rz E hw (by decide) (by decide) z19 dX9_say_90
          · rw [if_neg c20] at h
            exact wX9_say_j45 E ht hnt h kr hw (lv_sub hl [] rfl)
/-! ===== AllSawIt.away(IZ)Z ===== -/
theorem dX9_away_0 : decode cX9_away 0 = .ok (.aload_n 0, 1) := by decide +kernel
theorem dX9_away_1 : decode cX9_away 1 = .ok (.iload_n 1, 1) := by decide +kernel
theorem dX9_away_2 : decode cX9_away 2 = .ok (.invokevirtual 119, 3) := by decide +kernel
theorem dX9_away_5 : decode cX9_away 5 = .ok (.aload_n 0, 1) := by decide +kernel
theorem dX9_away_6 : decode cX9_away 6 = .ok (.getfield 45, 3) := by decide +kernel
theorem dX9_away_9 : decode cX9_away 9 = .ok (.aload_n 0, 1) := by decide +kernel
theorem dX9_away_10 : decode cX9_away 10 = .ok (.getfield 19, 3) := by decide +kernel
theorem dX9_away_13 : decode cX9_away 13 = .ok (.invokevirtual 187, 3) := by decide +kernel
theorem dX9_away_16 : decode cX9_away 16 = .ok (.aload_n 0, 1) := by decide +kernel
theorem dX9_away_17 : decode cX9_away 17 = .ok (.getfield 19, 3) := by decide +kernel
theorem dX9_away_20 : decode cX9_away 20 = .ok (.iload_n 1, 1) := by decide +kernel
theorem dX9_away_21 : decode cX9_away 21 = .ok (.invokevirtual 133, 3) := by decide +kernel
theorem dX9_away_24 : decode cX9_away 24 = .ok (.iload_n 2, 1) := by decide +kernel
theorem dX9_away_25 : decode cX9_away 25 = .ok (.if_icmp .ne 5, 3) := by decide +kernel
theorem dX9_away_28 : decode cX9_away 28 = .ok (.iconst 0, 1) := by decide +kernel
theorem dX9_away_29 : decode cX9_away 29 = .ok (.ireturn, 1) := by decide +kernel
theorem dX9_away_30 : decode cX9_away 30 = .ok (.aload_n 0, 1) := by decide +kernel
theorem dX9_away_31 : decode cX9_away 31 = .ok (.getfield 19, 3) := by decide +kernel
theorem dX9_away_34 : decode cX9_away 34 = .ok (.dup, 1) := by decide +kernel
theorem dX9_away_35 : decode cX9_away 35 = .ok (.getfield 213, 3) := by decide +kernel
theorem dX9_away_38 : decode cX9_away 38 = .ok (.iconst 1, 1) := by decide +kernel
theorem dX9_away_39 : decode cX9_away 39 = .ok (.iload_n 1, 1) := by decide +kernel
theorem dX9_away_40 : decode cX9_away 40 = .ok (.ishl, 1) := by decide +kernel
theorem dX9_away_41 : decode cX9_away 41 = .ok (.ixor, 1) := by decide +kernel
theorem dX9_away_42 : decode cX9_away 42 = .ok (.putfield 213, 3) := by decide +kernel
theorem dX9_away_45 : decode cX9_away 45 = .ok (.iconst 1, 1) := by decide +kernel
theorem dX9_away_46 : decode cX9_away 46 = .ok (.ireturn, 1) := by decide +kernel
noncomputable def fX9_away (V : VT) (x1 : Int32) (x2 : Int32) : Option ((String ⊕ Int32) × VT) := ob_N (fX9_needHouse V x1) (fun E2 => some (.inl E2, V)) (ob_R (fX0_remember V 2) fun V4 => ob_R (fX6_isAway V4 2 x1) fun y6 => if y6 = x2 then (zo_ (0 : Int32) (some (.inr (0 : Int32), V4))) else (lt_ (va_up V4 2 (upd (V4 2) 6 ((V4 2 6) ^^^ ((1 : Int32) <<< (x1 &&& 31))))) fun V7 => zo_ (1 : Int32) (some (.inr (1 : Int32), V7))))
set_option maxHeartbeats 4000000 in
set_option maxRecDepth 100000 in
theorem kX9_away {l : Launch} {G : GT} {Z : Nat → Nat × Nat} (ht : l.stackTraces = false) {V : VT} {x1 : Int32} {x2 : Int32} {r : ((String ⊕ Int32) × VT)} (h : fX9_away V x1 x2 = some r) : XI l G (SG Z) yX9_away (.code yX9_away cX9_away 3 (some .boolean)) 9 1 [.ref (G.2.2 0), .int x1, .int x2] V r.1 r.2 := by
  intro sz
  refine xmet_of (Qs := fun sz => XQ G sz r.1 r.2) (Xs := fun sz => XE G sz r.1 r.2) (SG_ok Z) (by decide) (Nat.le_of_ble_eq_true rfl) ?_ sz
  intro p e s m args below meth c ls E hnt hw hl
  have hx := en_x E
  have hb := en_b E
  have hB := en_B E
  generalize hQ : vx_MQ _ _ _ _ _ _ _ _ = Q
  have kr : Q = vx_MQ below (XQ G s.heap.size r.1 r.2) (XE G s.heap.size r.1 r.2) args s 1 6 (gA G s.heap.size) := hQ.symm
  have hl : lv_has ls 3 [(0, .ref (G.2.2 0)), (1, .int x1), (2, .int x2)] := hl
  obtain ⟨H, eH⟩ : ∃ H, H = s.heap := ⟨_, rfl⟩
  obtain ⟨locs, elocs⟩ : ∃ z : List Loc, z = [] := ⟨_, rfl⟩
  have hw : HW G s.heap V H locs := by rw [eH, elocs]; exact hw
  show W p l e _ s m args below meth c s.heap [] 0 0 Q (F0 m 0 ls [])
  rw [← eH, ← elocs]
  unfold fX9_away at h
  refine lv_aload_n hx hb dX9_away_0 rfl (lv_at hl 0 rfl) ?_
  refine lv_iload_n hx hb dX9_away_1 rfl (lv_at hl 1 rfl) ?_
  rcases ob_N_some h with ⟨E2, h1, h⟩ | ⟨h1, h⟩
  · have h := Option.some.inj h
    subst h
    rw [kr]
    exact x_VVe E hw (kX9_needHouse (l := l) (G := G) (Z := Z) ht h1) yy_X9_needHouse lm_RX9_119 rfl (by decide) rfl rfl hl.1 (by decide) (by decide) (by decide) rfl (Nat.le_of_ble_eq_true rfl) dX9_away_2 hnt (by decide)
  · refine x_VVn E hw (kX9_needHouse (l := l) (G := G) (Z := Z) ht h1) yy_X9_needHouse lm_RX9_119 rfl (by decide) rfl rfl hl.1 (by decide) (by decide) (by decide) rfl (Nat.le_of_ble_eq_true rfl) dX9_away_2 (fun H locs hw => ?_)
    refine lv_aload_n hx hb dX9_away_5 rfl (lv_at hl 0 rfl) ?_
    refine r_gr E hw 0 7 20 (N := 11) (C := RX9) (T := TX9) (by decide) rfl rfl (by decide) rfl iw_9 rfl lf_RX9_45 dX9_away_6 ?_
    refine lv_aload_n hx hb dX9_away_9 rfl (lv_at hl 0 rfl) ?_
    refine r_gr E hw 0 1 2 (N := 11) (C := RX9) (T := TX9) (by decide) rfl rfl (by decide) rfl iw_9 rfl lf_RX9_19 dX9_away_10 ?_
    obtain ⟨V4, h3, h⟩ := ob_R_some h
    refine g_VV E hw (kX0_remember (l := l) (G := G) hB ⟨by decide, by decide⟩ h3) yy_X0_remember lm_RX9_187 rfl (by decide) rfl rfl hl.1 (by decide) (by decide) (by decide) rfl (Nat.le_of_ble_eq_true rfl) dX9_away_13 (fun H locs hw => ?_)
    refine lv_aload_n hx hb dX9_away_16 rfl (lv_at hl 0 rfl) ?_
    refine r_gr E hw 0 1 2 (N := 11) (C := RX9) (T := TX9) (by decide) rfl rfl (by decide) rfl iw_9 rfl lf_RX9_19 dX9_away_17 ?_
    refine lv_iload_n hx hb dX9_away_20 rfl (lv_at hl 1 rfl) ?_
    obtain ⟨y6, h5, h⟩ := ob_R_some h
    refine g_VI E hw (kX6_isAway (l := l) (G := G) hB ⟨by decide, by decide⟩ h5) yy_X6_isAway lm_RX9_133 rfl (by decide) rfl rfl hl.1 (by decide) (by decide) (by decide) rfl (Nat.le_of_ble_eq_true rfl) dX9_away_21 (fun H locs hw => ?_)
    refine lv_iload_n hx hb dX9_away_24 rfl (lv_at hl 2 rfl) ?_
    refine lv_icmp_ne (tgt := 30) hx hb dX9_away_25 (by decide) (fun c10 => ?_) (fun c10 => ?_)
    · rw [if_neg c10] at h
      refine lv_aload_n hx hb dX9_away_30 rfl (lv_at hl 0 rfl) ?_
      refine r_gr E hw 0 1 2 (N := 11) (C := RX9) (T := TX9) (by decide) rfl rfl (by decide) rfl iw_9 rfl lf_RX9_19 dX9_away_31 ?_
      refine lv_dup hx hb dX9_away_34 rfl ?_
      refine r_giN E hw 2 6 (N := 13) (C := RX6) (T := TX6) (by decide) rfl rfl (by decide) rfl iw_6 rfl lf_RX9_213 dX9_away_35 ?_
      refine lv_iconst (v := (1 : Int32)) hx hb dX9_away_38 (by decide) ?_
      refine lv_iload_n hx hb dX9_away_39 rfl (lv_at hl 1 rfl) ?_
      refine lv_ishl hx hb dX9_away_40 ?_
      refine lv_ixor hx hb dX9_away_41 ?_
      obtain ⟨V7, eV7, h⟩ := lt_some h
      refine r_piN E hw 2 6 (N := 13) (C := RX6) (T := TX6) (ty0 := tyX6) (ty := .int) (by decide) rfl rfl (by decide) rfl iw_6 rfl tyX6_ok nmX6 rfl rfl (vp_nar_int _) rfl lf_RX9_213 eV7 dX9_away_42 (fun H locs hw => ?_)
      refine lv_iconst (v := (1 : Int32)) hx hb dX9_away_45 (by decide) ?_
      obtain ⟨z8, h⟩ := zo_some h
      have h := Option.some.inj h
      subst h
      rw [kr]
      exact x_rz E hw (by decide) (by decide) z8 dX9_away_46
    · rw [if_pos c10] at h
      refine lv_iconst (v := (0 : Int32)) hx hb dX9_away_28 (by decide) ?_
      obtain ⟨z9, h⟩ := zo_some h
      have h := Option.some.inj h
      subst h
      rw [kr]
      exact x_rz E hw (by decide) (by decide) z9 dX9_away_29
/-! ===== AllSawIt.mirror(I)I ===== -/
theorem dX9_mirror_0 : decode cX9_mirror 0 = .ok (.aload_n 0, 1) := by decide +kernel
theorem dX9_mirror_1 : decode cX9_mirror 1 = .ok (.iload_n 1, 1) := by decide +kernel
theorem dX9_mirror_2 : decode cX9_mirror 2 = .ok (.invokevirtual 119, 3) := by decide +kernel
theorem dX9_mirror_5 : decode cX9_mirror 5 = .ok (.aload_n 0, 1) := by decide +kernel
theorem dX9_mirror_6 : decode cX9_mirror 6 = .ok (.getfield 19, 3) := by decide +kernel
theorem dX9_mirror_9 : decode cX9_mirror 9 = .ok (.iload_n 1, 1) := by decide +kernel
theorem dX9_mirror_10 : decode cX9_mirror 10 = .ok (.bipush 6, 2) := by decide +kernel
theorem dX9_mirror_12 : decode cX9_mirror 12 = .ok (.invokevirtual 122, 3) := by decide +kernel
theorem dX9_mirror_15 : decode cX9_mirror 15 = .ok (.istore_n 2, 1) := by decide +kernel
theorem dX9_mirror_16 : decode cX9_mirror 16 = .ok (.iload_n 2, 1) := by decide +kernel
theorem dX9_mirror_17 : decode cX9_mirror 17 = .ok (.iconst 3, 1) := by decide +kernel
theorem dX9_mirror_18 : decode cX9_mirror 18 = .ok (.if_icmp .lt 13, 3) := by decide +kernel
theorem dX9_mirror_21 : decode cX9_mirror 21 = .ok (.new 182, 3) := by decide +kernel
theorem dX9_mirror_24 : decode cX9_mirror 24 = .ok (.dup, 1) := by decide +kernel
theorem dX9_mirror_25 : decode cX9_mirror 25 = .ok (.ldc 216, 2) := by decide +kernel
theorem dX9_mirror_27 : decode cX9_mirror 27 = .ok (.invokespecial 186, 3) := by decide +kernel
theorem dX9_mirror_30 : decode cX9_mirror 30 = .ok (.athrow, 1) := by decide +kernel
theorem dX9_mirror_31 : decode cX9_mirror 31 = .ok (.aload_n 0, 1) := by decide +kernel
theorem dX9_mirror_32 : decode cX9_mirror 32 = .ok (.getfield 45, 3) := by decide +kernel
theorem dX9_mirror_35 : decode cX9_mirror 35 = .ok (.aload_n 0, 1) := by decide +kernel
theorem dX9_mirror_36 : decode cX9_mirror 36 = .ok (.getfield 19, 3) := by decide +kernel
theorem dX9_mirror_39 : decode cX9_mirror 39 = .ok (.invokevirtual 187, 3) := by decide +kernel
theorem dX9_mirror_42 : decode cX9_mirror 42 = .ok (.aload_n 0, 1) := by decide +kernel
theorem dX9_mirror_43 : decode cX9_mirror 43 = .ok (.getfield 19, 3) := by decide +kernel
theorem dX9_mirror_46 : decode cX9_mirror 46 = .ok (.iload_n 1, 1) := by decide +kernel
theorem dX9_mirror_47 : decode cX9_mirror 47 = .ok (.bipush 6, 2) := by decide +kernel
theorem dX9_mirror_49 : decode cX9_mirror 49 = .ok (.iload_n 2, 1) := by decide +kernel
theorem dX9_mirror_50 : decode cX9_mirror 50 = .ok (.iconst 1, 1) := by decide +kernel
theorem dX9_mirror_51 : decode cX9_mirror 51 = .ok (.iadd, 1) := by decide +kernel
theorem dX9_mirror_52 : decode cX9_mirror 52 = .ok (.invokevirtual 218, 3) := by decide +kernel
theorem dX9_mirror_55 : decode cX9_mirror 55 = .ok (.iload_n 2, 1) := by decide +kernel
theorem dX9_mirror_56 : decode cX9_mirror 56 = .ok (.iconst 1, 1) := by decide +kernel
theorem dX9_mirror_57 : decode cX9_mirror 57 = .ok (.iadd, 1) := by decide +kernel
theorem dX9_mirror_58 : decode cX9_mirror 58 = .ok (.ireturn, 1) := by decide +kernel
noncomputable def fX9_mirror (V : VT) (x1 : Int32) : Option ((String ⊕ Int32) × VT) := ob_N (fX9_needHouse V x1) (fun E2 => some (.inl E2, V)) (ob_R (fX6_ofHouse V 2 x1 (6 : Int32)) fun y4 => if y4 < (3 : Int32) then (ob_R (fX0_remember V 2) fun V6 => ob_R (fX6_setHouse V6 2 x1 (6 : Int32) (y4 + (1 : Int32))) fun V8 => some (.inr (y4 + (1 : Int32)), V8)) else (some (.inl "java/lang/IllegalStateException", V)))
set_option maxHeartbeats 4000000 in
set_option maxRecDepth 100000 in
theorem kX9_mirror {l : Launch} {G : GT} {Z : Nat → Nat × Nat} (ht : l.stackTraces = false) {V : VT} {x1 : Int32} {r : ((String ⊕ Int32) × VT)} (h : fX9_mirror V x1 = some r) : XI l G (SG Z) yX9_mirror (.code yX9_mirror cX9_mirror 3 (some .int)) 9 2 [.ref (G.2.2 0), .int x1] V r.1 r.2 := by
  intro sz
  refine xmet_of (Qs := fun sz => XQ G sz r.1 r.2) (Xs := fun sz => XE G sz r.1 r.2) (SG_ok Z) (by decide) (Nat.le_of_ble_eq_true rfl) ?_ sz
  intro p e s m args below meth c ls E hnt hw hl
  have hx := en_x E
  have hb := en_b E
  have hB := en_B E
  generalize hQ : vx_MQ _ _ _ _ _ _ _ _ = Q
  have kr : Q = vx_MQ below (XQ G s.heap.size r.1 r.2) (XE G s.heap.size r.1 r.2) args s 2 12 (gA G s.heap.size) := hQ.symm
  have hl : lv_has ls 3 [(0, .ref (G.2.2 0)), (1, .int x1)] := hl
  obtain ⟨H, eH⟩ : ∃ H, H = s.heap := ⟨_, rfl⟩
  obtain ⟨locs, elocs⟩ : ∃ z : List Loc, z = [] := ⟨_, rfl⟩
  have hw : HW G s.heap V H locs := by rw [eH, elocs]; exact hw
  show W p l e _ s m args below meth c s.heap [] 0 0 Q (F0 m 0 ls [])
  rw [← eH, ← elocs]
  unfold fX9_mirror at h
  refine lv_aload_n hx hb dX9_mirror_0 rfl (lv_at hl 0 rfl) ?_
  refine lv_iload_n hx hb dX9_mirror_1 rfl (lv_at hl 1 rfl) ?_
  rcases ob_N_some h with ⟨E2, h1, h⟩ | ⟨h1, h⟩
  · have h := Option.some.inj h
    subst h
    rw [kr]
    exact x_VVe E hw (kX9_needHouse (l := l) (G := G) (Z := Z) ht h1) yy_X9_needHouse lm_RX9_119 rfl (by decide) rfl rfl hl.1 (by decide) (by decide) (by decide) rfl (Nat.le_of_ble_eq_true rfl) dX9_mirror_2 hnt (by decide)
  · refine x_VVn E hw (kX9_needHouse (l := l) (G := G) (Z := Z) ht h1) yy_X9_needHouse lm_RX9_119 rfl (by decide) rfl rfl hl.1 (by decide) (by decide) (by decide) rfl (Nat.le_of_ble_eq_true rfl) dX9_mirror_2 (fun H locs hw => ?_)
    refine lv_aload_n hx hb dX9_mirror_5 rfl (lv_at hl 0 rfl) ?_
    refine r_gr E hw 0 1 2 (N := 11) (C := RX9) (T := TX9) (by decide) rfl rfl (by decide) rfl iw_9 rfl lf_RX9_19 dX9_mirror_6 ?_
    refine lv_iload_n hx hb dX9_mirror_9 rfl (lv_at hl 1 rfl) ?_
    refine lv_bipush (v := (6 : Int32)) hx hb dX9_mirror_10 (by decide) ?_
    obtain ⟨y4, h3, h⟩ := ob_R_some h
    refine g_VI E hw (kX6_ofHouse (l := l) (G := G) hB ⟨by decide, by decide⟩ h3) yy_X6_ofHouse lm_RX9_122 rfl (by decide) rfl rfl hl.1 (by decide) (by decide) (by decide) rfl (Nat.le_of_ble_eq_true rfl) dX9_mirror_12 (fun H locs hw => ?_)
    refine lv_istore_n (lv' := [(2, .int y4), (0, .ref (G.2.2 0)), (1, .int x1)]) hx hb dX9_mirror_15 rfl hl (by decide) rfl (fun ls hl => ?_)
    refine lv_iload_n hx hb dX9_mirror_16 rfl (lv_at hl 0 rfl) ?_
    refine lv_iconst (v := (3 : Int32)) hx hb dX9_mirror_17 (by decide) ?_
    refine lv_icmp_lt (tgt := 31) hx hb dX9_mirror_18 (by decide) (fun c9 => ?_) (fun c9 => ?_)
    · rw [if_pos c9] at h
      refine lv_aload_n hx hb dX9_mirror_31 rfl (lv_at hl 1 rfl) ?_
      refine r_gr E hw 0 7 20 (N := 11) (C := RX9) (T := TX9) (by decide) rfl rfl (by decide) rfl iw_9 rfl lf_RX9_45 dX9_mirror_32 ?_
      refine lv_aload_n hx hb dX9_mirror_35 rfl (lv_at hl 1 rfl) ?_
      refine r_gr E hw 0 1 2 (N := 11) (C := RX9) (T := TX9) (by decide) rfl rfl (by decide) rfl iw_9 rfl lf_RX9_19 dX9_mirror_36 ?_
      obtain ⟨V6, h5, h⟩ := ob_R_some h
      refine g_VV E hw (kX0_remember (l := l) (G := G) hB ⟨by decide, by decide⟩ h5) yy_X0_remember lm_RX9_187 rfl (by decide) rfl rfl hl.1 (by decide) (by decide) (by decide) rfl (Nat.le_of_ble_eq_true rfl) dX9_mirror_39 (fun H locs hw => ?_)
      refine lv_aload_n hx hb dX9_mirror_42 rfl (lv_at hl 1 rfl) ?_
      refine r_gr E hw 0 1 2 (N := 11) (C := RX9) (T := TX9) (by decide) rfl rfl (by decide) rfl iw_9 rfl lf_RX9_19 dX9_mirror_43 ?_
      refine lv_iload_n hx hb dX9_mirror_46 rfl (lv_at hl 2 rfl) ?_
      refine lv_bipush (v := (6 : Int32)) hx hb dX9_mirror_47 (by decide) ?_
      refine lv_iload_n hx hb dX9_mirror_49 rfl (lv_at hl 0 rfl) ?_
      refine lv_iconst (v := (1 : Int32)) hx hb dX9_mirror_50 (by decide) ?_
      refine lv_iadd hx hb dX9_mirror_51 ?_
      obtain ⟨V8, h7, h⟩ := ob_R_some h
      refine g_VV E hw (kX6_setHouse (l := l) (G := G) hB ⟨by decide, by decide⟩ h7) yy_X6_setHouse lm_RX9_218 rfl (by decide) rfl rfl hl.1 (by decide) (by decide) (by decide) rfl (Nat.le_of_ble_eq_true rfl) dX9_mirror_52 (fun H locs hw => ?_)
      refine lv_iload_n hx hb dX9_mirror_55 rfl (lv_at hl 0 rfl) ?_
      refine lv_iconst (v := (1 : Int32)) hx hb dX9_mirror_56 (by decide) ?_
      refine lv_iadd hx hb dX9_mirror_57 ?_
      have h := Option.some.inj h
      subst h
      rw [kr]
      exact x_ri E hw (by decide) (by decide) dX9_mirror_58
    · rw [if_neg c9] at h
      have h := Option.some.inj h
      subst h
      rw [kr]
      exact x_th (w := 7) (cls := "java/lang/IllegalStateException") E hw ht (by decide) rfl rfl (by decide) tw1_182 tw2_182 tw3_182 tw4_182 tw6_182 hl.1 dX9_mirror_21 dX9_mirror_24 (Or.inl ⟨dX9_mirror_25, dX9_mirror_27, dX9_mirror_30⟩) hnt (by decide) (by decide) (Nat.le_of_ble_eq_true rfl) (by decide)
/-! ===== AllSawIt.up(III)I ===== -/
theorem dX9_up_0 : decode cX9_up 0 = .ok (.aload_n 0, 1) := by decide +kernel
theorem dX9_up_1 : decode cX9_up 1 = .ok (.iload_n 1, 1) := by decide +kernel
theorem dX9_up_2 : decode cX9_up 2 = .ok (.invokevirtual 119, 3) := by decide +kernel
theorem dX9_up_5 : decode cX9_up 5 = .ok (.iload_n 2, 1) := by decide +kernel
theorem dX9_up_6 : decode cX9_up 6 = .ok (.invokestatic 175, 3) := by decide +kernel
theorem dX9_up_9 : decode cX9_up 9 = .ok (.iload_n 3, 1) := by decide +kernel
theorem dX9_up_10 : decode cX9_up 10 = .ok (.iconst 0, 1) := by decide +kernel
theorem dX9_up_11 : decode cX9_up 11 = .ok (.bipush 24, 2) := by decide +kernel
theorem dX9_up_13 : decode cX9_up 13 = .ok (.invokestatic 222, 3) := by decide +kernel
theorem dX9_up_16 : decode cX9_up 16 = .ok (.aload_n 0, 1) := by decide +kernel
theorem dX9_up_17 : decode cX9_up 17 = .ok (.getfield 45, 3) := by decide +kernel
theorem dX9_up_20 : decode cX9_up 20 = .ok (.aload_n 0, 1) := by decide +kernel
theorem dX9_up_21 : decode cX9_up 21 = .ok (.getfield 19, 3) := by decide +kernel
theorem dX9_up_24 : decode cX9_up 24 = .ok (.invokevirtual 187, 3) := by decide +kernel
theorem dX9_up_27 : decode cX9_up 27 = .ok (.aload_n 0, 1) := by decide +kernel
theorem dX9_up_28 : decode cX9_up 28 = .ok (.getfield 19, 3) := by decide +kernel
theorem dX9_up_31 : decode cX9_up 31 = .ok (.iload_n 1, 1) := by decide +kernel
theorem dX9_up_32 : decode cX9_up 32 = .ok (.iconst 4, 1) := by decide +kernel
theorem dX9_up_33 : decode cX9_up 33 = .ok (.invokevirtual 122, 3) := by decide +kernel
theorem dX9_up_36 : decode cX9_up 36 = .ok (.istore 4, 2) := by decide +kernel
theorem dX9_up_38 : decode cX9_up 38 = .ok (.aload_n 0, 1) := by decide +kernel
theorem dX9_up_39 : decode cX9_up 39 = .ok (.getfield 19, 3) := by decide +kernel
theorem dX9_up_42 : decode cX9_up 42 = .ok (.iload_n 1, 1) := by decide +kernel
theorem dX9_up_43 : decode cX9_up 43 = .ok (.iconst 3, 1) := by decide +kernel
theorem dX9_up_44 : decode cX9_up 44 = .ok (.iload_n 2, 1) := by decide +kernel
theorem dX9_up_45 : decode cX9_up 45 = .ok (.invokevirtual 218, 3) := by decide +kernel
theorem dX9_up_48 : decode cX9_up 48 = .ok (.aload_n 0, 1) := by decide +kernel
theorem dX9_up_49 : decode cX9_up 49 = .ok (.getfield 19, 3) := by decide +kernel
theorem dX9_up_52 : decode cX9_up 52 = .ok (.iload_n 1, 1) := by decide +kernel
theorem dX9_up_53 : decode cX9_up 53 = .ok (.iconst 4, 1) := by decide +kernel
theorem dX9_up_54 : decode cX9_up 54 = .ok (.iload_n 3, 1) := by decide +kernel
theorem dX9_up_55 : decode cX9_up 55 = .ok (.invokevirtual 218, 3) := by decide +kernel
theorem dX9_up_58 : decode cX9_up 58 = .ok (.iload 4, 2) := by decide +kernel
theorem dX9_up_60 : decode cX9_up 60 = .ok (.ireturn, 1) := by decide +kernel
noncomputable def fX9_up (V : VT) (x1 : Int32) (x2 : Int32) (x3 : Int32) : Option ((String ⊕ Int32) × VT) := ob_N (fX9_needHouse V x1) (fun E2 => some (.inl E2, V)) (ob_N (fX9_needHour V x2) (fun E4 => some (.inl E4, V)) (ob_N (fX9_needNumber V x3 (0 : Int32) (24 : Int32)) (fun E6 => some (.inl E6, V)) (ob_R (fX0_remember V 2) fun V8 => ob_R (fX6_ofHouse V8 2 x1 (4 : Int32)) fun y10 => ob_R (fX6_setHouse V8 2 x1 (3 : Int32) x2) fun V12 => ob_R (fX6_setHouse V12 2 x1 (4 : Int32) x3) fun V14 => some (.inr y10, V14))))
set_option maxHeartbeats 4000000 in
set_option maxRecDepth 100000 in
theorem kX9_up {l : Launch} {G : GT} {Z : Nat → Nat × Nat} (ht : l.stackTraces = false) {V : VT} {x1 : Int32} {x2 : Int32} {x3 : Int32} {r : ((String ⊕ Int32) × VT)} (h : fX9_up V x1 x2 x3 = some r) : XI l G (SG Z) yX9_up (.code yX9_up cX9_up 5 (some .int)) 9 3 [.ref (G.2.2 0), .int x1, .int x2, .int x3] V r.1 r.2 := by
  intro sz
  refine xmet_of (Qs := fun sz => XQ G sz r.1 r.2) (Xs := fun sz => XE G sz r.1 r.2) (SG_ok Z) (by decide) (Nat.le_of_ble_eq_true rfl) ?_ sz
  intro p e s m args below meth c ls E hnt hw hl
  have hx := en_x E
  have hb := en_b E
  have hB := en_B E
  generalize hQ : vx_MQ _ _ _ _ _ _ _ _ = Q
  have kr : Q = vx_MQ below (XQ G s.heap.size r.1 r.2) (XE G s.heap.size r.1 r.2) args s 3 18 (gA G s.heap.size) := hQ.symm
  have hl : lv_has ls 5 [(0, .ref (G.2.2 0)), (1, .int x1), (2, .int x2), (3, .int x3)] := hl
  obtain ⟨H, eH⟩ : ∃ H, H = s.heap := ⟨_, rfl⟩
  obtain ⟨locs, elocs⟩ : ∃ z : List Loc, z = [] := ⟨_, rfl⟩
  have hw : HW G s.heap V H locs := by rw [eH, elocs]; exact hw
  show W p l e _ s m args below meth c s.heap [] 0 0 Q (F0 m 0 ls [])
  rw [← eH, ← elocs]
  unfold fX9_up at h
  refine lv_aload_n hx hb dX9_up_0 rfl (lv_at hl 0 rfl) ?_
  refine lv_iload_n hx hb dX9_up_1 rfl (lv_at hl 1 rfl) ?_
  rcases ob_N_some h with ⟨E2, h1, h⟩ | ⟨h1, h⟩
  · have h := Option.some.inj h
    subst h
    rw [kr]
    exact x_VVe E hw (kX9_needHouse (l := l) (G := G) (Z := Z) ht h1) yy_X9_needHouse lm_RX9_119 rfl (by decide) rfl rfl hl.1 (by decide) (by decide) (by decide) rfl (Nat.le_of_ble_eq_true rfl) dX9_up_2 hnt (by decide)
  · refine x_VVn E hw (kX9_needHouse (l := l) (G := G) (Z := Z) ht h1) yy_X9_needHouse lm_RX9_119 rfl (by decide) rfl rfl hl.1 (by decide) (by decide) (by decide) rfl (Nat.le_of_ble_eq_true rfl) dX9_up_2 (fun H locs hw => ?_)
    refine lv_iload_n hx hb dX9_up_5 rfl (lv_at hl 2 rfl) ?_
    rcases ob_N_some h with ⟨E4, h3, h⟩ | ⟨h3, h⟩
    · have h := Option.some.inj h
      subst h
      rw [kr]
      exact x_SVe E hw (kX9_needHour (l := l) (G := G) (Z := Z) ht h3) yy_X9_needHour lm_RX9_175 rfl hl.1 (by decide) (by decide) (by decide) rfl (Nat.le_of_ble_eq_true rfl) dX9_up_6 hnt (by decide)
    · refine x_SVn E hw (kX9_needHour (l := l) (G := G) (Z := Z) ht h3) yy_X9_needHour lm_RX9_175 rfl hl.1 (by decide) (by decide) (by decide) rfl (Nat.le_of_ble_eq_true rfl) dX9_up_6 (fun H locs hw => ?_)
      refine lv_iload_n hx hb dX9_up_9 rfl (lv_at hl 3 rfl) ?_
      refine lv_iconst (v := (0 : Int32)) hx hb dX9_up_10 (by decide) ?_
      refine lv_bipush (v := (24 : Int32)) hx hb dX9_up_11 (by decide) ?_
      rcases ob_N_some h with ⟨E6, h5, h⟩ | ⟨h5, h⟩
      · have h := Option.some.inj h
        subst h
        rw [kr]
        exact x_SVe E hw (kX9_needNumber (l := l) (G := G) (Z := Z) ht h5) yy_X9_needNumber lm_RX9_222 rfl hl.1 (by decide) (by decide) (by decide) rfl (Nat.le_of_ble_eq_true rfl) dX9_up_13 hnt (by decide)
      · refine x_SVn E hw (kX9_needNumber (l := l) (G := G) (Z := Z) ht h5) yy_X9_needNumber lm_RX9_222 rfl hl.1 (by decide) (by decide) (by decide) rfl (Nat.le_of_ble_eq_true rfl) dX9_up_13 (fun H locs hw => ?_)
        refine lv_aload_n hx hb dX9_up_16 rfl (lv_at hl 0 rfl) ?_
        refine r_gr E hw 0 7 20 (N := 11) (C := RX9) (T := TX9) (by decide) rfl rfl (by decide) rfl iw_9 rfl lf_RX9_45 dX9_up_17 ?_
        refine lv_aload_n hx hb dX9_up_20 rfl (lv_at hl 0 rfl) ?_
        refine r_gr E hw 0 1 2 (N := 11) (C := RX9) (T := TX9) (by decide) rfl rfl (by decide) rfl iw_9 rfl lf_RX9_19 dX9_up_21 ?_
        obtain ⟨V8, h7, h⟩ := ob_R_some h
        refine g_VV E hw (kX0_remember (l := l) (G := G) hB ⟨by decide, by decide⟩ h7) yy_X0_remember lm_RX9_187 rfl (by decide) rfl rfl hl.1 (by decide) (by decide) (by decide) rfl (Nat.le_of_ble_eq_true rfl) dX9_up_24 (fun H locs hw => ?_)
        refine lv_aload_n hx hb dX9_up_27 rfl (lv_at hl 0 rfl) ?_
        refine r_gr E hw 0 1 2 (N := 11) (C := RX9) (T := TX9) (by decide) rfl rfl (by decide) rfl iw_9 rfl lf_RX9_19 dX9_up_28 ?_
        refine lv_iload_n hx hb dX9_up_31 rfl (lv_at hl 1 rfl) ?_
        refine lv_iconst (v := (4 : Int32)) hx hb dX9_up_32 (by decide) ?_
        obtain ⟨y10, h9, h⟩ := ob_R_some h
        refine g_VI E hw (kX6_ofHouse (l := l) (G := G) hB ⟨by decide, by decide⟩ h9) yy_X6_ofHouse lm_RX9_122 rfl (by decide) rfl rfl hl.1 (by decide) (by decide) (by decide) rfl (Nat.le_of_ble_eq_true rfl) dX9_up_33 (fun H locs hw => ?_)
        refine lv_istore (lv' := [(4, .int y10), (0, .ref (G.2.2 0)), (1, .int x1), (2, .int x2), (3, .int x3)]) hx hb dX9_up_36 hl (by decide) rfl (fun ls hl => ?_)
        refine lv_aload_n hx hb dX9_up_38 rfl (lv_at hl 1 rfl) ?_
        refine r_gr E hw 0 1 2 (N := 11) (C := RX9) (T := TX9) (by decide) rfl rfl (by decide) rfl iw_9 rfl lf_RX9_19 dX9_up_39 ?_
        refine lv_iload_n hx hb dX9_up_42 rfl (lv_at hl 2 rfl) ?_
        refine lv_iconst (v := (3 : Int32)) hx hb dX9_up_43 (by decide) ?_
        refine lv_iload_n hx hb dX9_up_44 rfl (lv_at hl 3 rfl) ?_
        obtain ⟨V12, h11, h⟩ := ob_R_some h
        refine g_VV E hw (kX6_setHouse (l := l) (G := G) hB ⟨by decide, by decide⟩ h11) yy_X6_setHouse lm_RX9_218 rfl (by decide) rfl rfl hl.1 (by decide) (by decide) (by decide) rfl (Nat.le_of_ble_eq_true rfl) dX9_up_45 (fun H locs hw => ?_)
        refine lv_aload_n hx hb dX9_up_48 rfl (lv_at hl 1 rfl) ?_
        refine r_gr E hw 0 1 2 (N := 11) (C := RX9) (T := TX9) (by decide) rfl rfl (by decide) rfl iw_9 rfl lf_RX9_19 dX9_up_49 ?_
        refine lv_iload_n hx hb dX9_up_52 rfl (lv_at hl 2 rfl) ?_
        refine lv_iconst (v := (4 : Int32)) hx hb dX9_up_53 (by decide) ?_
        refine lv_iload_n hx hb dX9_up_54 rfl (lv_at hl 4 rfl) ?_
        obtain ⟨V14, h13, h⟩ := ob_R_some h
        refine g_VV E hw (kX6_setHouse (l := l) (G := G) hB ⟨by decide, by decide⟩ h13) yy_X6_setHouse lm_RX9_218 rfl (by decide) rfl rfl hl.1 (by decide) (by decide) (by decide) rfl (Nat.le_of_ble_eq_true rfl) dX9_up_55 (fun H locs hw => ?_)
        refine lv_iload hx hb dX9_up_58 (lv_at hl 0 rfl) ?_
        have h := Option.some.inj h
        subst h
        rw [kr]
        exact x_ri E hw (by decide) (by decide) dX9_up_60
/-! ===== AllSawIt.spite(II)I ===== -/
theorem dX9_spite_0 : decode cX9_spite 0 = .ok (.aload_n 0, 1) := by decide +kernel
theorem dX9_spite_1 : decode cX9_spite 1 = .ok (.iload_n 1, 1) := by decide +kernel
theorem dX9_spite_2 : decode cX9_spite 2 = .ok (.invokevirtual 119, 3) := by decide +kernel
theorem dX9_spite_5 : decode cX9_spite 5 = .ok (.iload_n 2, 1) := by decide +kernel
theorem dX9_spite_6 : decode cX9_spite 6 = .ok (.iconst 0, 1) := by decide +kernel
theorem dX9_spite_7 : decode cX9_spite 7 = .ok (.bipush 9, 2) := by decide +kernel
theorem dX9_spite_9 : decode cX9_spite 9 = .ok (.invokestatic 222, 3) := by decide +kernel
theorem dX9_spite_12 : decode cX9_spite 12 = .ok (.aload_n 0, 1) := by decide +kernel
theorem dX9_spite_13 : decode cX9_spite 13 = .ok (.getfield 45, 3) := by decide +kernel
theorem dX9_spite_16 : decode cX9_spite 16 = .ok (.aload_n 0, 1) := by decide +kernel
theorem dX9_spite_17 : decode cX9_spite 17 = .ok (.getfield 19, 3) := by decide +kernel
theorem dX9_spite_20 : decode cX9_spite 20 = .ok (.invokevirtual 187, 3) := by decide +kernel
theorem dX9_spite_23 : decode cX9_spite 23 = .ok (.aload_n 0, 1) := by decide +kernel
theorem dX9_spite_24 : decode cX9_spite 24 = .ok (.getfield 19, 3) := by decide +kernel
theorem dX9_spite_27 : decode cX9_spite 27 = .ok (.iload_n 1, 1) := by decide +kernel
theorem dX9_spite_28 : decode cX9_spite 28 = .ok (.iconst 5, 1) := by decide +kernel
theorem dX9_spite_29 : decode cX9_spite 29 = .ok (.invokevirtual 122, 3) := by decide +kernel
theorem dX9_spite_32 : decode cX9_spite 32 = .ok (.istore_n 3, 1) := by decide +kernel
theorem dX9_spite_33 : decode cX9_spite 33 = .ok (.aload_n 0, 1) := by decide +kernel
theorem dX9_spite_34 : decode cX9_spite 34 = .ok (.getfield 19, 3) := by decide +kernel
theorem dX9_spite_37 : decode cX9_spite 37 = .ok (.iload_n 1, 1) := by decide +kernel
theorem dX9_spite_38 : decode cX9_spite 38 = .ok (.iconst 5, 1) := by decide +kernel
theorem dX9_spite_39 : decode cX9_spite 39 = .ok (.iload_n 2, 1) := by decide +kernel
theorem dX9_spite_40 : decode cX9_spite 40 = .ok (.invokevirtual 218, 3) := by decide +kernel
theorem dX9_spite_43 : decode cX9_spite 43 = .ok (.iload_n 3, 1) := by decide +kernel
theorem dX9_spite_44 : decode cX9_spite 44 = .ok (.ireturn, 1) := by decide +kernel
noncomputable def fX9_spite (V : VT) (x1 : Int32) (x2 : Int32) : Option ((String ⊕ Int32) × VT) := ob_N (fX9_needHouse V x1) (fun E2 => some (.inl E2, V)) (ob_N (fX9_needNumber V x2 (0 : Int32) (9 : Int32)) (fun E4 => some (.inl E4, V)) (ob_R (fX0_remember V 2) fun V6 => ob_R (fX6_ofHouse V6 2 x1 (5 : Int32)) fun y8 => ob_R (fX6_setHouse V6 2 x1 (5 : Int32) x2) fun V10 => some (.inr y8, V10)))
set_option maxHeartbeats 4000000 in
set_option maxRecDepth 100000 in
theorem kX9_spite {l : Launch} {G : GT} {Z : Nat → Nat × Nat} (ht : l.stackTraces = false) {V : VT} {x1 : Int32} {x2 : Int32} {r : ((String ⊕ Int32) × VT)} (h : fX9_spite V x1 x2 = some r) : XI l G (SG Z) yX9_spite (.code yX9_spite cX9_spite 4 (some .int)) 9 2 [.ref (G.2.2 0), .int x1, .int x2] V r.1 r.2 := by
  intro sz
  refine xmet_of (Qs := fun sz => XQ G sz r.1 r.2) (Xs := fun sz => XE G sz r.1 r.2) (SG_ok Z) (by decide) (Nat.le_of_ble_eq_true rfl) ?_ sz
  intro p e s m args below meth c ls E hnt hw hl
  have hx := en_x E
  have hb := en_b E
  have hB := en_B E
  generalize hQ : vx_MQ _ _ _ _ _ _ _ _ = Q
  have kr : Q = vx_MQ below (XQ G s.heap.size r.1 r.2) (XE G s.heap.size r.1 r.2) args s 2 12 (gA G s.heap.size) := hQ.symm
  have hl : lv_has ls 4 [(0, .ref (G.2.2 0)), (1, .int x1), (2, .int x2)] := hl
  obtain ⟨H, eH⟩ : ∃ H, H = s.heap := ⟨_, rfl⟩
  obtain ⟨locs, elocs⟩ : ∃ z : List Loc, z = [] := ⟨_, rfl⟩
  have hw : HW G s.heap V H locs := by rw [eH, elocs]; exact hw
  show W p l e _ s m args below meth c s.heap [] 0 0 Q (F0 m 0 ls [])
  rw [← eH, ← elocs]
  unfold fX9_spite at h
  refine lv_aload_n hx hb dX9_spite_0 rfl (lv_at hl 0 rfl) ?_
  refine lv_iload_n hx hb dX9_spite_1 rfl (lv_at hl 1 rfl) ?_
  rcases ob_N_some h with ⟨E2, h1, h⟩ | ⟨h1, h⟩
  · have h := Option.some.inj h
    subst h
    rw [kr]
    exact x_VVe E hw (kX9_needHouse (l := l) (G := G) (Z := Z) ht h1) yy_X9_needHouse lm_RX9_119 rfl (by decide) rfl rfl hl.1 (by decide) (by decide) (by decide) rfl (Nat.le_of_ble_eq_true rfl) dX9_spite_2 hnt (by decide)
  · refine x_VVn E hw (kX9_needHouse (l := l) (G := G) (Z := Z) ht h1) yy_X9_needHouse lm_RX9_119 rfl (by decide) rfl rfl hl.1 (by decide) (by decide) (by decide) rfl (Nat.le_of_ble_eq_true rfl) dX9_spite_2 (fun H locs hw => ?_)
    refine lv_iload_n hx hb dX9_spite_5 rfl (lv_at hl 2 rfl) ?_
    refine lv_iconst (v := (0 : Int32)) hx hb dX9_spite_6 (by decide) ?_
    refine lv_bipush (v := (9 : Int32)) hx hb dX9_spite_7 (by decide) ?_
    rcases ob_N_some h with ⟨E4, h3, h⟩ | ⟨h3, h⟩
    · have h := Option.some.inj h
      subst h
      rw [kr]
      exact x_SVe E hw (kX9_needNumber (l := l) (G := G) (Z := Z) ht h3) yy_X9_needNumber lm_RX9_222 rfl hl.1 (by decide) (by decide) (by decide) rfl (Nat.le_of_ble_eq_true rfl) dX9_spite_9 hnt (by decide)
    · refine x_SVn E hw (kX9_needNumber (l := l) (G := G) (Z := Z) ht h3) yy_X9_needNumber lm_RX9_222 rfl hl.1 (by decide) (by decide) (by decide) rfl (Nat.le_of_ble_eq_true rfl) dX9_spite_9 (fun H locs hw => ?_)
      refine lv_aload_n hx hb dX9_spite_12 rfl (lv_at hl 0 rfl) ?_
      refine r_gr E hw 0 7 20 (N := 11) (C := RX9) (T := TX9) (by decide) rfl rfl (by decide) rfl iw_9 rfl lf_RX9_45 dX9_spite_13 ?_
      refine lv_aload_n hx hb dX9_spite_16 rfl (lv_at hl 0 rfl) ?_
      refine r_gr E hw 0 1 2 (N := 11) (C := RX9) (T := TX9) (by decide) rfl rfl (by decide) rfl iw_9 rfl lf_RX9_19 dX9_spite_17 ?_
      obtain ⟨V6, h5, h⟩ := ob_R_some h
      refine g_VV E hw (kX0_remember (l := l) (G := G) hB ⟨by decide, by decide⟩ h5) yy_X0_remember lm_RX9_187 rfl (by decide) rfl rfl hl.1 (by decide) (by decide) (by decide) rfl (Nat.le_of_ble_eq_true rfl) dX9_spite_20 (fun H locs hw => ?_)
      refine lv_aload_n hx hb dX9_spite_23 rfl (lv_at hl 0 rfl) ?_
      refine r_gr E hw 0 1 2 (N := 11) (C := RX9) (T := TX9) (by decide) rfl rfl (by decide) rfl iw_9 rfl lf_RX9_19 dX9_spite_24 ?_
      refine lv_iload_n hx hb dX9_spite_27 rfl (lv_at hl 1 rfl) ?_
      refine lv_iconst (v := (5 : Int32)) hx hb dX9_spite_28 (by decide) ?_
      obtain ⟨y8, h7, h⟩ := ob_R_some h
      refine g_VI E hw (kX6_ofHouse (l := l) (G := G) hB ⟨by decide, by decide⟩ h7) yy_X6_ofHouse lm_RX9_122 rfl (by decide) rfl rfl hl.1 (by decide) (by decide) (by decide) rfl (Nat.le_of_ble_eq_true rfl) dX9_spite_29 (fun H locs hw => ?_)
      refine lv_istore_n (lv' := [(3, .int y8), (0, .ref (G.2.2 0)), (1, .int x1), (2, .int x2)]) hx hb dX9_spite_32 rfl hl (by decide) rfl (fun ls hl => ?_)
      refine lv_aload_n hx hb dX9_spite_33 rfl (lv_at hl 1 rfl) ?_
      refine r_gr E hw 0 1 2 (N := 11) (C := RX9) (T := TX9) (by decide) rfl rfl (by decide) rfl iw_9 rfl lf_RX9_19 dX9_spite_34 ?_
      refine lv_iload_n hx hb dX9_spite_37 rfl (lv_at hl 2 rfl) ?_
      refine lv_iconst (v := (5 : Int32)) hx hb dX9_spite_38 (by decide) ?_
      refine lv_iload_n hx hb dX9_spite_39 rfl (lv_at hl 3 rfl) ?_
      obtain ⟨V10, h9, h⟩ := ob_R_some h
      refine g_VV E hw (kX6_setHouse (l := l) (G := G) hB ⟨by decide, by decide⟩ h9) yy_X6_setHouse lm_RX9_218 rfl (by decide) rfl rfl hl.1 (by decide) (by decide) (by decide) rfl (Nat.le_of_ble_eq_true rfl) dX9_spite_40 (fun H locs hw => ?_)
      refine lv_iload_n hx hb dX9_spite_43 rfl (lv_at hl 0 rfl) ?_
      have h := Option.some.inj h
      subst h
      rw [kr]
      exact x_ri E hw (by decide) (by decide) dX9_spite_44
/-! ===== AllSawIt.lodger(I)I ===== -/
theorem dX9_lodger_0 : decode cX9_lodger 0 = .ok (.aload_n 0, 1) := by decide +kernel
theorem dX9_lodger_1 : decode cX9_lodger 1 = .ok (.iload_n 1, 1) := by decide +kernel
theorem dX9_lodger_2 : decode cX9_lodger 2 = .ok (.invokevirtual 119, 3) := by decide +kernel
theorem dX9_lodger_5 : decode cX9_lodger 5 = .ok (.aload_n 0, 1) := by decide +kernel
theorem dX9_lodger_6 : decode cX9_lodger 6 = .ok (.getfield 19, 3) := by decide +kernel
theorem dX9_lodger_9 : decode cX9_lodger 9 = .ok (.getfield 225, 3) := by decide +kernel
theorem dX9_lodger_12 : decode cX9_lodger 12 = .ok (.bipush 8, 2) := by decide +kernel
theorem dX9_lodger_14 : decode cX9_lodger 14 = .ok (.if_icmp .lt 13, 3) := by decide +kernel
theorem dX9_lodger_17 : decode cX9_lodger 17 = .ok (.new 95, 3) := by decide +kernel
theorem dX9_lodger_20 : decode cX9_lodger 20 = .ok (.dup, 1) := by decide +kernel
theorem dX9_lodger_21 : decode cX9_lodger 21 = .ok (.ldc 228, 2) := by decide +kernel
theorem dX9_lodger_23 : decode cX9_lodger 23 = .ok (.invokespecial 99, 3) := by decide +kernel
theorem dX9_lodger_26 : decode cX9_lodger 26 = .ok (.athrow, 1) := by decide +kernel
theorem dX9_lodger_27 : decode cX9_lodger 27 = .ok (.aload_n 0, 1) := by decide +kernel
theorem dX9_lodger_28 : decode cX9_lodger 28 = .ok (.getfield 45, 3) := by decide +kernel
theorem dX9_lodger_31 : decode cX9_lodger 31 = .ok (.aload_n 0, 1) := by decide +kernel
theorem dX9_lodger_32 : decode cX9_lodger 32 = .ok (.getfield 19, 3) := by decide +kernel
theorem dX9_lodger_35 : decode cX9_lodger 35 = .ok (.invokevirtual 187, 3) := by decide +kernel
theorem dX9_lodger_38 : decode cX9_lodger 38 = .ok (.aload_n 0, 1) := by decide +kernel
theorem dX9_lodger_39 : decode cX9_lodger 39 = .ok (.getfield 19, 3) := by decide +kernel
theorem dX9_lodger_42 : decode cX9_lodger 42 = .ok (.iload_n 1, 1) := by decide +kernel
theorem dX9_lodger_43 : decode cX9_lodger 43 = .ok (.invokevirtual 230, 3) := by decide +kernel
theorem dX9_lodger_46 : decode cX9_lodger 46 = .ok (.ireturn, 1) := by decide +kernel
noncomputable def fX9_lodger (V : VT) (x1 : Int32) : Option ((String ⊕ Int32) × VT) := ob_N (fX9_needHouse V x1) (fun E2 => some (.inl E2, V)) (if (V 2 3) < (8 : Int32) then (ob_R (fX0_remember V 2) fun V4 => ob_I (fX6_addLodger V4 2 x1) fun y6 V7 => some (.inr y6, V7)) else (some (.inl "java/lang/UnsupportedOperationException", V)))
set_option maxHeartbeats 4000000 in
set_option maxRecDepth 100000 in
theorem kX9_lodger {l : Launch} {G : GT} {Z : Nat → Nat × Nat} (ht : l.stackTraces = false) {V : VT} {x1 : Int32} {r : ((String ⊕ Int32) × VT)} (h : fX9_lodger V x1 = some r) : XI l G (SG Z) yX9_lodger (.code yX9_lodger cX9_lodger 2 (some .int)) 9 2 [.ref (G.2.2 0), .int x1] V r.1 r.2 := by
  intro sz
  refine xmet_of (Qs := fun sz => XQ G sz r.1 r.2) (Xs := fun sz => XE G sz r.1 r.2) (SG_ok Z) (by decide) (Nat.le_of_ble_eq_true rfl) ?_ sz
  intro p e s m args below meth c ls E hnt hw hl
  have hx := en_x E
  have hb := en_b E
  have hB := en_B E
  generalize hQ : vx_MQ _ _ _ _ _ _ _ _ = Q
  have kr : Q = vx_MQ below (XQ G s.heap.size r.1 r.2) (XE G s.heap.size r.1 r.2) args s 2 12 (gA G s.heap.size) := hQ.symm
  have hl : lv_has ls 2 [(0, .ref (G.2.2 0)), (1, .int x1)] := hl
  obtain ⟨H, eH⟩ : ∃ H, H = s.heap := ⟨_, rfl⟩
  obtain ⟨locs, elocs⟩ : ∃ z : List Loc, z = [] := ⟨_, rfl⟩
  have hw : HW G s.heap V H locs := by rw [eH, elocs]; exact hw
  show W p l e _ s m args below meth c s.heap [] 0 0 Q (F0 m 0 ls [])
  rw [← eH, ← elocs]
  unfold fX9_lodger at h
  refine lv_aload_n hx hb dX9_lodger_0 rfl (lv_at hl 0 rfl) ?_
  refine lv_iload_n hx hb dX9_lodger_1 rfl (lv_at hl 1 rfl) ?_
  rcases ob_N_some h with ⟨E2, h1, h⟩ | ⟨h1, h⟩
  · have h := Option.some.inj h
    subst h
    rw [kr]
    exact x_VVe E hw (kX9_needHouse (l := l) (G := G) (Z := Z) ht h1) yy_X9_needHouse lm_RX9_119 rfl (by decide) rfl rfl hl.1 (by decide) (by decide) (by decide) rfl (Nat.le_of_ble_eq_true rfl) dX9_lodger_2 hnt (by decide)
  · refine x_VVn E hw (kX9_needHouse (l := l) (G := G) (Z := Z) ht h1) yy_X9_needHouse lm_RX9_119 rfl (by decide) rfl rfl hl.1 (by decide) (by decide) (by decide) rfl (Nat.le_of_ble_eq_true rfl) dX9_lodger_2 (fun H locs hw => ?_)
    refine lv_aload_n hx hb dX9_lodger_5 rfl (lv_at hl 0 rfl) ?_
    refine r_gr E hw 0 1 2 (N := 11) (C := RX9) (T := TX9) (by decide) rfl rfl (by decide) rfl iw_9 rfl lf_RX9_19 dX9_lodger_6 ?_
    refine r_giN E hw 2 3 (N := 13) (C := RX6) (T := TX6) (by decide) rfl rfl (by decide) rfl iw_6 rfl lf_RX9_225 dX9_lodger_9 ?_
    refine lv_bipush (v := (8 : Int32)) hx hb dX9_lodger_12 (by decide) ?_
    refine lv_icmp_lt (tgt := 27) hx hb dX9_lodger_14 (by decide) (fun c8 => ?_) (fun c8 => ?_)
    · rw [if_pos c8] at h
      refine lv_aload_n hx hb dX9_lodger_27 rfl (lv_at hl 0 rfl) ?_
      refine r_gr E hw 0 7 20 (N := 11) (C := RX9) (T := TX9) (by decide) rfl rfl (by decide) rfl iw_9 rfl lf_RX9_45 dX9_lodger_28 ?_
      refine lv_aload_n hx hb dX9_lodger_31 rfl (lv_at hl 0 rfl) ?_
      refine r_gr E hw 0 1 2 (N := 11) (C := RX9) (T := TX9) (by decide) rfl rfl (by decide) rfl iw_9 rfl lf_RX9_19 dX9_lodger_32 ?_
      obtain ⟨V4, h3, h⟩ := ob_R_some h
      refine g_VV E hw (kX0_remember (l := l) (G := G) hB ⟨by decide, by decide⟩ h3) yy_X0_remember lm_RX9_187 rfl (by decide) rfl rfl hl.1 (by decide) (by decide) (by decide) rfl (Nat.le_of_ble_eq_true rfl) dX9_lodger_35 (fun H locs hw => ?_)
      refine lv_aload_n hx hb dX9_lodger_38 rfl (lv_at hl 0 rfl) ?_
      refine r_gr E hw 0 1 2 (N := 11) (C := RX9) (T := TX9) (by decide) rfl rfl (by decide) rfl iw_9 rfl lf_RX9_19 dX9_lodger_39 ?_
      refine lv_iload_n hx hb dX9_lodger_42 rfl (lv_at hl 1 rfl) ?_
      obtain ⟨y6, V7, h5, h⟩ := ob_I_some h
      refine g_VI E hw (kX6_addLodger (l := l) (G := G) hB ⟨by decide, by decide⟩ h5) yy_X6_addLodger lm_RX9_230 rfl (by decide) rfl rfl hl.1 (by decide) (by decide) (by decide) rfl (Nat.le_of_ble_eq_true rfl) dX9_lodger_43 (fun H locs hw => ?_)
      have h := Option.some.inj h
      subst h
      rw [kr]
      exact x_ri E hw (by decide) (by decide) dX9_lodger_46
    · rw [if_neg c8] at h
      have h := Option.some.inj h
      subst h
      rw [kr]
      exact x_th (w := 8) (cls := "java/lang/UnsupportedOperationException") E hw ht (by decide) rfl rfl (by decide) tw1_95 tw2_95 tw3_95 tw4_95 tw6_95 hl.1 dX9_lodger_17 dX9_lodger_20 (Or.inl ⟨dX9_lodger_21, dX9_lodger_23, dX9_lodger_26⟩) hnt (by decide) (by decide) (Nat.le_of_ble_eq_true rfl) (by decide)
/-! ===== AllSawIt.days(I)I ===== -/
theorem dX9_days_0 : decode cX9_days 0 = .ok (.iload_n 1, 1) := by decide +kernel
theorem dX9_days_1 : decode cX9_days 1 = .ok (.iconst 1, 1) := by decide +kernel
theorem dX9_days_2 : decode cX9_days 2 = .ok (.bipush 60, 2) := by decide +kernel
theorem dX9_days_4 : decode cX9_days 4 = .ok (.invokestatic 222, 3) := by decide +kernel
theorem dX9_days_7 : decode cX9_days 7 = .ok (.aload_n 0, 1) := by decide +kernel
theorem dX9_days_8 : decode cX9_days 8 = .ok (.getfield 45, 3) := by decide +kernel
theorem dX9_days_11 : decode cX9_days 11 = .ok (.aload_n 0, 1) := by decide +kernel
theorem dX9_days_12 : decode cX9_days 12 = .ok (.getfield 19, 3) := by decide +kernel
theorem dX9_days_15 : decode cX9_days 15 = .ok (.invokevirtual 187, 3) := by decide +kernel
theorem dX9_days_18 : decode cX9_days 18 = .ok (.aload_n 0, 1) := by decide +kernel
theorem dX9_days_19 : decode cX9_days 19 = .ok (.getfield 19, 3) := by decide +kernel
theorem dX9_days_22 : decode cX9_days 22 = .ok (.getfield 233, 3) := by decide +kernel
theorem dX9_days_25 : decode cX9_days 25 = .ok (.istore_n 2, 1) := by decide +kernel
theorem dX9_days_26 : decode cX9_days 26 = .ok (.iconst 0, 1) := by decide +kernel
theorem dX9_days_27 : decode cX9_days 27 = .ok (.istore_n 3, 1) := by decide +kernel
theorem dX9_days_28 : decode cX9_days 28 = .ok (.iload_n 3, 1) := by decide +kernel
theorem dX9_days_29 : decode cX9_days 29 = .ok (.iload_n 1, 1) := by decide +kernel
theorem dX9_days_30 : decode cX9_days 30 = .ok (.if_icmp .ge 20, 3) := by decide +kernel
theorem dX9_days_33 : decode cX9_days 33 = .ok (.aload_n 0, 1) := by decide +kernel
theorem dX9_days_34 : decode cX9_days 34 = .ok (.getfield 19, 3) := by decide +kernel
theorem dX9_days_37 : decode cX9_days 37 = .ok (.aload_n 0, 1) := by decide +kernel
theorem dX9_days_38 : decode cX9_days 38 = .ok (.getfield 32, 3) := by decide +kernel
theorem dX9_days_41 : decode cX9_days 41 = .ok (.invokestatic 236, 3) := by decide +kernel
theorem dX9_days_44 : decode cX9_days 44 = .ok (.iinc 3 1, 3) := by decide +kernel
theorem dX9_days_47 : decode cX9_days 47 = .ok (.goto (-19), 3) := by decide +kernel
theorem dX9_days_50 : decode cX9_days 50 = .ok (.aload_n 0, 1) := by decide +kernel
theorem dX9_days_51 : decode cX9_days 51 = .ok (.getfield 19, 3) := by decide +kernel
theorem dX9_days_54 : decode cX9_days 54 = .ok (.getfield 233, 3) := by decide +kernel
theorem dX9_days_57 : decode cX9_days 57 = .ok (.iload_n 2, 1) := by decide +kernel
theorem dX9_days_58 : decode cX9_days 58 = .ok (.isub, 1) := by decide +kernel
theorem dX9_days_59 : decode cX9_days 59 = .ok (.ireturn, 1) := by decide +kernel
noncomputable def fX9_days_L28 (V : VT) (u1 : Int32) (u2 : Int32) (u3 : Int32) : Option ((VT × Int32 × Int32 × Int32) ⊕ ((String ⊕ Int32) × VT)) := if u1 ≤ u3 then (some (.inr ((.inr ((V 2 12) - u2), V)))) else (ob_R (fX1_pass V 2) fun V7 => lt_ (u3 + (1 : Int32)) fun y8 => some (.inl (V7, u1, u2, y8)))
noncomputable def iX9_days_L28 : (VT × Int32 × Int32 × Int32) → Option ((VT × Int32 × Int32 × Int32) ⊕ ((String ⊕ Int32) × VT)) := fun q => fX9_days_L28 (q.1) (q.2.1) (q.2.2.1) (q.2.2.2)
noncomputable def fX9_days (V : VT) (x1 : Int32) : Option ((String ⊕ Int32) × VT) := ob_N (fX9_needNumber V x1 (1 : Int32) (60 : Int32)) (fun E2 => some (.inl E2, V)) (ob_R (fX0_remember V 2) fun V4 => lt_ (V4 2 12) fun y5 => ob_R (it_ (iX9_days_L28) FV (V4, x1, y5, (0 : Int32))) fun x11 => some x11)
set_option maxHeartbeats 4000000 in
set_option maxRecDepth 100000 in
theorem wX9_days_L28 {p : Program} {l : Launch} {e : Env} {s : State} {m : MethodId} {args : Array Value} {below : List Frame} {meth : Method} {c : Code} {G : GT} {Z : Nat → Nat × Nat} {Q : State → Prop} (E : En p s m args c meth cX9_days 4 RX9 (some .int) G (SG Z)) (ht : l.stackTraces = false) (hnt : ∀ x ∈ c.exceptionTable.toList, False) {x : ((String ⊕ Int32) × VT)} (kr : ∀ q : ((String ⊕ Int32) × VT), x = q → Q = vx_MQ below (XQ G s.heap.size q.1 q.2) (XE G s.heap.size q.1 q.2) args s 1 6 (gA G s.heap.size)) : ∀ (n : Nat) (q : (VT × Int32 × Int32 × Int32)), it_ (iX9_days_L28) n q = some x → ∀ (H : Heap) (locs : List Loc) (ls : Array Slot), HW G s.heap (q.1) H locs → lv_has ls 4 [(0, .ref (G.2.2 0)), (1, .int (q.2.1)), (2, .int (q.2.2.1)), (3, .int (q.2.2.2))] → W p l e (rmX 9 1) s m args below meth c H locs 1 6 Q (F0 m 28 ls []) := by
  have hx := en_x E
  have hb := en_b E
  have hB := en_B E
  refine it_W (fun q : (VT × Int32 × Int32 × Int32) => ∀ (H : Heap) (locs : List Loc) (ls : Array Slot), HW G s.heap (q.1) H locs → lv_has ls 4 [(0, .ref (G.2.2 0)), (1, .int (q.2.1)), (2, .int (q.2.2.1)), (3, .int (q.2.2.2))] → W p l e (rmX 9 1) s m args below meth c H locs 1 6 Q (F0 m 28 ls [])) x ?_
  intro q r h kc kx
  obtain ⟨V, u1, u2, u3⟩ := q
  intro H locs ls hw hl
  have h : fX9_days_L28 V u1 u2 u3 = some r := h
  have hw : HW G s.heap V H locs := hw
  have hl : lv_has ls 4 [(0, .ref (G.2.2 0)), (1, .int u1), (2, .int u2), (3, .int u3)] := hl
  have kr : ∀ q : ((String ⊕ Int32) × VT), r = .inr (q) → Q = vx_MQ below (XQ G s.heap.size q.1 q.2) (XE G s.heap.size q.1 q.2) args s 1 6 (gA G s.heap.size) := fun q e => kr q (kx _ e).symm
  unfold fX9_days_L28 at h
  refine lv_iload_n hx hb dX9_days_28 rfl (lv_at hl 3 rfl) ?_
  refine lv_iload_n hx hb dX9_days_29 rfl (lv_at hl 1 rfl) ?_
  refine lv_icmp_ge (tgt := 50) hx hb dX9_days_30 (by decide) (fun c9 => ?_) (fun c9 => ?_)
  · rw [if_pos c9] at h
    refine lv_aload_n hx hb dX9_days_50 rfl (lv_at hl 0 rfl) ?_
    refine r_gr E hw 0 1 2 (N := 11) (C := RX9) (T := TX9) (by decide) rfl rfl (by decide) rfl iw_9 rfl lf_RX9_19 dX9_days_51 ?_
    refine r_giN E hw 2 12 (N := 13) (C := RX6) (T := TX6) (by decide) rfl rfl (by decide) rfl iw_6 rfl lf_RX9_233 dX9_days_54 ?_
    refine lv_iload_n hx hb dX9_days_57 rfl (lv_at hl 2 rfl) ?_
    refine lv_isub hx hb dX9_days_58 ?_
    rw [kr (.inr ((V 2 12) - u2), V) (Option.some.inj h).symm]
    exact x_ri E hw (by decide) (by decide) dX9_days_59
  · rw [if_neg c9] at h
    refine lv_aload_n hx hb dX9_days_33 rfl (lv_at hl 0 rfl) ?_
    refine r_gr E hw 0 1 2 (N := 11) (C := RX9) (T := TX9) (by decide) rfl rfl (by decide) rfl iw_9 rfl lf_RX9_19 dX9_days_34 ?_
    refine lv_aload_n hx hb dX9_days_37 rfl (lv_at hl 0 rfl) ?_
    refine r_gr E hw 0 4 17 (N := 11) (C := RX9) (T := TX9) (by decide) rfl rfl (by decide) rfl iw_9 rfl lf_RX9_32 dX9_days_38 ?_
    obtain ⟨V7, h6, h⟩ := ob_R_some h
    refine g_SV E hw (kX1_pass (l := l) (G := G) hB ⟨by decide, by decide⟩ h6) yy_X1_pass lm_RX9_236 rfl hl.1 (by decide) (by decide) (by decide) rfl (Nat.le_of_ble_eq_true rfl) dX9_days_41 (fun H locs hw => ?_)
    obtain ⟨y8, ey8, h⟩ := lt_some h
    refine lv_iinc (v := y8) (lv' := [(3, .int y8), (0, .ref (G.2.2 0)), (1, .int u1), (2, .int u2)]) hx hb dX9_days_44 hl (k := 3) rfl (by rw [ey8]; rfl) (by decide) rfl (fun ls hl => ?_)
    refine lv_goto (tgt := 28) hx hb dX9_days_47 (by decide) ?_
    exact kc (V7, u1, u2, y8) (Option.some.inj h).symm H locs ls hw (lv_sub hl [1, 2, 3, 0] rfl)
set_option maxHeartbeats 4000000 in
set_option maxRecDepth 100000 in
theorem kX9_days {l : Launch} {G : GT} {Z : Nat → Nat × Nat} (ht : l.stackTraces = false) {V : VT} {x1 : Int32} {r : ((String ⊕ Int32) × VT)} (h : fX9_days V x1 = some r) : XI l G (SG Z) yX9_days (.code yX9_days cX9_days 4 (some .int)) 9 1 [.ref (G.2.2 0), .int x1] V r.1 r.2 := by
  intro sz
  refine xmet_of (Qs := fun sz => XQ G sz r.1 r.2) (Xs := fun sz => XE G sz r.1 r.2) (SG_ok Z) (by decide) (Nat.le_of_ble_eq_true rfl) ?_ sz
  intro p e s m args below meth c ls E hnt hw hl
  have hx := en_x E
  have hb := en_b E
  have hB := en_B E
  generalize hQ : vx_MQ _ _ _ _ _ _ _ _ = Q
  have kr : Q = vx_MQ below (XQ G s.heap.size r.1 r.2) (XE G s.heap.size r.1 r.2) args s 1 6 (gA G s.heap.size) := hQ.symm
  have hl : lv_has ls 4 [(0, .ref (G.2.2 0)), (1, .int x1)] := hl
  obtain ⟨H, eH⟩ : ∃ H, H = s.heap := ⟨_, rfl⟩
  obtain ⟨locs, elocs⟩ : ∃ z : List Loc, z = [] := ⟨_, rfl⟩
  have hw : HW G s.heap V H locs := by rw [eH, elocs]; exact hw
  show W p l e _ s m args below meth c s.heap [] 0 0 Q (F0 m 0 ls [])
  rw [← eH, ← elocs]
  unfold fX9_days at h
  refine lv_iload_n hx hb dX9_days_0 rfl (lv_at hl 1 rfl) ?_
  refine lv_iconst (v := (1 : Int32)) hx hb dX9_days_1 (by decide) ?_
  refine lv_bipush (v := (60 : Int32)) hx hb dX9_days_2 (by decide) ?_
  rcases ob_N_some h with ⟨E2, h1, h⟩ | ⟨h1, h⟩
  · have h := Option.some.inj h
    subst h
    rw [kr]
    exact x_SVe E hw (kX9_needNumber (l := l) (G := G) (Z := Z) ht h1) yy_X9_needNumber lm_RX9_222 rfl hl.1 (by decide) (by decide) (by decide) rfl (Nat.le_of_ble_eq_true rfl) dX9_days_4 hnt (by decide)
  · refine x_SVn E hw (kX9_needNumber (l := l) (G := G) (Z := Z) ht h1) yy_X9_needNumber lm_RX9_222 rfl hl.1 (by decide) (by decide) (by decide) rfl (Nat.le_of_ble_eq_true rfl) dX9_days_4 (fun H locs hw => ?_)
    refine lv_aload_n hx hb dX9_days_7 rfl (lv_at hl 0 rfl) ?_
    refine r_gr E hw 0 7 20 (N := 11) (C := RX9) (T := TX9) (by decide) rfl rfl (by decide) rfl iw_9 rfl lf_RX9_45 dX9_days_8 ?_
    refine lv_aload_n hx hb dX9_days_11 rfl (lv_at hl 0 rfl) ?_
    refine r_gr E hw 0 1 2 (N := 11) (C := RX9) (T := TX9) (by decide) rfl rfl (by decide) rfl iw_9 rfl lf_RX9_19 dX9_days_12 ?_
    obtain ⟨V4, h3, h⟩ := ob_R_some h
    refine g_VV E hw (kX0_remember (l := l) (G := G) hB ⟨by decide, by decide⟩ h3) yy_X0_remember lm_RX9_187 rfl (by decide) rfl rfl hl.1 (by decide) (by decide) (by decide) rfl (Nat.le_of_ble_eq_true rfl) dX9_days_15 (fun H locs hw => ?_)
    refine lv_aload_n hx hb dX9_days_18 rfl (lv_at hl 0 rfl) ?_
    refine r_gr E hw 0 1 2 (N := 11) (C := RX9) (T := TX9) (by decide) rfl rfl (by decide) rfl iw_9 rfl lf_RX9_19 dX9_days_19 ?_
    refine r_giN E hw 2 12 (N := 13) (C := RX6) (T := TX6) (by decide) rfl rfl (by decide) rfl iw_6 rfl lf_RX9_233 dX9_days_22 ?_
    obtain ⟨y5, ey5, h⟩ := lt_some h
    refine lv_eqi ey5 ?_
    refine lv_istore_n (lv' := [(2, .int y5), (0, .ref (G.2.2 0)), (1, .int x1)]) hx hb dX9_days_25 rfl hl (by decide) rfl (fun ls hl => ?_)
    refine lv_iconst (v := (0 : Int32)) hx hb dX9_days_26 (by decide) ?_
    refine lv_istore_n (lv' := [(3, .int (0 : Int32)), (2, .int y5), (0, .ref (G.2.2 0)), (1, .int x1)]) hx hb dX9_days_27 rfl hl (by decide) rfl (fun ls hl => ?_)
    obtain ⟨x11, h10, h⟩ := ob_R_some h
    have h := Option.some.inj h
    subst h
    exact wX9_days_L28 E ht hnt (fun q e => by subst e; exact kr) FV (V4, x1, y5, (0 : Int32)) h10 H locs ls hw (lv_sub hl [2, 3, 1, 0] rfl)
/-! ===== AllSawIt.witnesses(II)I ===== -/
theorem dX9_witnesses_0 : decode cX9_witnesses 0 = .ok (.iload_n 1, 1) := by decide +kernel
theorem dX9_witnesses_1 : decode cX9_witnesses 1 = .ok (.invokestatic 172, 3) := by decide +kernel
theorem dX9_witnesses_4 : decode cX9_witnesses 4 = .ok (.iload_n 2, 1) := by decide +kernel
theorem dX9_witnesses_5 : decode cX9_witnesses 5 = .ok (.invokestatic 175, 3) := by decide +kernel
theorem dX9_witnesses_8 : decode cX9_witnesses 8 = .ok (.aload_n 0, 1) := by decide +kernel
theorem dX9_witnesses_9 : decode cX9_witnesses 9 = .ok (.getfield 19, 3) := by decide +kernel
theorem dX9_witnesses_12 : decode cX9_witnesses 12 = .ok (.aload_n 0, 1) := by decide +kernel
theorem dX9_witnesses_13 : decode cX9_witnesses 13 = .ok (.getfield 32, 3) := by decide +kernel
theorem dX9_witnesses_16 : decode cX9_witnesses 16 = .ok (.iload_n 1, 1) := by decide +kernel
theorem dX9_witnesses_17 : decode cX9_witnesses 17 = .ok (.iload_n 2, 1) := by decide +kernel
theorem dX9_witnesses_18 : decode cX9_witnesses 18 = .ok (.invokestatic 190, 3) := by decide +kernel
theorem dX9_witnesses_21 : decode cX9_witnesses 21 = .ok (.ireturn, 1) := by decide +kernel
noncomputable def fX9_witnesses (V : VT) (x1 : Int32) (x2 : Int32) : Option ((String ⊕ Int32) × VT) := ob_N (fX9_needPlace V x1) (fun E2 => some (.inl E2, V)) (ob_N (fX9_needHour V x2) (fun E4 => some (.inl E4, V)) (ob_I (fX5_witnessBits V 2 x1 x2) fun y6 V7 => some (.inr y6, V7)))
set_option maxHeartbeats 4000000 in
set_option maxRecDepth 100000 in
theorem kX9_witnesses {l : Launch} {G : GT} {Z : Nat → Nat × Nat} (ht : l.stackTraces = false) {V : VT} {x1 : Int32} {x2 : Int32} {r : ((String ⊕ Int32) × VT)} (h : fX9_witnesses V x1 x2 = some r) : XI l G (SG Z) yX9_witnesses (.code yX9_witnesses cX9_witnesses 3 (some .int)) 9 2 [.ref (G.2.2 0), .int x1, .int x2] V r.1 r.2 := by
  intro sz
  refine xmet_of (Qs := fun sz => XQ G sz r.1 r.2) (Xs := fun sz => XE G sz r.1 r.2) (SG_ok Z) (by decide) (Nat.le_of_ble_eq_true rfl) ?_ sz
  intro p e s m args below meth c ls E hnt hw hl
  have hx := en_x E
  have hb := en_b E
  have hB := en_B E
  generalize hQ : vx_MQ _ _ _ _ _ _ _ _ = Q
  have kr : Q = vx_MQ below (XQ G s.heap.size r.1 r.2) (XE G s.heap.size r.1 r.2) args s 2 12 (gA G s.heap.size) := hQ.symm
  have hl : lv_has ls 3 [(0, .ref (G.2.2 0)), (1, .int x1), (2, .int x2)] := hl
  obtain ⟨H, eH⟩ : ∃ H, H = s.heap := ⟨_, rfl⟩
  obtain ⟨locs, elocs⟩ : ∃ z : List Loc, z = [] := ⟨_, rfl⟩
  have hw : HW G s.heap V H locs := by rw [eH, elocs]; exact hw
  show W p l e _ s m args below meth c s.heap [] 0 0 Q (F0 m 0 ls [])
  rw [← eH, ← elocs]
  unfold fX9_witnesses at h
  refine lv_iload_n hx hb dX9_witnesses_0 rfl (lv_at hl 1 rfl) ?_
  rcases ob_N_some h with ⟨E2, h1, h⟩ | ⟨h1, h⟩
  · have h := Option.some.inj h
    subst h
    rw [kr]
    exact x_SVe E hw (kX9_needPlace (l := l) (G := G) (Z := Z) ht h1) yy_X9_needPlace lm_RX9_172 rfl hl.1 (by decide) (by decide) (by decide) rfl (Nat.le_of_ble_eq_true rfl) dX9_witnesses_1 hnt (by decide)
  · refine x_SVn E hw (kX9_needPlace (l := l) (G := G) (Z := Z) ht h1) yy_X9_needPlace lm_RX9_172 rfl hl.1 (by decide) (by decide) (by decide) rfl (Nat.le_of_ble_eq_true rfl) dX9_witnesses_1 (fun H locs hw => ?_)
    refine lv_iload_n hx hb dX9_witnesses_4 rfl (lv_at hl 2 rfl) ?_
    rcases ob_N_some h with ⟨E4, h3, h⟩ | ⟨h3, h⟩
    · have h := Option.some.inj h
      subst h
      rw [kr]
      exact x_SVe E hw (kX9_needHour (l := l) (G := G) (Z := Z) ht h3) yy_X9_needHour lm_RX9_175 rfl hl.1 (by decide) (by decide) (by decide) rfl (Nat.le_of_ble_eq_true rfl) dX9_witnesses_5 hnt (by decide)
    · refine x_SVn E hw (kX9_needHour (l := l) (G := G) (Z := Z) ht h3) yy_X9_needHour lm_RX9_175 rfl hl.1 (by decide) (by decide) (by decide) rfl (Nat.le_of_ble_eq_true rfl) dX9_witnesses_5 (fun H locs hw => ?_)
      refine lv_aload_n hx hb dX9_witnesses_8 rfl (lv_at hl 0 rfl) ?_
      refine r_gr E hw 0 1 2 (N := 11) (C := RX9) (T := TX9) (by decide) rfl rfl (by decide) rfl iw_9 rfl lf_RX9_19 dX9_witnesses_9 ?_
      refine lv_aload_n hx hb dX9_witnesses_12 rfl (lv_at hl 0 rfl) ?_
      refine r_gr E hw 0 4 17 (N := 11) (C := RX9) (T := TX9) (by decide) rfl rfl (by decide) rfl iw_9 rfl lf_RX9_32 dX9_witnesses_13 ?_
      refine lv_iload_n hx hb dX9_witnesses_16 rfl (lv_at hl 1 rfl) ?_
      refine lv_iload_n hx hb dX9_witnesses_17 rfl (lv_at hl 2 rfl) ?_
      obtain ⟨y6, V7, h5, h⟩ := ob_I_some h
      refine g_SI E hw (kX5_witnessBits (l := l) (G := G) hB ⟨by decide, by decide⟩ h5) yy_X5_witnessBits lm_RX9_190 rfl hl.1 (by decide) (by decide) (by decide) rfl (Nat.le_of_ble_eq_true rfl) dX9_witnesses_18 (fun H locs hw => ?_)
      have h := Option.some.inj h
      subst h
      rw [kr]
      exact x_ri E hw (by decide) (by decide) dX9_witnesses_21
/-! ===== AllSawIt.open(IZ)I ===== -/
theorem dX9_open_0 : decode cX9_open 0 = .ok (.iload_n 1, 1) := by decide +kernel
theorem dX9_open_1 : decode cX9_open 1 = .ok (.invokestatic 175, 3) := by decide +kernel
theorem dX9_open_4 : decode cX9_open 4 = .ok (.iload_n 2, 1) := by decide +kernel
theorem dX9_open_5 : decode cX9_open 5 = .ok (.ifCond .eq 18, 3) := by decide +kernel
theorem dX9_open_8 : decode cX9_open 8 = .ok (.aload_n 0, 1) := by decide +kernel
theorem dX9_open_9 : decode cX9_open 9 = .ok (.getfield 19, 3) := by decide +kernel
theorem dX9_open_12 : decode cX9_open 12 = .ok (.aload_n 0, 1) := by decide +kernel
theorem dX9_open_13 : decode cX9_open 13 = .ok (.getfield 32, 3) := by decide +kernel
theorem dX9_open_16 : decode cX9_open 16 = .ok (.iload_n 1, 1) := by decide +kernel
theorem dX9_open_17 : decode cX9_open 17 = .ok (.invokestatic 242, 3) := by decide +kernel
theorem dX9_open_20 : decode cX9_open 20 = .ok (.goto 15, 3) := by decide +kernel
theorem dX9_open_23 : decode cX9_open 23 = .ok (.aload_n 0, 1) := by decide +kernel
theorem dX9_open_24 : decode cX9_open 24 = .ok (.getfield 19, 3) := by decide +kernel
theorem dX9_open_27 : decode cX9_open 27 = .ok (.aload_n 0, 1) := by decide +kernel
theorem dX9_open_28 : decode cX9_open 28 = .ok (.getfield 32, 3) := by decide +kernel
theorem dX9_open_31 : decode cX9_open 31 = .ok (.iload_n 1, 1) := by decide +kernel
theorem dX9_open_32 : decode cX9_open 32 = .ok (.invokestatic 245, 3) := by decide +kernel
theorem dX9_open_35 : decode cX9_open 35 = .ok (.ireturn, 1) := by decide +kernel
noncomputable def fX9_open (V : VT) (x1 : Int32) (x2 : Int32) : Option ((String ⊕ Int32) × VT) := ob_N (fX9_needHour V x1) (fun E2 => some (.inl E2, V)) (if x2 = 0 then (ob_I (fX5_openBits V 2 x1) fun y4 V5 => some (.inr y4, V5)) else (ob_I (fX5_darkBits V 2 x1) fun y7 V8 => some (.inr y7, V8)))
set_option maxHeartbeats 4000000 in
set_option maxRecDepth 100000 in
theorem kX9_open {l : Launch} {G : GT} {Z : Nat → Nat × Nat} (ht : l.stackTraces = false) {V : VT} {x1 : Int32} {x2 : Int32} {r : ((String ⊕ Int32) × VT)} (h : fX9_open V x1 x2 = some r) : XI l G (SG Z) yX9_open (.code yX9_open cX9_open 3 (some .int)) 9 1 [.ref (G.2.2 0), .int x1, .int x2] V r.1 r.2 := by
  intro sz
  refine xmet_of (Qs := fun sz => XQ G sz r.1 r.2) (Xs := fun sz => XE G sz r.1 r.2) (SG_ok Z) (by decide) (Nat.le_of_ble_eq_true rfl) ?_ sz
  intro p e s m args below meth c ls E hnt hw hl
  have hx := en_x E
  have hb := en_b E
  have hB := en_B E
  generalize hQ : vx_MQ _ _ _ _ _ _ _ _ = Q
  have kr : Q = vx_MQ below (XQ G s.heap.size r.1 r.2) (XE G s.heap.size r.1 r.2) args s 1 6 (gA G s.heap.size) := hQ.symm
  have hl : lv_has ls 3 [(0, .ref (G.2.2 0)), (1, .int x1), (2, .int x2)] := hl
  obtain ⟨H, eH⟩ : ∃ H, H = s.heap := ⟨_, rfl⟩
  obtain ⟨locs, elocs⟩ : ∃ z : List Loc, z = [] := ⟨_, rfl⟩
  have hw : HW G s.heap V H locs := by rw [eH, elocs]; exact hw
  show W p l e _ s m args below meth c s.heap [] 0 0 Q (F0 m 0 ls [])
  rw [← eH, ← elocs]
  unfold fX9_open at h
  refine lv_iload_n hx hb dX9_open_0 rfl (lv_at hl 1 rfl) ?_
  rcases ob_N_some h with ⟨E2, h1, h⟩ | ⟨h1, h⟩
  · have h := Option.some.inj h
    subst h
    rw [kr]
    exact x_SVe E hw (kX9_needHour (l := l) (G := G) (Z := Z) ht h1) yy_X9_needHour lm_RX9_175 rfl hl.1 (by decide) (by decide) (by decide) rfl (Nat.le_of_ble_eq_true rfl) dX9_open_1 hnt (by decide)
  · refine x_SVn E hw (kX9_needHour (l := l) (G := G) (Z := Z) ht h1) yy_X9_needHour lm_RX9_175 rfl hl.1 (by decide) (by decide) (by decide) rfl (Nat.le_of_ble_eq_true rfl) dX9_open_1 (fun H locs hw => ?_)
    refine lv_iload_n hx hb dX9_open_4 rfl (lv_at hl 2 rfl) ?_
    refine lv_if_eq (tgt := 23) hx hb dX9_open_5 (by decide) (fun c9 => ?_) (fun c9 => ?_)
    · rw [if_pos c9] at h
      refine lv_aload_n hx hb dX9_open_23 rfl (lv_at hl 0 rfl) ?_
      refine r_gr E hw 0 1 2 (N := 11) (C := RX9) (T := TX9) (by decide) rfl rfl (by decide) rfl iw_9 rfl lf_RX9_19 dX9_open_24 ?_
      refine lv_aload_n hx hb dX9_open_27 rfl (lv_at hl 0 rfl) ?_
      refine r_gr E hw 0 4 17 (N := 11) (C := RX9) (T := TX9) (by decide) rfl rfl (by decide) rfl iw_9 rfl lf_RX9_32 dX9_open_28 ?_
      refine lv_iload_n hx hb dX9_open_31 rfl (lv_at hl 1 rfl) ?_
      obtain ⟨y4, V5, h3, h⟩ := ob_I_some h
      refine g_SI E hw (kX5_openBits (l := l) (G := G) hB ⟨by decide, by decide⟩ h3) yy_X5_openBits lm_RX9_245 rfl hl.1 (by decide) (by decide) (by decide) rfl (Nat.le_of_ble_eq_true rfl) dX9_open_32 (fun H locs hw => ?_)
      have h := Option.some.inj h
      subst h
      rw [kr]
      exact x_ri E hw (by decide) (by decide) dX9_open_35
    · rw [if_neg c9] at h
      refine lv_aload_n hx hb dX9_open_8 rfl (lv_at hl 0 rfl) ?_
      refine r_gr E hw 0 1 2 (N := 11) (C := RX9) (T := TX9) (by decide) rfl rfl (by decide) rfl iw_9 rfl lf_RX9_19 dX9_open_9 ?_
      refine lv_aload_n hx hb dX9_open_12 rfl (lv_at hl 0 rfl) ?_
      refine r_gr E hw 0 4 17 (N := 11) (C := RX9) (T := TX9) (by decide) rfl rfl (by decide) rfl iw_9 rfl lf_RX9_32 dX9_open_13 ?_
      refine lv_iload_n hx hb dX9_open_16 rfl (lv_at hl 1 rfl) ?_
      obtain ⟨y7, V8, h6, h⟩ := ob_I_some h
      refine g_SI E hw (kX5_darkBits (l := l) (G := G) hB ⟨by decide, by decide⟩ h6) yy_X5_darkBits lm_RX9_242 rfl hl.1 (by decide) (by decide) (by decide) rfl (Nat.le_of_ble_eq_true rfl) dX9_open_17 (fun H locs hw => ?_)
      refine lv_goto (tgt := 35) hx hb dX9_open_20 (by decide) ?_
      have h := Option.some.inj h
      subst h
      rw [kr]
      exact x_ri E hw (by decide) (by decide) dX9_open_35
/-! ===== AllSawIt.wake(II)I ===== -/
theorem dX9_wake_0 : decode cX9_wake 0 = .ok (.iload_n 1, 1) := by decide +kernel
theorem dX9_wake_1 : decode cX9_wake 1 = .ok (.invokestatic 172, 3) := by decide +kernel
theorem dX9_wake_4 : decode cX9_wake 4 = .ok (.iload_n 2, 1) := by decide +kernel
theorem dX9_wake_5 : decode cX9_wake 5 = .ok (.invokestatic 175, 3) := by decide +kernel
theorem dX9_wake_8 : decode cX9_wake 8 = .ok (.aload_n 0, 1) := by decide +kernel
theorem dX9_wake_9 : decode cX9_wake 9 = .ok (.getfield 23, 3) := by decide +kernel
theorem dX9_wake_12 : decode cX9_wake 12 = .ok (.aload_n 0, 1) := by decide +kernel
theorem dX9_wake_13 : decode cX9_wake 13 = .ok (.getfield 19, 3) := by decide +kernel
theorem dX9_wake_16 : decode cX9_wake 16 = .ok (.invokevirtual 71, 3) := by decide +kernel
theorem dX9_wake_19 : decode cX9_wake 19 = .ok (.aload_n 0, 1) := by decide +kernel
theorem dX9_wake_20 : decode cX9_wake 20 = .ok (.getfield 23, 3) := by decide +kernel
theorem dX9_wake_23 : decode cX9_wake 23 = .ok (.iconst 0, 1) := by decide +kernel
theorem dX9_wake_24 : decode cX9_wake 24 = .ok (.putfield 213, 3) := by decide +kernel
theorem dX9_wake_27 : decode cX9_wake 27 = .ok (.iconst 0, 1) := by decide +kernel
theorem dX9_wake_28 : decode cX9_wake 28 = .ok (.istore_n 3, 1) := by decide +kernel
theorem dX9_wake_29 : decode cX9_wake 29 = .ok (.iload_n 3, 1) := by decide +kernel
theorem dX9_wake_30 : decode cX9_wake 30 = .ok (.aload_n 0, 1) := by decide +kernel
theorem dX9_wake_31 : decode cX9_wake 31 = .ok (.getfield 23, 3) := by decide +kernel
theorem dX9_wake_34 : decode cX9_wake 34 = .ok (.getfield 225, 3) := by decide +kernel
theorem dX9_wake_37 : decode cX9_wake 37 = .ok (.if_icmp .ge 20, 3) := by decide +kernel
theorem dX9_wake_40 : decode cX9_wake 40 = .ok (.aload_n 0, 1) := by decide +kernel
theorem dX9_wake_41 : decode cX9_wake 41 = .ok (.getfield 23, 3) := by decide +kernel
theorem dX9_wake_44 : decode cX9_wake 44 = .ok (.iload_n 3, 1) := by decide +kernel
theorem dX9_wake_45 : decode cX9_wake 45 = .ok (.iconst 4, 1) := by decide +kernel
theorem dX9_wake_46 : decode cX9_wake 46 = .ok (.bipush 24, 2) := by decide +kernel
theorem dX9_wake_48 : decode cX9_wake 48 = .ok (.invokevirtual 218, 3) := by decide +kernel
theorem dX9_wake_51 : decode cX9_wake 51 = .ok (.iinc 3 1, 3) := by decide +kernel
theorem dX9_wake_54 : decode cX9_wake 54 = .ok (.goto (-25), 3) := by decide +kernel
theorem dX9_wake_57 : decode cX9_wake 57 = .ok (.aload_n 0, 1) := by decide +kernel
theorem dX9_wake_58 : decode cX9_wake 58 = .ok (.getfield 23, 3) := by decide +kernel
theorem dX9_wake_61 : decode cX9_wake 61 = .ok (.aload_n 0, 1) := by decide +kernel
theorem dX9_wake_62 : decode cX9_wake 62 = .ok (.getfield 32, 3) := by decide +kernel
theorem dX9_wake_65 : decode cX9_wake 65 = .ok (.iload_n 1, 1) := by decide +kernel
theorem dX9_wake_66 : decode cX9_wake 66 = .ok (.iload_n 2, 1) := by decide +kernel
theorem dX9_wake_67 : decode cX9_wake 67 = .ok (.invokestatic 190, 3) := by decide +kernel
theorem dX9_wake_70 : decode cX9_wake 70 = .ok (.istore_n 3, 1) := by decide +kernel
theorem dX9_wake_71 : decode cX9_wake 71 = .ok (.iload_n 3, 1) := by decide +kernel
theorem dX9_wake_72 : decode cX9_wake 72 = .ok (.aload_n 0, 1) := by decide +kernel
theorem dX9_wake_73 : decode cX9_wake 73 = .ok (.getfield 19, 3) := by decide +kernel
theorem dX9_wake_76 : decode cX9_wake 76 = .ok (.aload_n 0, 1) := by decide +kernel
theorem dX9_wake_77 : decode cX9_wake 77 = .ok (.getfield 32, 3) := by decide +kernel
theorem dX9_wake_80 : decode cX9_wake 80 = .ok (.iload_n 1, 1) := by decide +kernel
theorem dX9_wake_81 : decode cX9_wake 81 = .ok (.iload_n 2, 1) := by decide +kernel
theorem dX9_wake_82 : decode cX9_wake 82 = .ok (.invokestatic 190, 3) := by decide +kernel
theorem dX9_wake_85 : decode cX9_wake 85 = .ok (.iconst (-1), 1) := by decide +kernel
theorem dX9_wake_86 : decode cX9_wake 86 = .ok (.ixor, 1) := by decide +kernel
theorem dX9_wake_87 : decode cX9_wake 87 = .ok (.iand, 1) := by decide +kernel
theorem dX9_wake_88 : decode cX9_wake 88 = .ok (.ireturn, 1) := by decide +kernel
noncomputable def fX9_wake_L29 (V : VT) (u1 : Int32) (u2 : Int32) (u3 : Int32) : Option ((VT × Int32 × Int32 × Int32) ⊕ (VT × Int32 × Int32)) := if (V 3 3) ≤ u3 then (some (.inr ((V, u1, u2)))) else (ob_R (fX6_setHouse V 3 u3 (4 : Int32) (24 : Int32)) fun V9 => lt_ (u3 + (1 : Int32)) fun y10 => some (.inl (V9, u1, u2, y10)))
noncomputable def iX9_wake_L29 : (VT × Int32 × Int32 × Int32) → Option ((VT × Int32 × Int32 × Int32) ⊕ (VT × Int32 × Int32)) := fun q => fX9_wake_L29 (q.1) (q.2.1) (q.2.2.1) (q.2.2.2)
noncomputable def fX9_wake (V : VT) (x1 : Int32) (x2 : Int32) : Option ((String ⊕ Int32) × VT) := ob_N (fX9_needPlace V x1) (fun E2 => some (.inl E2, V)) (ob_N (fX9_needHour V x2) (fun E4 => some (.inl E4, V)) (ob_R (fX6_copyFrom V 3 2) fun V6 => lt_ (va_up V6 3 (upd (V6 3) 6 (0 : Int32))) fun V7 => ob_R (it_ (iX9_wake_L29) FV (V7, x1, x2, (0 : Int32))) fun x13 => (dt3_ x13 fun V16 y14 y15 => ob_I (fX5_witnessBits V16 3 y14 y15) fun y18 V19 => ob_I (fX5_witnessBits V19 2 y14 y15) fun y21 V22 => some (.inr (y18 &&& (y21 ^^^ (-1 : Int32))), V22))))
set_option maxHeartbeats 4000000 in
set_option maxRecDepth 100000 in
theorem wX9_wake_L29 {p : Program} {l : Launch} {e : Env} {s : State} {m : MethodId} {args : Array Value} {below : List Frame} {meth : Method} {c : Code} {G : GT} {Z : Nat → Nat × Nat} {Q : State → Prop} (E : En p s m args c meth cX9_wake 4 RX9 (some .int) G (SG Z)) (ht : l.stackTraces = false) (hnt : ∀ x ∈ c.exceptionTable.toList, False) {x : (VT × Int32 × Int32)} (ke : ∀ q : (VT × Int32 × Int32), x = q → ∀ (H : Heap) (locs : List Loc) (ls : Array Slot), HW G s.heap (q.1) H locs → lv_has ls 4 [(0, .ref (G.2.2 0)), (1, .int (q.2.1)), (2, .int (q.2.2))] → W p l e (rmX 9 2) s m args below meth c H locs 2 12 Q (F0 m 57 ls [])) : ∀ (n : Nat) (q : (VT × Int32 × Int32 × Int32)), it_ (iX9_wake_L29) n q = some x → ∀ (H : Heap) (locs : List Loc) (ls : Array Slot), HW G s.heap (q.1) H locs → lv_has ls 4 [(0, .ref (G.2.2 0)), (1, .int (q.2.1)), (2, .int (q.2.2.1)), (3, .int (q.2.2.2))] → W p l e (rmX 9 2) s m args below meth c H locs 2 12 Q (F0 m 29 ls []) := by
  have hx := en_x E
  have hb := en_b E
  have hB := en_B E
  refine it_W (fun q : (VT × Int32 × Int32 × Int32) => ∀ (H : Heap) (locs : List Loc) (ls : Array Slot), HW G s.heap (q.1) H locs → lv_has ls 4 [(0, .ref (G.2.2 0)), (1, .int (q.2.1)), (2, .int (q.2.2.1)), (3, .int (q.2.2.2))] → W p l e (rmX 9 2) s m args below meth c H locs 2 12 Q (F0 m 29 ls [])) x ?_
  intro q r h kc kx
  obtain ⟨V, u1, u2, u3⟩ := q
  intro H locs ls hw hl
  have h : fX9_wake_L29 V u1 u2 u3 = some r := h
  have hw : HW G s.heap V H locs := hw
  have hl : lv_has ls 4 [(0, .ref (G.2.2 0)), (1, .int u1), (2, .int u2), (3, .int u3)] := hl
  have ke : ∀ q : (VT × Int32 × Int32), r = .inr (q) → ∀ (H : Heap) (locs : List Loc) (ls : Array Slot), HW G s.heap (q.1) H locs → lv_has ls 4 [(0, .ref (G.2.2 0)), (1, .int (q.2.1)), (2, .int (q.2.2))] → W p l e (rmX 9 2) s m args below meth c H locs 2 12 Q (F0 m 57 ls []) := fun q e => ke q (kx _ e).symm
  unfold fX9_wake_L29 at h
  refine lv_iload_n hx hb dX9_wake_29 rfl (lv_at hl 3 rfl) ?_
  refine lv_aload_n hx hb dX9_wake_30 rfl (lv_at hl 0 rfl) ?_
  refine r_gr E hw 0 2 3 (N := 11) (C := RX9) (T := TX9) (by decide) rfl rfl (by decide) rfl iw_9 rfl lf_RX9_23 dX9_wake_31 ?_
  refine r_giN E hw 3 3 (N := 13) (C := RX6) (T := TX6) (by decide) rfl rfl (by decide) rfl iw_6 rfl lf_RX9_225 dX9_wake_34 ?_
  refine lv_icmp_ge (tgt := 57) hx hb dX9_wake_37 (by decide) (fun c11 => ?_) (fun c11 => ?_)
  · rw [if_pos c11] at h
    exact ke (V, u1, u2) (Option.some.inj h).symm H locs ls hw (lv_sub hl [0, 1, 2] rfl)
  · rw [if_neg c11] at h
    refine lv_aload_n hx hb dX9_wake_40 rfl (lv_at hl 0 rfl) ?_
    refine r_gr E hw 0 2 3 (N := 11) (C := RX9) (T := TX9) (by decide) rfl rfl (by decide) rfl iw_9 rfl lf_RX9_23 dX9_wake_41 ?_
    refine lv_iload_n hx hb dX9_wake_44 rfl (lv_at hl 3 rfl) ?_
    refine lv_iconst (v := (4 : Int32)) hx hb dX9_wake_45 (by decide) ?_
    refine lv_bipush (v := (24 : Int32)) hx hb dX9_wake_46 (by decide) ?_
    obtain ⟨V9, h8, h⟩ := ob_R_some h
    refine g_VV E hw (kX6_setHouse (l := l) (G := G) hB ⟨by decide, by decide⟩ h8) yy_X6_setHouse lm_RX9_218 rfl (by decide) rfl rfl hl.1 (by decide) (by decide) (by decide) rfl (Nat.le_of_ble_eq_true rfl) dX9_wake_48 (fun H locs hw => ?_)
    obtain ⟨y10, ey10, h⟩ := lt_some h
    refine lv_iinc (v := y10) (lv' := [(3, .int y10), (0, .ref (G.2.2 0)), (1, .int u1), (2, .int u2)]) hx hb dX9_wake_51 hl (k := 3) rfl (by rw [ey10]; rfl) (by decide) rfl (fun ls hl => ?_)
    refine lv_goto (tgt := 29) hx hb dX9_wake_54 (by decide) ?_
    exact kc (V9, u1, u2, y10) (Option.some.inj h).symm H locs ls hw (lv_sub hl [1, 2, 3, 0] rfl)
set_option maxHeartbeats 4000000 in
set_option maxRecDepth 100000 in
theorem kX9_wake {l : Launch} {G : GT} {Z : Nat → Nat × Nat} (ht : l.stackTraces = false) {V : VT} {x1 : Int32} {x2 : Int32} {r : ((String ⊕ Int32) × VT)} (h : fX9_wake V x1 x2 = some r) : XI l G (SG Z) yX9_wake (.code yX9_wake cX9_wake 4 (some .int)) 9 2 [.ref (G.2.2 0), .int x1, .int x2] V r.1 r.2 := by
  intro sz
  refine xmet_of (Qs := fun sz => XQ G sz r.1 r.2) (Xs := fun sz => XE G sz r.1 r.2) (SG_ok Z) (by decide) (Nat.le_of_ble_eq_true rfl) ?_ sz
  intro p e s m args below meth c ls E hnt hw hl
  have hx := en_x E
  have hb := en_b E
  have hB := en_B E
  generalize hQ : vx_MQ _ _ _ _ _ _ _ _ = Q
  have kr : Q = vx_MQ below (XQ G s.heap.size r.1 r.2) (XE G s.heap.size r.1 r.2) args s 2 12 (gA G s.heap.size) := hQ.symm
  have hl : lv_has ls 4 [(0, .ref (G.2.2 0)), (1, .int x1), (2, .int x2)] := hl
  obtain ⟨H, eH⟩ : ∃ H, H = s.heap := ⟨_, rfl⟩
  obtain ⟨locs, elocs⟩ : ∃ z : List Loc, z = [] := ⟨_, rfl⟩
  have hw : HW G s.heap V H locs := by rw [eH, elocs]; exact hw
  show W p l e _ s m args below meth c s.heap [] 0 0 Q (F0 m 0 ls [])
  rw [← eH, ← elocs]
  unfold fX9_wake at h
  refine lv_iload_n hx hb dX9_wake_0 rfl (lv_at hl 1 rfl) ?_
  rcases ob_N_some h with ⟨E2, h1, h⟩ | ⟨h1, h⟩
  · have h := Option.some.inj h
    subst h
    rw [kr]
    exact x_SVe E hw (kX9_needPlace (l := l) (G := G) (Z := Z) ht h1) yy_X9_needPlace lm_RX9_172 rfl hl.1 (by decide) (by decide) (by decide) rfl (Nat.le_of_ble_eq_true rfl) dX9_wake_1 hnt (by decide)
  · refine x_SVn E hw (kX9_needPlace (l := l) (G := G) (Z := Z) ht h1) yy_X9_needPlace lm_RX9_172 rfl hl.1 (by decide) (by decide) (by decide) rfl (Nat.le_of_ble_eq_true rfl) dX9_wake_1 (fun H locs hw => ?_)
    refine lv_iload_n hx hb dX9_wake_4 rfl (lv_at hl 2 rfl) ?_
    rcases ob_N_some h with ⟨E4, h3, h⟩ | ⟨h3, h⟩
    · have h := Option.some.inj h
      subst h
      rw [kr]
      exact x_SVe E hw (kX9_needHour (l := l) (G := G) (Z := Z) ht h3) yy_X9_needHour lm_RX9_175 rfl hl.1 (by decide) (by decide) (by decide) rfl (Nat.le_of_ble_eq_true rfl) dX9_wake_5 hnt (by decide)
    · refine x_SVn E hw (kX9_needHour (l := l) (G := G) (Z := Z) ht h3) yy_X9_needHour lm_RX9_175 rfl hl.1 (by decide) (by decide) (by decide) rfl (Nat.le_of_ble_eq_true rfl) dX9_wake_5 (fun H locs hw => ?_)
      refine lv_aload_n hx hb dX9_wake_8 rfl (lv_at hl 0 rfl) ?_
      refine r_gr E hw 0 2 3 (N := 11) (C := RX9) (T := TX9) (by decide) rfl rfl (by decide) rfl iw_9 rfl lf_RX9_23 dX9_wake_9 ?_
      refine lv_aload_n hx hb dX9_wake_12 rfl (lv_at hl 0 rfl) ?_
      refine r_gr E hw 0 1 2 (N := 11) (C := RX9) (T := TX9) (by decide) rfl rfl (by decide) rfl iw_9 rfl lf_RX9_19 dX9_wake_13 ?_
      obtain ⟨V6, h5, h⟩ := ob_R_some h
      refine g_VV E hw (kX6_copyFrom (l := l) (G := G) hB ⟨by decide, by decide⟩ ⟨by decide, by decide⟩ h5) yy_X6_copyFrom lm_RX9_71 rfl (by decide) rfl rfl hl.1 (by decide) (by decide) (by decide) rfl (Nat.le_of_ble_eq_true rfl) dX9_wake_16 (fun H locs hw => ?_)
      refine lv_aload_n hx hb dX9_wake_19 rfl (lv_at hl 0 rfl) ?_
      refine r_gr E hw 0 2 3 (N := 11) (C := RX9) (T := TX9) (by decide) rfl rfl (by decide) rfl iw_9 rfl lf_RX9_23 dX9_wake_20 ?_
      refine lv_iconst (v := (0 : Int32)) hx hb dX9_wake_23 (by decide) ?_
      obtain ⟨V7, eV7, h⟩ := lt_some h
      refine r_piN E hw 3 6 (N := 13) (C := RX6) (T := TX6) (ty0 := tyX6) (ty := .int) (by decide) rfl rfl (by decide) rfl iw_6 rfl tyX6_ok nmX6 rfl rfl (vp_nar_int _) rfl lf_RX9_213 eV7 dX9_wake_24 (fun H locs hw => ?_)
      refine lv_iconst (v := (0 : Int32)) hx hb dX9_wake_27 (by decide) ?_
      refine lv_istore_n (lv' := [(3, .int (0 : Int32)), (0, .ref (G.2.2 0)), (1, .int x1), (2, .int x2)]) hx hb dX9_wake_28 rfl hl (by decide) rfl (fun ls hl => ?_)
      obtain ⟨x13, h12, h⟩ := ob_R_some h
      obtain ⟨V16, y14, y15⟩ := x13
      refine wX9_wake_L29 E ht hnt (fun q e H locs ls hw hl => ?_) FV (V7, x1, x2, (0 : Int32)) h12 H locs ls hw (lv_sub hl [1, 2, 3, 0] rfl)
      subst e
      have hw : HW G s.heap V16 H locs := hw
      have hl : lv_has ls 4 [(0, .ref (G.2.2 0)), (1, .int y14), (2, .int y15)] := hl
      have h := dt3_eq h
      refine lv_aload_n hx hb dX9_wake_57 rfl (lv_at hl 0 rfl) ?_
      refine r_gr E hw 0 2 3 (N := 11) (C := RX9) (T := TX9) (by decide) rfl rfl (by decide) rfl iw_9 rfl lf_RX9_23 dX9_wake_58 ?_
      refine lv_aload_n hx hb dX9_wake_61 rfl (lv_at hl 0 rfl) ?_
      refine r_gr E hw 0 4 17 (N := 11) (C := RX9) (T := TX9) (by decide) rfl rfl (by decide) rfl iw_9 rfl lf_RX9_32 dX9_wake_62 ?_
      refine lv_iload_n hx hb dX9_wake_65 rfl (lv_at hl 1 rfl) ?_
      refine lv_iload_n hx hb dX9_wake_66 rfl (lv_at hl 2 rfl) ?_
      obtain ⟨y18, V19, h17, h⟩ := ob_I_some h
      refine g_SI E hw (kX5_witnessBits (l := l) (G := G) hB ⟨by decide, by decide⟩ h17) yy_X5_witnessBits lm_RX9_190 rfl hl.1 (by decide) (by decide) (by decide) rfl (Nat.le_of_ble_eq_true rfl) dX9_wake_67 (fun H locs hw => ?_)
      refine lv_istore_n (lv' := [(3, .int y18), (0, .ref (G.2.2 0)), (1, .int y14), (2, .int y15)]) hx hb dX9_wake_70 rfl hl (by decide) rfl (fun ls hl => ?_)
      refine lv_iload_n hx hb dX9_wake_71 rfl (lv_at hl 0 rfl) ?_
      refine lv_aload_n hx hb dX9_wake_72 rfl (lv_at hl 1 rfl) ?_
      refine r_gr E hw 0 1 2 (N := 11) (C := RX9) (T := TX9) (by decide) rfl rfl (by decide) rfl iw_9 rfl lf_RX9_19 dX9_wake_73 ?_
      refine lv_aload_n hx hb dX9_wake_76 rfl (lv_at hl 1 rfl) ?_
      refine r_gr E hw 0 4 17 (N := 11) (C := RX9) (T := TX9) (by decide) rfl rfl (by decide) rfl iw_9 rfl lf_RX9_32 dX9_wake_77 ?_
      refine lv_iload_n hx hb dX9_wake_80 rfl (lv_at hl 2 rfl) ?_
      refine lv_iload_n hx hb dX9_wake_81 rfl (lv_at hl 3 rfl) ?_
      obtain ⟨y21, V22, h20, h⟩ := ob_I_some h
      refine g_SI E hw (kX5_witnessBits (l := l) (G := G) hB ⟨by decide, by decide⟩ h20) yy_X5_witnessBits lm_RX9_190 rfl hl.1 (by decide) (by decide) (by decide) rfl (Nat.le_of_ble_eq_true rfl) dX9_wake_82 (fun H locs hw => ?_)
      refine lv_iconst (v := (-1 : Int32)) hx hb dX9_wake_85 (by decide) ?_
      refine lv_ixor hx hb dX9_wake_86 ?_
      refine lv_iand hx hb dX9_wake_87 ?_
      have h := Option.some.inj h
      subst h
      rw [kr]
      exact x_ri E hw (by decide) (by decide) dX9_wake_88
/-! ===== AllSawIt.mirrors(II)I ===== -/
theorem dX9_mirrors_0 : decode cX9_mirrors 0 = .ok (.iload_n 1, 1) := by decide +kernel
theorem dX9_mirrors_1 : decode cX9_mirrors 1 = .ok (.invokestatic 172, 3) := by decide +kernel
theorem dX9_mirrors_4 : decode cX9_mirrors 4 = .ok (.iload_n 2, 1) := by decide +kernel
theorem dX9_mirrors_5 : decode cX9_mirrors 5 = .ok (.invokestatic 175, 3) := by decide +kernel
theorem dX9_mirrors_8 : decode cX9_mirrors 8 = .ok (.aload_n 0, 1) := by decide +kernel
theorem dX9_mirrors_9 : decode cX9_mirrors 9 = .ok (.getfield 23, 3) := by decide +kernel
theorem dX9_mirrors_12 : decode cX9_mirrors 12 = .ok (.aload_n 0, 1) := by decide +kernel
theorem dX9_mirrors_13 : decode cX9_mirrors 13 = .ok (.getfield 19, 3) := by decide +kernel
theorem dX9_mirrors_16 : decode cX9_mirrors 16 = .ok (.invokevirtual 71, 3) := by decide +kernel
theorem dX9_mirrors_19 : decode cX9_mirrors 19 = .ok (.iconst 0, 1) := by decide +kernel
theorem dX9_mirrors_20 : decode cX9_mirrors 20 = .ok (.istore_n 3, 1) := by decide +kernel
theorem dX9_mirrors_21 : decode cX9_mirrors 21 = .ok (.iconst 0, 1) := by decide +kernel
theorem dX9_mirrors_22 : decode cX9_mirrors 22 = .ok (.istore 4, 2) := by decide +kernel
theorem dX9_mirrors_24 : decode cX9_mirrors 24 = .ok (.iload 4, 2) := by decide +kernel
theorem dX9_mirrors_26 : decode cX9_mirrors 26 = .ok (.aload_n 0, 1) := by decide +kernel
theorem dX9_mirrors_27 : decode cX9_mirrors 27 = .ok (.getfield 23, 3) := by decide +kernel
theorem dX9_mirrors_30 : decode cX9_mirrors 30 = .ok (.getfield 225, 3) := by decide +kernel
theorem dX9_mirrors_33 : decode cX9_mirrors 33 = .ok (.if_icmp .ge 32, 3) := by decide +kernel
theorem dX9_mirrors_36 : decode cX9_mirrors 36 = .ok (.aload_n 0, 1) := by decide +kernel
theorem dX9_mirrors_37 : decode cX9_mirrors 37 = .ok (.iload 4, 2) := by decide +kernel
theorem dX9_mirrors_39 : decode cX9_mirrors 39 = .ok (.iload_n 1, 1) := by decide +kernel
theorem dX9_mirrors_40 : decode cX9_mirrors 40 = .ok (.iload_n 2, 1) := by decide +kernel
theorem dX9_mirrors_41 : decode cX9_mirrors 41 = .ok (.invokevirtual 252, 3) := by decide +kernel
theorem dX9_mirrors_44 : decode cX9_mirrors 44 = .ok (.istore 5, 2) := by decide +kernel
theorem dX9_mirrors_46 : decode cX9_mirrors 46 = .ok (.iload 5, 2) := by decide +kernel
theorem dX9_mirrors_48 : decode cX9_mirrors 48 = .ok (.iconst (-1), 1) := by decide +kernel
theorem dX9_mirrors_49 : decode cX9_mirrors 49 = .ok (.if_icmp .ne 5, 3) := by decide +kernel
theorem dX9_mirrors_52 : decode cX9_mirrors 52 = .ok (.iconst (-1), 1) := by decide +kernel
theorem dX9_mirrors_53 : decode cX9_mirrors 53 = .ok (.ireturn, 1) := by decide +kernel
theorem dX9_mirrors_54 : decode cX9_mirrors 54 = .ok (.iload_n 3, 1) := by decide +kernel
theorem dX9_mirrors_55 : decode cX9_mirrors 55 = .ok (.iload 5, 2) := by decide +kernel
theorem dX9_mirrors_57 : decode cX9_mirrors 57 = .ok (.iadd, 1) := by decide +kernel
theorem dX9_mirrors_58 : decode cX9_mirrors 58 = .ok (.istore_n 3, 1) := by decide +kernel
theorem dX9_mirrors_59 : decode cX9_mirrors 59 = .ok (.iinc 4 1, 3) := by decide +kernel
theorem dX9_mirrors_62 : decode cX9_mirrors 62 = .ok (.goto (-38), 3) := by decide +kernel
theorem dX9_mirrors_65 : decode cX9_mirrors 65 = .ok (.iload_n 3, 1) := by decide +kernel
theorem dX9_mirrors_66 : decode cX9_mirrors 66 = .ok (.ireturn, 1) := by decide +kernel
noncomputable def fX9_mirrors_L24 (V : VT) (u1 : Int32) (u2 : Int32) (u3 : Int32) (u4 : Int32) : Option ((VT × Int32 × Int32 × Int32 × Int32) ⊕ ((String ⊕ Int32) × VT)) := if (V 3 3) ≤ u4 then (some (.inr ((.inr u3, V)))) else (ob_I (fX9_moreMirrors V u4 u1 u2) fun y8 V9 => if y8 = (-1 : Int32) then (some (.inr ((.inr (-1 : Int32), V9)))) else (lt_ (u3 + y8) fun y10 => lt_ (u4 + (1 : Int32)) fun y11 => some (.inl (V9, u1, u2, y10, y11))))
noncomputable def iX9_mirrors_L24 : (VT × Int32 × Int32 × Int32 × Int32) → Option ((VT × Int32 × Int32 × Int32 × Int32) ⊕ ((String ⊕ Int32) × VT)) := fun q => fX9_mirrors_L24 (q.1) (q.2.1) (q.2.2.1) (q.2.2.2.1) (q.2.2.2.2)
noncomputable def fX9_mirrors (V : VT) (x1 : Int32) (x2 : Int32) : Option ((String ⊕ Int32) × VT) := ob_N (fX9_needPlace V x1) (fun E2 => some (.inl E2, V)) (ob_N (fX9_needHour V x2) (fun E4 => some (.inl E4, V)) (ob_R (fX6_copyFrom V 3 2) fun V6 => ob_R (it_ (iX9_mirrors_L24) FV (V6, x1, x2, (0 : Int32), (0 : Int32))) fun x15 => some x15))
set_option maxHeartbeats 4000000 in
set_option maxRecDepth 100000 in
theorem wX9_mirrors_L24 {p : Program} {l : Launch} {e : Env} {s : State} {m : MethodId} {args : Array Value} {below : List Frame} {meth : Method} {c : Code} {G : GT} {Z : Nat → Nat × Nat} {Q : State → Prop} (E : En p s m args c meth cX9_mirrors 6 RX9 (some .int) G (SG Z)) (ht : l.stackTraces = false) (hnt : ∀ x ∈ c.exceptionTable.toList, False) {x : ((String ⊕ Int32) × VT)} (kr : ∀ q : ((String ⊕ Int32) × VT), x = q → Q = vx_MQ below (XQ G s.heap.size q.1 q.2) (XE G s.heap.size q.1 q.2) args s 2 12 (gA G s.heap.size)) : ∀ (n : Nat) (q : (VT × Int32 × Int32 × Int32 × Int32)), it_ (iX9_mirrors_L24) n q = some x → ∀ (H : Heap) (locs : List Loc) (ls : Array Slot), HW G s.heap (q.1) H locs → lv_has ls 6 [(0, .ref (G.2.2 0)), (1, .int (q.2.1)), (2, .int (q.2.2.1)), (3, .int (q.2.2.2.1)), (4, .int (q.2.2.2.2))] → W p l e (rmX 9 2) s m args below meth c H locs 2 12 Q (F0 m 24 ls []) := by
  have hx := en_x E
  have hb := en_b E
  have hB := en_B E
  refine it_W (fun q : (VT × Int32 × Int32 × Int32 × Int32) => ∀ (H : Heap) (locs : List Loc) (ls : Array Slot), HW G s.heap (q.1) H locs → lv_has ls 6 [(0, .ref (G.2.2 0)), (1, .int (q.2.1)), (2, .int (q.2.2.1)), (3, .int (q.2.2.2.1)), (4, .int (q.2.2.2.2))] → W p l e (rmX 9 2) s m args below meth c H locs 2 12 Q (F0 m 24 ls [])) x ?_
  intro q r h kc kx
  obtain ⟨V, u1, u2, u3, u4⟩ := q
  intro H locs ls hw hl
  have h : fX9_mirrors_L24 V u1 u2 u3 u4 = some r := h
  have hw : HW G s.heap V H locs := hw
  have hl : lv_has ls 6 [(0, .ref (G.2.2 0)), (1, .int u1), (2, .int u2), (3, .int u3), (4, .int u4)] := hl
  have kr : ∀ q : ((String ⊕ Int32) × VT), r = .inr (q) → Q = vx_MQ below (XQ G s.heap.size q.1 q.2) (XE G s.heap.size q.1 q.2) args s 2 12 (gA G s.heap.size) := fun q e => kr q (kx _ e).symm
  unfold fX9_mirrors_L24 at h
  refine lv_iload hx hb dX9_mirrors_24 (lv_at hl 4 rfl) ?_
  refine lv_aload_n hx hb dX9_mirrors_26 rfl (lv_at hl 0 rfl) ?_
  refine r_gr E hw 0 2 3 (N := 11) (C := RX9) (T := TX9) (by decide) rfl rfl (by decide) rfl iw_9 rfl lf_RX9_23 dX9_mirrors_27 ?_
  refine r_giN E hw 3 3 (N := 13) (C := RX6) (T := TX6) (by decide) rfl rfl (by decide) rfl iw_6 rfl lf_RX9_225 dX9_mirrors_30 ?_
  refine lv_icmp_ge (tgt := 65) hx hb dX9_mirrors_33 (by decide) (fun c13 => ?_) (fun c13 => ?_)
  · rw [if_pos c13] at h
    refine lv_iload_n hx hb dX9_mirrors_65 rfl (lv_at hl 3 rfl) ?_
    rw [kr (.inr u3, V) (Option.some.inj h).symm]
    exact x_ri E hw (by decide) (by decide) dX9_mirrors_66
  · rw [if_neg c13] at h
    refine lv_aload_n hx hb dX9_mirrors_36 rfl (lv_at hl 0 rfl) ?_
    refine lv_iload hx hb dX9_mirrors_37 (lv_at hl 4 rfl) ?_
    refine lv_iload_n hx hb dX9_mirrors_39 rfl (lv_at hl 1 rfl) ?_
    refine lv_iload_n hx hb dX9_mirrors_40 rfl (lv_at hl 2 rfl) ?_
    obtain ⟨y8, V9, h7, h⟩ := ob_I_some h
    refine g_VI E hw (kX9_moreMirrors (l := l) (G := G) hB  h7) yy_X9_moreMirrors lm_RX9_252 rfl (by decide) rfl rfl hl.1 (by decide) (by decide) (by decide) rfl (Nat.le_of_ble_eq_true rfl) dX9_mirrors_41 (fun H locs hw => ?_)
    refine lv_istore (lv' := [(5, .int y8), (0, .ref (G.2.2 0)), (1, .int u1), (2, .int u2), (3, .int u3), (4, .int u4)]) hx hb dX9_mirrors_44 hl (by decide) rfl (fun ls hl => ?_)
    refine lv_iload hx hb dX9_mirrors_46 (lv_at hl 0 rfl) ?_
    refine lv_iconst (v := (-1 : Int32)) hx hb dX9_mirrors_48 (by decide) ?_
    refine lv_icmp_ne (tgt := 54) hx hb dX9_mirrors_49 (by decide) (fun c12 => ?_) (fun c12 => ?_)
    · rw [if_neg c12] at h
      refine lv_iload_n hx hb dX9_mirrors_54 rfl (lv_at hl 4 rfl) ?_
      refine lv_iload hx hb dX9_mirrors_55 (lv_at hl 0 rfl) ?_
      refine lv_iadd hx hb dX9_mirrors_57 ?_
      obtain ⟨y10, ey10, h⟩ := lt_some h
      refine lv_eqi ey10 ?_
      refine lv_istore_n (lv' := [(3, .int y10), (5, .int y8), (0, .ref (G.2.2 0)), (1, .int u1), (2, .int u2), (4, .int u4)]) hx hb dX9_mirrors_58 rfl hl (by decide) rfl (fun ls hl => ?_)
      obtain ⟨y11, ey11, h⟩ := lt_some h
      refine lv_iinc (v := y11) (lv' := [(4, .int y11), (3, .int y10), (5, .int y8), (0, .ref (G.2.2 0)), (1, .int u1), (2, .int u2)]) hx hb dX9_mirrors_59 hl (k := 5) rfl (by rw [ey11]; rfl) (by decide) rfl (fun ls hl => ?_)
      refine lv_goto (tgt := 24) hx hb dX9_mirrors_62 (by decide) ?_
      exact kc (V9, u1, u2, y10, y11) (Option.some.inj h).symm H locs ls hw (lv_sub hl [3, 4, 5, 1, 0] rfl)
    · rw [if_pos c12] at h
      refine lv_iconst (v := (-1 : Int32)) hx hb dX9_mirrors_52 (by decide) ?_
      rw [kr (.inr (-1 : Int32), V9) (Option.some.inj h).symm]
      exact x_ri E hw (by decide) (by decide) dX9_mirrors_53
set_option maxHeartbeats 4000000 in
set_option maxRecDepth 100000 in
theorem kX9_mirrors {l : Launch} {G : GT} {Z : Nat → Nat × Nat} (ht : l.stackTraces = false) {V : VT} {x1 : Int32} {x2 : Int32} {r : ((String ⊕ Int32) × VT)} (h : fX9_mirrors V x1 x2 = some r) : XI l G (SG Z) yX9_mirrors (.code yX9_mirrors cX9_mirrors 6 (some .int)) 9 2 [.ref (G.2.2 0), .int x1, .int x2] V r.1 r.2 := by
  intro sz
  refine xmet_of (Qs := fun sz => XQ G sz r.1 r.2) (Xs := fun sz => XE G sz r.1 r.2) (SG_ok Z) (by decide) (Nat.le_of_ble_eq_true rfl) ?_ sz
  intro p e s m args below meth c ls E hnt hw hl
  have hx := en_x E
  have hb := en_b E
  have hB := en_B E
  generalize hQ : vx_MQ _ _ _ _ _ _ _ _ = Q
  have kr : Q = vx_MQ below (XQ G s.heap.size r.1 r.2) (XE G s.heap.size r.1 r.2) args s 2 12 (gA G s.heap.size) := hQ.symm
  have hl : lv_has ls 6 [(0, .ref (G.2.2 0)), (1, .int x1), (2, .int x2)] := hl
  obtain ⟨H, eH⟩ : ∃ H, H = s.heap := ⟨_, rfl⟩
  obtain ⟨locs, elocs⟩ : ∃ z : List Loc, z = [] := ⟨_, rfl⟩
  have hw : HW G s.heap V H locs := by rw [eH, elocs]; exact hw
  show W p l e _ s m args below meth c s.heap [] 0 0 Q (F0 m 0 ls [])
  rw [← eH, ← elocs]
  unfold fX9_mirrors at h
  refine lv_iload_n hx hb dX9_mirrors_0 rfl (lv_at hl 1 rfl) ?_
  rcases ob_N_some h with ⟨E2, h1, h⟩ | ⟨h1, h⟩
  · have h := Option.some.inj h
    subst h
    rw [kr]
    exact x_SVe E hw (kX9_needPlace (l := l) (G := G) (Z := Z) ht h1) yy_X9_needPlace lm_RX9_172 rfl hl.1 (by decide) (by decide) (by decide) rfl (Nat.le_of_ble_eq_true rfl) dX9_mirrors_1 hnt (by decide)
  · refine x_SVn E hw (kX9_needPlace (l := l) (G := G) (Z := Z) ht h1) yy_X9_needPlace lm_RX9_172 rfl hl.1 (by decide) (by decide) (by decide) rfl (Nat.le_of_ble_eq_true rfl) dX9_mirrors_1 (fun H locs hw => ?_)
    refine lv_iload_n hx hb dX9_mirrors_4 rfl (lv_at hl 2 rfl) ?_
    rcases ob_N_some h with ⟨E4, h3, h⟩ | ⟨h3, h⟩
    · have h := Option.some.inj h
      subst h
      rw [kr]
      exact x_SVe E hw (kX9_needHour (l := l) (G := G) (Z := Z) ht h3) yy_X9_needHour lm_RX9_175 rfl hl.1 (by decide) (by decide) (by decide) rfl (Nat.le_of_ble_eq_true rfl) dX9_mirrors_5 hnt (by decide)
    · refine x_SVn E hw (kX9_needHour (l := l) (G := G) (Z := Z) ht h3) yy_X9_needHour lm_RX9_175 rfl hl.1 (by decide) (by decide) (by decide) rfl (Nat.le_of_ble_eq_true rfl) dX9_mirrors_5 (fun H locs hw => ?_)
      refine lv_aload_n hx hb dX9_mirrors_8 rfl (lv_at hl 0 rfl) ?_
      refine r_gr E hw 0 2 3 (N := 11) (C := RX9) (T := TX9) (by decide) rfl rfl (by decide) rfl iw_9 rfl lf_RX9_23 dX9_mirrors_9 ?_
      refine lv_aload_n hx hb dX9_mirrors_12 rfl (lv_at hl 0 rfl) ?_
      refine r_gr E hw 0 1 2 (N := 11) (C := RX9) (T := TX9) (by decide) rfl rfl (by decide) rfl iw_9 rfl lf_RX9_19 dX9_mirrors_13 ?_
      obtain ⟨V6, h5, h⟩ := ob_R_some h
      refine g_VV E hw (kX6_copyFrom (l := l) (G := G) hB ⟨by decide, by decide⟩ ⟨by decide, by decide⟩ h5) yy_X6_copyFrom lm_RX9_71 rfl (by decide) rfl rfl hl.1 (by decide) (by decide) (by decide) rfl (Nat.le_of_ble_eq_true rfl) dX9_mirrors_16 (fun H locs hw => ?_)
      refine lv_iconst (v := (0 : Int32)) hx hb dX9_mirrors_19 (by decide) ?_
      refine lv_istore_n (lv' := [(3, .int (0 : Int32)), (0, .ref (G.2.2 0)), (1, .int x1), (2, .int x2)]) hx hb dX9_mirrors_20 rfl hl (by decide) rfl (fun ls hl => ?_)
      refine lv_iconst (v := (0 : Int32)) hx hb dX9_mirrors_21 (by decide) ?_
      refine lv_istore (lv' := [(4, .int (0 : Int32)), (3, .int (0 : Int32)), (0, .ref (G.2.2 0)), (1, .int x1), (2, .int x2)]) hx hb dX9_mirrors_22 hl (by decide) rfl (fun ls hl => ?_)
      obtain ⟨x15, h14, h⟩ := ob_R_some h
      have h := Option.some.inj h
      subst h
      exact wX9_mirrors_L24 E ht hnt (fun q e => by subst e; exact kr) FV (V6, x1, x2, (0 : Int32), (0 : Int32)) h14 H locs ls hw (lv_sub hl [2, 3, 4, 1, 0] rfl)
/-! ===== AllSawIt.unseen(I)I ===== -/
theorem dX9_unseen_0 : decode cX9_unseen 0 = .ok (.iload_n 1, 1) := by decide +kernel
theorem dX9_unseen_1 : decode cX9_unseen 1 = .ok (.invokestatic 172, 3) := by decide +kernel
theorem dX9_unseen_4 : decode cX9_unseen 4 = .ok (.aload_n 0, 1) := by decide +kernel
theorem dX9_unseen_5 : decode cX9_unseen 5 = .ok (.getfield 19, 3) := by decide +kernel
theorem dX9_unseen_8 : decode cX9_unseen 8 = .ok (.aload_n 0, 1) := by decide +kernel
theorem dX9_unseen_9 : decode cX9_unseen 9 = .ok (.getfield 32, 3) := by decide +kernel
theorem dX9_unseen_12 : decode cX9_unseen 12 = .ok (.iload_n 1, 1) := by decide +kernel
theorem dX9_unseen_13 : decode cX9_unseen 13 = .ok (.invokestatic 256, 3) := by decide +kernel
theorem dX9_unseen_16 : decode cX9_unseen 16 = .ok (.ireturn, 1) := by decide +kernel
noncomputable def fX9_unseen (V : VT) (x1 : Int32) : Option ((String ⊕ Int32) × VT) := ob_N (fX9_needPlace V x1) (fun E2 => some (.inl E2, V)) (ob_I (fX5_longestUnseen V 2 x1) fun y4 V5 => some (.inr y4, V5))
set_option maxHeartbeats 4000000 in
set_option maxRecDepth 100000 in
theorem kX9_unseen {l : Launch} {G : GT} {Z : Nat → Nat × Nat} (ht : l.stackTraces = false) {V : VT} {x1 : Int32} {r : ((String ⊕ Int32) × VT)} (h : fX9_unseen V x1 = some r) : XI l G (SG Z) yX9_unseen (.code yX9_unseen cX9_unseen 2 (some .int)) 9 1 [.ref (G.2.2 0), .int x1] V r.1 r.2 := by
  intro sz
  refine xmet_of (Qs := fun sz => XQ G sz r.1 r.2) (Xs := fun sz => XE G sz r.1 r.2) (SG_ok Z) (by decide) (Nat.le_of_ble_eq_true rfl) ?_ sz
  intro p e s m args below meth c ls E hnt hw hl
  have hx := en_x E
  have hb := en_b E
  have hB := en_B E
  generalize hQ : vx_MQ _ _ _ _ _ _ _ _ = Q
  have kr : Q = vx_MQ below (XQ G s.heap.size r.1 r.2) (XE G s.heap.size r.1 r.2) args s 1 6 (gA G s.heap.size) := hQ.symm
  have hl : lv_has ls 2 [(0, .ref (G.2.2 0)), (1, .int x1)] := hl
  obtain ⟨H, eH⟩ : ∃ H, H = s.heap := ⟨_, rfl⟩
  obtain ⟨locs, elocs⟩ : ∃ z : List Loc, z = [] := ⟨_, rfl⟩
  have hw : HW G s.heap V H locs := by rw [eH, elocs]; exact hw
  show W p l e _ s m args below meth c s.heap [] 0 0 Q (F0 m 0 ls [])
  rw [← eH, ← elocs]
  unfold fX9_unseen at h
  refine lv_iload_n hx hb dX9_unseen_0 rfl (lv_at hl 1 rfl) ?_
  rcases ob_N_some h with ⟨E2, h1, h⟩ | ⟨h1, h⟩
  · have h := Option.some.inj h
    subst h
    rw [kr]
    exact x_SVe E hw (kX9_needPlace (l := l) (G := G) (Z := Z) ht h1) yy_X9_needPlace lm_RX9_172 rfl hl.1 (by decide) (by decide) (by decide) rfl (Nat.le_of_ble_eq_true rfl) dX9_unseen_1 hnt (by decide)
  · refine x_SVn E hw (kX9_needPlace (l := l) (G := G) (Z := Z) ht h1) yy_X9_needPlace lm_RX9_172 rfl hl.1 (by decide) (by decide) (by decide) rfl (Nat.le_of_ble_eq_true rfl) dX9_unseen_1 (fun H locs hw => ?_)
    refine lv_aload_n hx hb dX9_unseen_4 rfl (lv_at hl 0 rfl) ?_
    refine r_gr E hw 0 1 2 (N := 11) (C := RX9) (T := TX9) (by decide) rfl rfl (by decide) rfl iw_9 rfl lf_RX9_19 dX9_unseen_5 ?_
    refine lv_aload_n hx hb dX9_unseen_8 rfl (lv_at hl 0 rfl) ?_
    refine r_gr E hw 0 4 17 (N := 11) (C := RX9) (T := TX9) (by decide) rfl rfl (by decide) rfl iw_9 rfl lf_RX9_32 dX9_unseen_9 ?_
    refine lv_iload_n hx hb dX9_unseen_12 rfl (lv_at hl 1 rfl) ?_
    obtain ⟨y4, V5, h3, h⟩ := ob_I_some h
    refine g_SI E hw (kX5_longestUnseen (l := l) (G := G) hB ⟨by decide, by decide⟩ h3) yy_X5_longestUnseen lm_RX9_256 rfl hl.1 (by decide) (by decide) (by decide) rfl (Nat.le_of_ble_eq_true rfl) dX9_unseen_13 (fun H locs hw => ?_)
    have h := Option.some.inj h
    subst h
    rw [kr]
    exact x_ri E hw (by decide) (by decide) dX9_unseen_16
/-! ===== AllSawIt.thief(III)I ===== -/
theorem dX9_thief_0 : decode cX9_thief 0 = .ok (.iload_n 1, 1) := by decide +kernel
theorem dX9_thief_1 : decode cX9_thief 1 = .ok (.invokestatic 172, 3) := by decide +kernel
theorem dX9_thief_4 : decode cX9_thief 4 = .ok (.iload_n 2, 1) := by decide +kernel
theorem dX9_thief_5 : decode cX9_thief 5 = .ok (.invokestatic 172, 3) := by decide +kernel
theorem dX9_thief_8 : decode cX9_thief 8 = .ok (.iload_n 3, 1) := by decide +kernel
theorem dX9_thief_9 : decode cX9_thief 9 = .ok (.invokestatic 175, 3) := by decide +kernel
theorem dX9_thief_12 : decode cX9_thief 12 = .ok (.aload_n 0, 1) := by decide +kernel
theorem dX9_thief_13 : decode cX9_thief 13 = .ok (.getfield 52, 3) := by decide +kernel
theorem dX9_thief_16 : decode cX9_thief 16 = .ok (.aload_n 0, 1) := by decide +kernel
theorem dX9_thief_17 : decode cX9_thief 17 = .ok (.getfield 19, 3) := by decide +kernel
theorem dX9_thief_20 : decode cX9_thief 20 = .ok (.aload_n 0, 1) := by decide +kernel
theorem dX9_thief_21 : decode cX9_thief 21 = .ok (.getfield 32, 3) := by decide +kernel
theorem dX9_thief_24 : decode cX9_thief 24 = .ok (.iload_n 1, 1) := by decide +kernel
theorem dX9_thief_25 : decode cX9_thief 25 = .ok (.iload_n 2, 1) := by decide +kernel
theorem dX9_thief_26 : decode cX9_thief 26 = .ok (.iload_n 3, 1) := by decide +kernel
theorem dX9_thief_27 : decode cX9_thief 27 = .ok (.invokevirtual 259, 3) := by decide +kernel
theorem dX9_thief_30 : decode cX9_thief 30 = .ok (.ireturn, 1) := by decide +kernel
noncomputable def fX9_thief (V : VT) (x1 : Int32) (x2 : Int32) (x3 : Int32) : Option ((String ⊕ Int32) × VT) := ob_N (fX9_needPlace V x1) (fun E2 => some (.inl E2, V)) (ob_N (fX9_needPlace V x2) (fun E4 => some (.inl E4, V)) (ob_N (fX9_needHour V x3) (fun E6 => some (.inl E6, V)) (ob_I (fX5_fewestSights V 2 x1 x2 x3) fun y8 V9 => some (.inr y8, V9))))
set_option maxHeartbeats 4000000 in
set_option maxRecDepth 100000 in
theorem kX9_thief {l : Launch} {G : GT} {Z : Nat → Nat × Nat} (ht : l.stackTraces = false) {V : VT} {x1 : Int32} {x2 : Int32} {x3 : Int32} {r : ((String ⊕ Int32) × VT)} (h : fX9_thief V x1 x2 x3 = some r) : XI l G (SG Z) yX9_thief (.code yX9_thief cX9_thief 4 (some .int)) 9 3 [.ref (G.2.2 0), .int x1, .int x2, .int x3] V r.1 r.2 := by
  intro sz
  refine xmet_of (Qs := fun sz => XQ G sz r.1 r.2) (Xs := fun sz => XE G sz r.1 r.2) (SG_ok Z) (by decide) (Nat.le_of_ble_eq_true rfl) ?_ sz
  intro p e s m args below meth c ls E hnt hw hl
  have hx := en_x E
  have hb := en_b E
  have hB := en_B E
  generalize hQ : vx_MQ _ _ _ _ _ _ _ _ = Q
  have kr : Q = vx_MQ below (XQ G s.heap.size r.1 r.2) (XE G s.heap.size r.1 r.2) args s 3 18 (gA G s.heap.size) := hQ.symm
  have hl : lv_has ls 4 [(0, .ref (G.2.2 0)), (1, .int x1), (2, .int x2), (3, .int x3)] := hl
  obtain ⟨H, eH⟩ : ∃ H, H = s.heap := ⟨_, rfl⟩
  obtain ⟨locs, elocs⟩ : ∃ z : List Loc, z = [] := ⟨_, rfl⟩
  have hw : HW G s.heap V H locs := by rw [eH, elocs]; exact hw
  show W p l e _ s m args below meth c s.heap [] 0 0 Q (F0 m 0 ls [])
  rw [← eH, ← elocs]
  unfold fX9_thief at h
  refine lv_iload_n hx hb dX9_thief_0 rfl (lv_at hl 1 rfl) ?_
  rcases ob_N_some h with ⟨E2, h1, h⟩ | ⟨h1, h⟩
  · have h := Option.some.inj h
    subst h
    rw [kr]
    exact x_SVe E hw (kX9_needPlace (l := l) (G := G) (Z := Z) ht h1) yy_X9_needPlace lm_RX9_172 rfl hl.1 (by decide) (by decide) (by decide) rfl (Nat.le_of_ble_eq_true rfl) dX9_thief_1 hnt (by decide)
  · refine x_SVn E hw (kX9_needPlace (l := l) (G := G) (Z := Z) ht h1) yy_X9_needPlace lm_RX9_172 rfl hl.1 (by decide) (by decide) (by decide) rfl (Nat.le_of_ble_eq_true rfl) dX9_thief_1 (fun H locs hw => ?_)
    refine lv_iload_n hx hb dX9_thief_4 rfl (lv_at hl 2 rfl) ?_
    rcases ob_N_some h with ⟨E4, h3, h⟩ | ⟨h3, h⟩
    · have h := Option.some.inj h
      subst h
      rw [kr]
      exact x_SVe E hw (kX9_needPlace (l := l) (G := G) (Z := Z) ht h3) yy_X9_needPlace lm_RX9_172 rfl hl.1 (by decide) (by decide) (by decide) rfl (Nat.le_of_ble_eq_true rfl) dX9_thief_5 hnt (by decide)
    · refine x_SVn E hw (kX9_needPlace (l := l) (G := G) (Z := Z) ht h3) yy_X9_needPlace lm_RX9_172 rfl hl.1 (by decide) (by decide) (by decide) rfl (Nat.le_of_ble_eq_true rfl) dX9_thief_5 (fun H locs hw => ?_)
      refine lv_iload_n hx hb dX9_thief_8 rfl (lv_at hl 3 rfl) ?_
      rcases ob_N_some h with ⟨E6, h5, h⟩ | ⟨h5, h⟩
      · have h := Option.some.inj h
        subst h
        rw [kr]
        exact x_SVe E hw (kX9_needHour (l := l) (G := G) (Z := Z) ht h5) yy_X9_needHour lm_RX9_175 rfl hl.1 (by decide) (by decide) (by decide) rfl (Nat.le_of_ble_eq_true rfl) dX9_thief_9 hnt (by decide)
      · refine x_SVn E hw (kX9_needHour (l := l) (G := G) (Z := Z) ht h5) yy_X9_needHour lm_RX9_175 rfl hl.1 (by decide) (by decide) (by decide) rfl (Nat.le_of_ble_eq_true rfl) dX9_thief_9 (fun H locs hw => ?_)
        refine lv_aload_n hx hb dX9_thief_12 rfl (lv_at hl 0 rfl) ?_
        refine r_gr E hw 0 8 21 (N := 11) (C := RX9) (T := TX9) (by decide) rfl rfl (by decide) rfl iw_9 rfl lf_RX9_52 dX9_thief_13 ?_
        refine lv_aload_n hx hb dX9_thief_16 rfl (lv_at hl 0 rfl) ?_
        refine r_gr E hw 0 1 2 (N := 11) (C := RX9) (T := TX9) (by decide) rfl rfl (by decide) rfl iw_9 rfl lf_RX9_19 dX9_thief_17 ?_
        refine lv_aload_n hx hb dX9_thief_20 rfl (lv_at hl 0 rfl) ?_
        refine r_gr E hw 0 4 17 (N := 11) (C := RX9) (T := TX9) (by decide) rfl rfl (by decide) rfl iw_9 rfl lf_RX9_32 dX9_thief_21 ?_
        refine lv_iload_n hx hb dX9_thief_24 rfl (lv_at hl 1 rfl) ?_
        refine lv_iload_n hx hb dX9_thief_25 rfl (lv_at hl 2 rfl) ?_
        refine lv_iload_n hx hb dX9_thief_26 rfl (lv_at hl 3 rfl) ?_
        obtain ⟨y8, V9, h7, h⟩ := ob_I_some h
        refine g_VI E hw (kX5_fewestSights (l := l) (G := G) hB ⟨by decide, by decide⟩ h7) yy_X5_fewestSights lm_RX9_259 rfl (by decide) rfl rfl hl.1 (by decide) (by decide) (by decide) rfl (Nat.le_of_ble_eq_true rfl) dX9_thief_27 (fun H locs hw => ?_)
        have h := Option.some.inj h
        subst h
        rw [kr]
        exact x_ri E hw (by decide) (by decide) dX9_thief_30
/-! ===== AllSawIt.clear(II)I ===== -/
theorem dX9_clear_0 : decode cX9_clear 0 = .ok (.iload_n 1, 1) := by decide +kernel
theorem dX9_clear_1 : decode cX9_clear 1 = .ok (.invokestatic 172, 3) := by decide +kernel
theorem dX9_clear_4 : decode cX9_clear 4 = .ok (.iload_n 2, 1) := by decide +kernel
theorem dX9_clear_5 : decode cX9_clear 5 = .ok (.invokestatic 175, 3) := by decide +kernel
theorem dX9_clear_8 : decode cX9_clear 8 = .ok (.aload_n 0, 1) := by decide +kernel
theorem dX9_clear_9 : decode cX9_clear 9 = .ok (.getfield 19, 3) := by decide +kernel
theorem dX9_clear_12 : decode cX9_clear 12 = .ok (.getfield 225, 3) := by decide +kernel
theorem dX9_clear_15 : decode cX9_clear 15 = .ok (.ifCond .ne 5, 3) := by decide +kernel
theorem dX9_clear_18 : decode cX9_clear 18 = .ok (.iconst (-1), 1) := by decide +kernel
theorem dX9_clear_19 : decode cX9_clear 19 = .ok (.ireturn, 1) := by decide +kernel
theorem dX9_clear_20 : decode cX9_clear 20 = .ok (.aload_n 0, 1) := by decide +kernel
theorem dX9_clear_21 : decode cX9_clear 21 = .ok (.getfield 23, 3) := by decide +kernel
theorem dX9_clear_24 : decode cX9_clear 24 = .ok (.aload_n 0, 1) := by decide +kernel
theorem dX9_clear_25 : decode cX9_clear 25 = .ok (.getfield 19, 3) := by decide +kernel
theorem dX9_clear_28 : decode cX9_clear 28 = .ok (.invokevirtual 71, 3) := by decide +kernel
theorem dX9_clear_31 : decode cX9_clear 31 = .ok (.bipush 9, 2) := by decide +kernel
theorem dX9_clear_33 : decode cX9_clear 33 = .ok (.istore_n 3, 1) := by decide +kernel
theorem dX9_clear_34 : decode cX9_clear 34 = .ok (.iload_n 3, 1) := by decide +kernel
theorem dX9_clear_35 : decode cX9_clear 35 = .ok (.ifCond .lt 42, 3) := by decide +kernel
theorem dX9_clear_38 : decode cX9_clear 38 = .ok (.aload_n 0, 1) := by decide +kernel
theorem dX9_clear_39 : decode cX9_clear 39 = .ok (.getfield 23, 3) := by decide +kernel
theorem dX9_clear_42 : decode cX9_clear 42 = .ok (.iload_n 3, 1) := by decide +kernel
theorem dX9_clear_43 : decode cX9_clear 43 = .ok (.putfield 263, 3) := by decide +kernel
theorem dX9_clear_46 : decode cX9_clear 46 = .ok (.aload_n 0, 1) := by decide +kernel
theorem dX9_clear_47 : decode cX9_clear 47 = .ok (.getfield 23, 3) := by decide +kernel
theorem dX9_clear_50 : decode cX9_clear 50 = .ok (.aload_n 0, 1) := by decide +kernel
theorem dX9_clear_51 : decode cX9_clear 51 = .ok (.getfield 32, 3) := by decide +kernel
theorem dX9_clear_54 : decode cX9_clear 54 = .ok (.iload_n 1, 1) := by decide +kernel
theorem dX9_clear_55 : decode cX9_clear 55 = .ok (.iload_n 2, 1) := by decide +kernel
theorem dX9_clear_56 : decode cX9_clear 56 = .ok (.invokestatic 190, 3) := by decide +kernel
theorem dX9_clear_59 : decode cX9_clear 59 = .ok (.aload_n 0, 1) := by decide +kernel
theorem dX9_clear_60 : decode cX9_clear 60 = .ok (.getfield 23, 3) := by decide +kernel
theorem dX9_clear_63 : decode cX9_clear 63 = .ok (.invokevirtual 266, 3) := by decide +kernel
theorem dX9_clear_66 : decode cX9_clear 66 = .ok (.if_icmp .ne 5, 3) := by decide +kernel
theorem dX9_clear_69 : decode cX9_clear 69 = .ok (.iload_n 3, 1) := by decide +kernel
theorem dX9_clear_70 : decode cX9_clear 70 = .ok (.ireturn, 1) := by decide +kernel
theorem dX9_clear_71 : decode cX9_clear 71 = .ok (.iinc 3 (-1), 3) := by decide +kernel
theorem dX9_clear_74 : decode cX9_clear 74 = .ok (.goto (-40), 3) := by decide +kernel
theorem dX9_clear_77 : decode cX9_clear 77 = .ok (.iconst (-1), 1) := by decide +kernel
theorem dX9_clear_78 : decode cX9_clear 78 = .ok (.ireturn, 1) := by decide +kernel
noncomputable def fX9_clear_L34 (V : VT) (u1 : Int32) (u2 : Int32) (u3 : Int32) : Option ((VT × Int32 × Int32 × Int32) ⊕ ((String ⊕ Int32) × VT)) := if u3 < 0 then (some (.inr ((.inr (-1 : Int32), V)))) else (lt_ (va_up V 3 (upd (V 3) 8 u3)) fun V7 => ob_I (fX5_witnessBits V7 3 u1 u2) fun y9 V10 => ob_R (fX6_allHouses V10 3) fun y12 => if y9 = y12 then (some (.inr ((.inr u3, V10)))) else (lt_ (u3 + (-1 : Int32)) fun y13 => some (.inl (V10, u1, u2, y13))))
noncomputable def iX9_clear_L34 : (VT × Int32 × Int32 × Int32) → Option ((VT × Int32 × Int32 × Int32) ⊕ ((String ⊕ Int32) × VT)) := fun q => fX9_clear_L34 (q.1) (q.2.1) (q.2.2.1) (q.2.2.2)
noncomputable def fX9_clear (V : VT) (x1 : Int32) (x2 : Int32) : Option ((String ⊕ Int32) × VT) := ob_N (fX9_needPlace V x1) (fun E2 => some (.inl E2, V)) (ob_N (fX9_needHour V x2) (fun E4 => some (.inl E4, V)) (if (V 2 3) = 0 then (some (.inr (-1 : Int32), V)) else (ob_R (fX6_copyFrom V 3 2) fun V6 => ob_R (it_ (iX9_clear_L34) FV (V6, x1, x2, (9 : Int32))) fun x17 => some x17)))
set_option maxHeartbeats 4000000 in
set_option maxRecDepth 100000 in
theorem wX9_clear_L34 {p : Program} {l : Launch} {e : Env} {s : State} {m : MethodId} {args : Array Value} {below : List Frame} {meth : Method} {c : Code} {G : GT} {Z : Nat → Nat × Nat} {Q : State → Prop} (E : En p s m args c meth cX9_clear 4 RX9 (some .int) G (SG Z)) (ht : l.stackTraces = false) (hnt : ∀ x ∈ c.exceptionTable.toList, False) {x : ((String ⊕ Int32) × VT)} (kr : ∀ q : ((String ⊕ Int32) × VT), x = q → Q = vx_MQ below (XQ G s.heap.size q.1 q.2) (XE G s.heap.size q.1 q.2) args s 2 12 (gA G s.heap.size)) : ∀ (n : Nat) (q : (VT × Int32 × Int32 × Int32)), it_ (iX9_clear_L34) n q = some x → ∀ (H : Heap) (locs : List Loc) (ls : Array Slot), HW G s.heap (q.1) H locs → lv_has ls 4 [(0, .ref (G.2.2 0)), (1, .int (q.2.1)), (2, .int (q.2.2.1)), (3, .int (q.2.2.2))] → W p l e (rmX 9 2) s m args below meth c H locs 2 12 Q (F0 m 34 ls []) := by
  have hx := en_x E
  have hb := en_b E
  have hB := en_B E
  refine it_W (fun q : (VT × Int32 × Int32 × Int32) => ∀ (H : Heap) (locs : List Loc) (ls : Array Slot), HW G s.heap (q.1) H locs → lv_has ls 4 [(0, .ref (G.2.2 0)), (1, .int (q.2.1)), (2, .int (q.2.2.1)), (3, .int (q.2.2.2))] → W p l e (rmX 9 2) s m args below meth c H locs 2 12 Q (F0 m 34 ls [])) x ?_
  intro q r h kc kx
  obtain ⟨V, u1, u2, u3⟩ := q
  intro H locs ls hw hl
  have h : fX9_clear_L34 V u1 u2 u3 = some r := h
  have hw : HW G s.heap V H locs := hw
  have hl : lv_has ls 4 [(0, .ref (G.2.2 0)), (1, .int u1), (2, .int u2), (3, .int u3)] := hl
  have kr : ∀ q : ((String ⊕ Int32) × VT), r = .inr (q) → Q = vx_MQ below (XQ G s.heap.size q.1 q.2) (XE G s.heap.size q.1 q.2) args s 2 12 (gA G s.heap.size) := fun q e => kr q (kx _ e).symm
  unfold fX9_clear_L34 at h
  refine lv_iload_n hx hb dX9_clear_34 rfl (lv_at hl 3 rfl) ?_
  refine lv_if_lt (tgt := 77) hx hb dX9_clear_35 (by decide) (fun c15 => ?_) (fun c15 => ?_)
  · rw [if_pos c15] at h
    refine lv_iconst (v := (-1 : Int32)) hx hb dX9_clear_77 (by decide) ?_
    rw [kr (.inr (-1 : Int32), V) (Option.some.inj h).symm]
    exact x_ri E hw (by decide) (by decide) dX9_clear_78
  · rw [if_neg c15] at h
    refine lv_aload_n hx hb dX9_clear_38 rfl (lv_at hl 0 rfl) ?_
    refine r_gr E hw 0 2 3 (N := 11) (C := RX9) (T := TX9) (by decide) rfl rfl (by decide) rfl iw_9 rfl lf_RX9_23 dX9_clear_39 ?_
    refine lv_iload_n hx hb dX9_clear_42 rfl (lv_at hl 3 rfl) ?_
    obtain ⟨V7, eV7, h⟩ := lt_some h
    refine r_piN E hw 3 8 (N := 13) (C := RX6) (T := TX6) (ty0 := tyX6) (ty := .int) (by decide) rfl rfl (by decide) rfl iw_6 rfl tyX6_ok nmX6 rfl rfl (vp_nar_int _) rfl lf_RX9_263 eV7 dX9_clear_43 (fun H locs hw => ?_)
    refine lv_aload_n hx hb dX9_clear_46 rfl (lv_at hl 0 rfl) ?_
    refine r_gr E hw 0 2 3 (N := 11) (C := RX9) (T := TX9) (by decide) rfl rfl (by decide) rfl iw_9 rfl lf_RX9_23 dX9_clear_47 ?_
    refine lv_aload_n hx hb dX9_clear_50 rfl (lv_at hl 0 rfl) ?_
    refine r_gr E hw 0 4 17 (N := 11) (C := RX9) (T := TX9) (by decide) rfl rfl (by decide) rfl iw_9 rfl lf_RX9_32 dX9_clear_51 ?_
    refine lv_iload_n hx hb dX9_clear_54 rfl (lv_at hl 1 rfl) ?_
    refine lv_iload_n hx hb dX9_clear_55 rfl (lv_at hl 2 rfl) ?_
    obtain ⟨y9, V10, h8, h⟩ := ob_I_some h
    refine g_SI E hw (kX5_witnessBits (l := l) (G := G) hB ⟨by decide, by decide⟩ h8) yy_X5_witnessBits lm_RX9_190 rfl hl.1 (by decide) (by decide) (by decide) rfl (Nat.le_of_ble_eq_true rfl) dX9_clear_56 (fun H locs hw => ?_)
    refine lv_aload_n hx hb dX9_clear_59 rfl (lv_at hl 0 rfl) ?_
    refine r_gr E hw 0 2 3 (N := 11) (C := RX9) (T := TX9) (by decide) rfl rfl (by decide) rfl iw_9 rfl lf_RX9_23 dX9_clear_60 ?_
    obtain ⟨y12, h11, h⟩ := ob_R_some h
    refine g_VI E hw (kX6_allHouses (l := l) (G := G) hB ⟨by decide, by decide⟩ h11) yy_X6_allHouses lm_RX9_266 rfl (by decide) rfl rfl hl.1 (by decide) (by decide) (by decide) rfl (Nat.le_of_ble_eq_true rfl) dX9_clear_63 (fun H locs hw => ?_)
    refine lv_icmp_ne (tgt := 71) hx hb dX9_clear_66 (by decide) (fun c14 => ?_) (fun c14 => ?_)
    · rw [if_neg c14] at h
      obtain ⟨y13, ey13, h⟩ := lt_some h
      refine lv_iinc (v := y13) (lv' := [(3, .int y13), (0, .ref (G.2.2 0)), (1, .int u1), (2, .int u2)]) hx hb dX9_clear_71 hl (k := 3) rfl (by rw [ey13]; rfl) (by decide) rfl (fun ls hl => ?_)
      refine lv_goto (tgt := 34) hx hb dX9_clear_74 (by decide) ?_
      exact kc (V10, u1, u2, y13) (Option.some.inj h).symm H locs ls hw (lv_sub hl [1, 2, 3, 0] rfl)
    · rw [if_pos c14] at h
      refine lv_iload_n hx hb dX9_clear_69 rfl (lv_at hl 3 rfl) ?_
      rw [kr (.inr u3, V10) (Option.some.inj h).symm]
      exact x_ri E hw (by decide) (by decide) dX9_clear_70
set_option maxHeartbeats 4000000 in
set_option maxRecDepth 100000 in
theorem kX9_clear {l : Launch} {G : GT} {Z : Nat → Nat × Nat} (ht : l.stackTraces = false) {V : VT} {x1 : Int32} {x2 : Int32} {r : ((String ⊕ Int32) × VT)} (h : fX9_clear V x1 x2 = some r) : XI l G (SG Z) yX9_clear (.code yX9_clear cX9_clear 4 (some .int)) 9 2 [.ref (G.2.2 0), .int x1, .int x2] V r.1 r.2 := by
  intro sz
  refine xmet_of (Qs := fun sz => XQ G sz r.1 r.2) (Xs := fun sz => XE G sz r.1 r.2) (SG_ok Z) (by decide) (Nat.le_of_ble_eq_true rfl) ?_ sz
  intro p e s m args below meth c ls E hnt hw hl
  have hx := en_x E
  have hb := en_b E
  have hB := en_B E
  generalize hQ : vx_MQ _ _ _ _ _ _ _ _ = Q
  have kr : Q = vx_MQ below (XQ G s.heap.size r.1 r.2) (XE G s.heap.size r.1 r.2) args s 2 12 (gA G s.heap.size) := hQ.symm
  have hl : lv_has ls 4 [(0, .ref (G.2.2 0)), (1, .int x1), (2, .int x2)] := hl
  obtain ⟨H, eH⟩ : ∃ H, H = s.heap := ⟨_, rfl⟩
  obtain ⟨locs, elocs⟩ : ∃ z : List Loc, z = [] := ⟨_, rfl⟩
  have hw : HW G s.heap V H locs := by rw [eH, elocs]; exact hw
  show W p l e _ s m args below meth c s.heap [] 0 0 Q (F0 m 0 ls [])
  rw [← eH, ← elocs]
  unfold fX9_clear at h
  refine lv_iload_n hx hb dX9_clear_0 rfl (lv_at hl 1 rfl) ?_
  rcases ob_N_some h with ⟨E2, h1, h⟩ | ⟨h1, h⟩
  · have h := Option.some.inj h
    subst h
    rw [kr]
    exact x_SVe E hw (kX9_needPlace (l := l) (G := G) (Z := Z) ht h1) yy_X9_needPlace lm_RX9_172 rfl hl.1 (by decide) (by decide) (by decide) rfl (Nat.le_of_ble_eq_true rfl) dX9_clear_1 hnt (by decide)
  · refine x_SVn E hw (kX9_needPlace (l := l) (G := G) (Z := Z) ht h1) yy_X9_needPlace lm_RX9_172 rfl hl.1 (by decide) (by decide) (by decide) rfl (Nat.le_of_ble_eq_true rfl) dX9_clear_1 (fun H locs hw => ?_)
    refine lv_iload_n hx hb dX9_clear_4 rfl (lv_at hl 2 rfl) ?_
    rcases ob_N_some h with ⟨E4, h3, h⟩ | ⟨h3, h⟩
    · have h := Option.some.inj h
      subst h
      rw [kr]
      exact x_SVe E hw (kX9_needHour (l := l) (G := G) (Z := Z) ht h3) yy_X9_needHour lm_RX9_175 rfl hl.1 (by decide) (by decide) (by decide) rfl (Nat.le_of_ble_eq_true rfl) dX9_clear_5 hnt (by decide)
    · refine x_SVn E hw (kX9_needHour (l := l) (G := G) (Z := Z) ht h3) yy_X9_needHour lm_RX9_175 rfl hl.1 (by decide) (by decide) (by decide) rfl (Nat.le_of_ble_eq_true rfl) dX9_clear_5 (fun H locs hw => ?_)
      refine lv_aload_n hx hb dX9_clear_8 rfl (lv_at hl 0 rfl) ?_
      refine r_gr E hw 0 1 2 (N := 11) (C := RX9) (T := TX9) (by decide) rfl rfl (by decide) rfl iw_9 rfl lf_RX9_19 dX9_clear_9 ?_
      refine r_giN E hw 2 3 (N := 13) (C := RX6) (T := TX6) (by decide) rfl rfl (by decide) rfl iw_6 rfl lf_RX9_225 dX9_clear_12 ?_
      refine lv_if_ne (tgt := 20) hx hb dX9_clear_15 (by decide) (fun c18 => ?_) (fun c18 => ?_)
      · rw [if_neg c18] at h
        refine lv_aload_n hx hb dX9_clear_20 rfl (lv_at hl 0 rfl) ?_
        refine r_gr E hw 0 2 3 (N := 11) (C := RX9) (T := TX9) (by decide) rfl rfl (by decide) rfl iw_9 rfl lf_RX9_23 dX9_clear_21 ?_
        refine lv_aload_n hx hb dX9_clear_24 rfl (lv_at hl 0 rfl) ?_
        refine r_gr E hw 0 1 2 (N := 11) (C := RX9) (T := TX9) (by decide) rfl rfl (by decide) rfl iw_9 rfl lf_RX9_19 dX9_clear_25 ?_
        obtain ⟨V6, h5, h⟩ := ob_R_some h
        refine g_VV E hw (kX6_copyFrom (l := l) (G := G) hB ⟨by decide, by decide⟩ ⟨by decide, by decide⟩ h5) yy_X6_copyFrom lm_RX9_71 rfl (by decide) rfl rfl hl.1 (by decide) (by decide) (by decide) rfl (Nat.le_of_ble_eq_true rfl) dX9_clear_28 (fun H locs hw => ?_)
        refine lv_bipush (v := (9 : Int32)) hx hb dX9_clear_31 (by decide) ?_
        refine lv_istore_n (lv' := [(3, .int (9 : Int32)), (0, .ref (G.2.2 0)), (1, .int x1), (2, .int x2)]) hx hb dX9_clear_33 rfl hl (by decide) rfl (fun ls hl => ?_)
        obtain ⟨x17, h16, h⟩ := ob_R_some h
        have h := Option.some.inj h
        subst h
        exact wX9_clear_L34 E ht hnt (fun q e => by subst e; exact kr) FV (V6, x1, x2, (9 : Int32)) h16 H locs ls hw (lv_sub hl [1, 2, 3, 0] rfl)
      · rw [if_pos c18] at h
        refine lv_iconst (v := (-1 : Int32)) hx hb dX9_clear_18 (by decide) ?_
        have h := Option.some.inj h
        subst h
        rw [kr]
        exact x_ri E hw (by decide) (by decide) dX9_clear_19
/-! ===== AllSawIt.soonest(II)I ===== -/
theorem dX9_soonest_0 : decode cX9_soonest 0 = .ok (.aload_n 0, 1) := by decide +kernel
theorem dX9_soonest_1 : decode cX9_soonest 1 = .ok (.iload_n 1, 1) := by decide +kernel
theorem dX9_soonest_2 : decode cX9_soonest 2 = .ok (.invokevirtual 152, 3) := by decide +kernel
theorem dX9_soonest_5 : decode cX9_soonest 5 = .ok (.iload_n 2, 1) := by decide +kernel
theorem dX9_soonest_6 : decode cX9_soonest 6 = .ok (.iconst 0, 1) := by decide +kernel
theorem dX9_soonest_7 : decode cX9_soonest 7 = .ok (.bipush 9, 2) := by decide +kernel
theorem dX9_soonest_9 : decode cX9_soonest 9 = .ok (.invokestatic 222, 3) := by decide +kernel
theorem dX9_soonest_12 : decode cX9_soonest 12 = .ok (.aload_n 0, 1) := by decide +kernel
theorem dX9_soonest_13 : decode cX9_soonest 13 = .ok (.getfield 23, 3) := by decide +kernel
theorem dX9_soonest_16 : decode cX9_soonest 16 = .ok (.aload_n 0, 1) := by decide +kernel
theorem dX9_soonest_17 : decode cX9_soonest 17 = .ok (.getfield 19, 3) := by decide +kernel
theorem dX9_soonest_20 : decode cX9_soonest 20 = .ok (.invokevirtual 71, 3) := by decide +kernel
theorem dX9_soonest_23 : decode cX9_soonest 23 = .ok (.iconst 0, 1) := by decide +kernel
theorem dX9_soonest_24 : decode cX9_soonest 24 = .ok (.istore_n 3, 1) := by decide +kernel
theorem dX9_soonest_25 : decode cX9_soonest 25 = .ok (.iload_n 3, 1) := by decide +kernel
theorem dX9_soonest_26 : decode cX9_soonest 26 = .ok (.bipush 40, 2) := by decide +kernel
theorem dX9_soonest_28 : decode cX9_soonest 28 = .ok (.if_icmp .gt 34, 3) := by decide +kernel
theorem dX9_soonest_31 : decode cX9_soonest 31 = .ok (.aload_n 0, 1) := by decide +kernel
theorem dX9_soonest_32 : decode cX9_soonest 32 = .ok (.getfield 23, 3) := by decide +kernel
theorem dX9_soonest_35 : decode cX9_soonest 35 = .ok (.iload_n 1, 1) := by decide +kernel
theorem dX9_soonest_36 : decode cX9_soonest 36 = .ok (.invokevirtual 158, 3) := by decide +kernel
theorem dX9_soonest_39 : decode cX9_soonest 39 = .ok (.ifCond .eq 5, 3) := by decide +kernel
theorem dX9_soonest_42 : decode cX9_soonest 42 = .ok (.iload_n 3, 1) := by decide +kernel
theorem dX9_soonest_43 : decode cX9_soonest 43 = .ok (.ireturn, 1) := by decide +kernel
theorem dX9_soonest_44 : decode cX9_soonest 44 = .ok (.aload_n 0, 1) := by decide +kernel
theorem dX9_soonest_45 : decode cX9_soonest 45 = .ok (.getfield 23, 3) := by decide +kernel
theorem dX9_soonest_48 : decode cX9_soonest 48 = .ok (.aload_n 0, 1) := by decide +kernel
theorem dX9_soonest_49 : decode cX9_soonest 49 = .ok (.getfield 32, 3) := by decide +kernel
theorem dX9_soonest_52 : decode cX9_soonest 52 = .ok (.iload_n 2, 1) := by decide +kernel
theorem dX9_soonest_53 : decode cX9_soonest 53 = .ok (.invokestatic 270, 3) := by decide +kernel
theorem dX9_soonest_56 : decode cX9_soonest 56 = .ok (.iinc 3 1, 3) := by decide +kernel
theorem dX9_soonest_59 : decode cX9_soonest 59 = .ok (.goto (-34), 3) := by decide +kernel
theorem dX9_soonest_62 : decode cX9_soonest 62 = .ok (.iconst (-1), 1) := by decide +kernel
theorem dX9_soonest_63 : decode cX9_soonest 63 = .ok (.ireturn, 1) := by decide +kernel
noncomputable def fX9_soonest_L25 (V : VT) (u1 : Int32) (u2 : Int32) (u3 : Int32) : Option ((VT × Int32 × Int32 × Int32) ⊕ ((String ⊕ Int32) × VT)) := if (40 : Int32) < u3 then (some (.inr ((.inr (-1 : Int32), V)))) else (ob_R (fX6_isSo V 3 u1) fun y8 => if y8 = 0 then (ob_R (fX1_passTold V 3 u2) fun V10 => lt_ (u3 + (1 : Int32)) fun y11 => some (.inl (V10, u1, u2, y11))) else (some (.inr ((.inr u3, V)))))
noncomputable def iX9_soonest_L25 : (VT × Int32 × Int32 × Int32) → Option ((VT × Int32 × Int32 × Int32) ⊕ ((String ⊕ Int32) × VT)) := fun q => fX9_soonest_L25 (q.1) (q.2.1) (q.2.2.1) (q.2.2.2)
noncomputable def fX9_soonest (V : VT) (x1 : Int32) (x2 : Int32) : Option ((String ⊕ Int32) × VT) := ob_N (fX9_needDeed V x1) (fun E2 => some (.inl E2, V)) (ob_N (fX9_needNumber V x2 (0 : Int32) (9 : Int32)) (fun E4 => some (.inl E4, V)) (ob_R (fX6_copyFrom V 3 2) fun V6 => ob_R (it_ (iX9_soonest_L25) FV (V6, x1, x2, (0 : Int32))) fun x15 => some x15))
set_option maxHeartbeats 4000000 in
set_option maxRecDepth 100000 in
theorem wX9_soonest_L25 {p : Program} {l : Launch} {e : Env} {s : State} {m : MethodId} {args : Array Value} {below : List Frame} {meth : Method} {c : Code} {G : GT} {Z : Nat → Nat × Nat} {Q : State → Prop} (E : En p s m args c meth cX9_soonest 4 RX9 (some .int) G (SG Z)) (ht : l.stackTraces = false) (hnt : ∀ x ∈ c.exceptionTable.toList, False) {x : ((String ⊕ Int32) × VT)} (kr : ∀ q : ((String ⊕ Int32) × VT), x = q → Q = vx_MQ below (XQ G s.heap.size q.1 q.2) (XE G s.heap.size q.1 q.2) args s 2 12 (gA G s.heap.size)) : ∀ (n : Nat) (q : (VT × Int32 × Int32 × Int32)), it_ (iX9_soonest_L25) n q = some x → ∀ (H : Heap) (locs : List Loc) (ls : Array Slot), HW G s.heap (q.1) H locs → lv_has ls 4 [(0, .ref (G.2.2 0)), (1, .int (q.2.1)), (2, .int (q.2.2.1)), (3, .int (q.2.2.2))] → W p l e (rmX 9 2) s m args below meth c H locs 2 12 Q (F0 m 25 ls []) := by
  have hx := en_x E
  have hb := en_b E
  have hB := en_B E
  refine it_W (fun q : (VT × Int32 × Int32 × Int32) => ∀ (H : Heap) (locs : List Loc) (ls : Array Slot), HW G s.heap (q.1) H locs → lv_has ls 4 [(0, .ref (G.2.2 0)), (1, .int (q.2.1)), (2, .int (q.2.2.1)), (3, .int (q.2.2.2))] → W p l e (rmX 9 2) s m args below meth c H locs 2 12 Q (F0 m 25 ls [])) x ?_
  intro q r h kc kx
  obtain ⟨V, u1, u2, u3⟩ := q
  intro H locs ls hw hl
  have h : fX9_soonest_L25 V u1 u2 u3 = some r := h
  have hw : HW G s.heap V H locs := hw
  have hl : lv_has ls 4 [(0, .ref (G.2.2 0)), (1, .int u1), (2, .int u2), (3, .int u3)] := hl
  have kr : ∀ q : ((String ⊕ Int32) × VT), r = .inr (q) → Q = vx_MQ below (XQ G s.heap.size q.1 q.2) (XE G s.heap.size q.1 q.2) args s 2 12 (gA G s.heap.size) := fun q e => kr q (kx _ e).symm
  unfold fX9_soonest_L25 at h
  refine lv_iload_n hx hb dX9_soonest_25 rfl (lv_at hl 3 rfl) ?_
  refine lv_bipush (v := (40 : Int32)) hx hb dX9_soonest_26 (by decide) ?_
  refine lv_icmp_gt (tgt := 62) hx hb dX9_soonest_28 (by decide) (fun c13 => ?_) (fun c13 => ?_)
  · rw [if_pos c13] at h
    refine lv_iconst (v := (-1 : Int32)) hx hb dX9_soonest_62 (by decide) ?_
    rw [kr (.inr (-1 : Int32), V) (Option.some.inj h).symm]
    exact x_ri E hw (by decide) (by decide) dX9_soonest_63
  · rw [if_neg c13] at h
    refine lv_aload_n hx hb dX9_soonest_31 rfl (lv_at hl 0 rfl) ?_
    refine r_gr E hw 0 2 3 (N := 11) (C := RX9) (T := TX9) (by decide) rfl rfl (by decide) rfl iw_9 rfl lf_RX9_23 dX9_soonest_32 ?_
    refine lv_iload_n hx hb dX9_soonest_35 rfl (lv_at hl 1 rfl) ?_
    obtain ⟨y8, h7, h⟩ := ob_R_some h
    refine g_VI E hw (kX6_isSo (l := l) (G := G) hB ⟨by decide, by decide⟩ h7) yy_X6_isSo lm_RX9_158 rfl (by decide) rfl rfl hl.1 (by decide) (by decide) (by decide) rfl (Nat.le_of_ble_eq_true rfl) dX9_soonest_36 (fun H locs hw => ?_)
    refine lv_if_eq (tgt := 44) hx hb dX9_soonest_39 (by decide) (fun c12 => ?_) (fun c12 => ?_)
    · rw [if_pos c12] at h
      refine lv_aload_n hx hb dX9_soonest_44 rfl (lv_at hl 0 rfl) ?_
      refine r_gr E hw 0 2 3 (N := 11) (C := RX9) (T := TX9) (by decide) rfl rfl (by decide) rfl iw_9 rfl lf_RX9_23 dX9_soonest_45 ?_
      refine lv_aload_n hx hb dX9_soonest_48 rfl (lv_at hl 0 rfl) ?_
      refine r_gr E hw 0 4 17 (N := 11) (C := RX9) (T := TX9) (by decide) rfl rfl (by decide) rfl iw_9 rfl lf_RX9_32 dX9_soonest_49 ?_
      refine lv_iload_n hx hb dX9_soonest_52 rfl (lv_at hl 2 rfl) ?_
      obtain ⟨V10, h9, h⟩ := ob_R_some h
      refine g_SV E hw (kX1_passTold (l := l) (G := G) hB ⟨by decide, by decide⟩ h9) yy_X1_passTold lm_RX9_270 rfl hl.1 (by decide) (by decide) (by decide) rfl (Nat.le_of_ble_eq_true rfl) dX9_soonest_53 (fun H locs hw => ?_)
      obtain ⟨y11, ey11, h⟩ := lt_some h
      refine lv_iinc (v := y11) (lv' := [(3, .int y11), (0, .ref (G.2.2 0)), (1, .int u1), (2, .int u2)]) hx hb dX9_soonest_56 hl (k := 3) rfl (by rw [ey11]; rfl) (by decide) rfl (fun ls hl => ?_)
      refine lv_goto (tgt := 25) hx hb dX9_soonest_59 (by decide) ?_
      exact kc (V10, u1, u2, y11) (Option.some.inj h).symm H locs ls hw (lv_sub hl [1, 2, 3, 0] rfl)
    · rw [if_neg c12] at h
      refine lv_iload_n hx hb dX9_soonest_42 rfl (lv_at hl 3 rfl) ?_
      rw [kr (.inr u3, V) (Option.some.inj h).symm]
      exact x_ri E hw (by decide) (by decide) dX9_soonest_43
set_option maxHeartbeats 4000000 in
set_option maxRecDepth 100000 in
theorem kX9_soonest {l : Launch} {G : GT} {Z : Nat → Nat × Nat} (ht : l.stackTraces = false) {V : VT} {x1 : Int32} {x2 : Int32} {r : ((String ⊕ Int32) × VT)} (h : fX9_soonest V x1 x2 = some r) : XI l G (SG Z) yX9_soonest (.code yX9_soonest cX9_soonest 4 (some .int)) 9 2 [.ref (G.2.2 0), .int x1, .int x2] V r.1 r.2 := by
  intro sz
  refine xmet_of (Qs := fun sz => XQ G sz r.1 r.2) (Xs := fun sz => XE G sz r.1 r.2) (SG_ok Z) (by decide) (Nat.le_of_ble_eq_true rfl) ?_ sz
  intro p e s m args below meth c ls E hnt hw hl
  have hx := en_x E
  have hb := en_b E
  have hB := en_B E
  generalize hQ : vx_MQ _ _ _ _ _ _ _ _ = Q
  have kr : Q = vx_MQ below (XQ G s.heap.size r.1 r.2) (XE G s.heap.size r.1 r.2) args s 2 12 (gA G s.heap.size) := hQ.symm
  have hl : lv_has ls 4 [(0, .ref (G.2.2 0)), (1, .int x1), (2, .int x2)] := hl
  obtain ⟨H, eH⟩ : ∃ H, H = s.heap := ⟨_, rfl⟩
  obtain ⟨locs, elocs⟩ : ∃ z : List Loc, z = [] := ⟨_, rfl⟩
  have hw : HW G s.heap V H locs := by rw [eH, elocs]; exact hw
  show W p l e _ s m args below meth c s.heap [] 0 0 Q (F0 m 0 ls [])
  rw [← eH, ← elocs]
  unfold fX9_soonest at h
  refine lv_aload_n hx hb dX9_soonest_0 rfl (lv_at hl 0 rfl) ?_
  refine lv_iload_n hx hb dX9_soonest_1 rfl (lv_at hl 1 rfl) ?_
  rcases ob_N_some h with ⟨E2, h1, h⟩ | ⟨h1, h⟩
  · have h := Option.some.inj h
    subst h
    rw [kr]
    exact x_VVe E hw (kX9_needDeed (l := l) (G := G) (Z := Z) ht h1) yy_X9_needDeed lm_RX9_152 rfl (by decide) rfl rfl hl.1 (by decide) (by decide) (by decide) rfl (Nat.le_of_ble_eq_true rfl) dX9_soonest_2 hnt (by decide)
  · refine x_VVn E hw (kX9_needDeed (l := l) (G := G) (Z := Z) ht h1) yy_X9_needDeed lm_RX9_152 rfl (by decide) rfl rfl hl.1 (by decide) (by decide) (by decide) rfl (Nat.le_of_ble_eq_true rfl) dX9_soonest_2 (fun H locs hw => ?_)
    refine lv_iload_n hx hb dX9_soonest_5 rfl (lv_at hl 2 rfl) ?_
    refine lv_iconst (v := (0 : Int32)) hx hb dX9_soonest_6 (by decide) ?_
    refine lv_bipush (v := (9 : Int32)) hx hb dX9_soonest_7 (by decide) ?_
    rcases ob_N_some h with ⟨E4, h3, h⟩ | ⟨h3, h⟩
    · have h := Option.some.inj h
      subst h
      rw [kr]
      exact x_SVe E hw (kX9_needNumber (l := l) (G := G) (Z := Z) ht h3) yy_X9_needNumber lm_RX9_222 rfl hl.1 (by decide) (by decide) (by decide) rfl (Nat.le_of_ble_eq_true rfl) dX9_soonest_9 hnt (by decide)
    · refine x_SVn E hw (kX9_needNumber (l := l) (G := G) (Z := Z) ht h3) yy_X9_needNumber lm_RX9_222 rfl hl.1 (by decide) (by decide) (by decide) rfl (Nat.le_of_ble_eq_true rfl) dX9_soonest_9 (fun H locs hw => ?_)
      refine lv_aload_n hx hb dX9_soonest_12 rfl (lv_at hl 0 rfl) ?_
      refine r_gr E hw 0 2 3 (N := 11) (C := RX9) (T := TX9) (by decide) rfl rfl (by decide) rfl iw_9 rfl lf_RX9_23 dX9_soonest_13 ?_
      refine lv_aload_n hx hb dX9_soonest_16 rfl (lv_at hl 0 rfl) ?_
      refine r_gr E hw 0 1 2 (N := 11) (C := RX9) (T := TX9) (by decide) rfl rfl (by decide) rfl iw_9 rfl lf_RX9_19 dX9_soonest_17 ?_
      obtain ⟨V6, h5, h⟩ := ob_R_some h
      refine g_VV E hw (kX6_copyFrom (l := l) (G := G) hB ⟨by decide, by decide⟩ ⟨by decide, by decide⟩ h5) yy_X6_copyFrom lm_RX9_71 rfl (by decide) rfl rfl hl.1 (by decide) (by decide) (by decide) rfl (Nat.le_of_ble_eq_true rfl) dX9_soonest_20 (fun H locs hw => ?_)
      refine lv_iconst (v := (0 : Int32)) hx hb dX9_soonest_23 (by decide) ?_
      refine lv_istore_n (lv' := [(3, .int (0 : Int32)), (0, .ref (G.2.2 0)), (1, .int x1), (2, .int x2)]) hx hb dX9_soonest_24 rfl hl (by decide) rfl (fun ls hl => ?_)
      obtain ⟨x15, h14, h⟩ := ob_R_some h
      have h := Option.some.inj h
      subst h
      exact wX9_soonest_L25 E ht hnt (fun q e => by subst e; exact kr) FV (V6, x1, x2, (0 : Int32)) h14 H locs ls hw (lv_sub hl [1, 2, 3, 0] rfl)
/-! ===== AllSawIt.ahead(II)I ===== -/
theorem dX9_ahead_0 : decode cX9_ahead 0 = .ok (.iload_n 1, 1) := by decide +kernel
theorem dX9_ahead_1 : decode cX9_ahead 1 = .ok (.iconst 0, 1) := by decide +kernel
theorem dX9_ahead_2 : decode cX9_ahead 2 = .ok (.bipush 40, 2) := by decide +kernel
theorem dX9_ahead_4 : decode cX9_ahead 4 = .ok (.invokestatic 222, 3) := by decide +kernel
theorem dX9_ahead_7 : decode cX9_ahead 7 = .ok (.iload_n 2, 1) := by decide +kernel
theorem dX9_ahead_8 : decode cX9_ahead 8 = .ok (.iconst 0, 1) := by decide +kernel
theorem dX9_ahead_9 : decode cX9_ahead 9 = .ok (.bipush 9, 2) := by decide +kernel
theorem dX9_ahead_11 : decode cX9_ahead 11 = .ok (.invokestatic 222, 3) := by decide +kernel
theorem dX9_ahead_14 : decode cX9_ahead 14 = .ok (.aload_n 0, 1) := by decide +kernel
theorem dX9_ahead_15 : decode cX9_ahead 15 = .ok (.getfield 23, 3) := by decide +kernel
theorem dX9_ahead_18 : decode cX9_ahead 18 = .ok (.aload_n 0, 1) := by decide +kernel
theorem dX9_ahead_19 : decode cX9_ahead 19 = .ok (.getfield 19, 3) := by decide +kernel
theorem dX9_ahead_22 : decode cX9_ahead 22 = .ok (.invokevirtual 71, 3) := by decide +kernel
theorem dX9_ahead_25 : decode cX9_ahead 25 = .ok (.iconst 0, 1) := by decide +kernel
theorem dX9_ahead_26 : decode cX9_ahead 26 = .ok (.istore_n 3, 1) := by decide +kernel
theorem dX9_ahead_27 : decode cX9_ahead 27 = .ok (.iload_n 3, 1) := by decide +kernel
theorem dX9_ahead_28 : decode cX9_ahead 28 = .ok (.iload_n 1, 1) := by decide +kernel
theorem dX9_ahead_29 : decode cX9_ahead 29 = .ok (.if_icmp .ge 21, 3) := by decide +kernel
theorem dX9_ahead_32 : decode cX9_ahead 32 = .ok (.aload_n 0, 1) := by decide +kernel
theorem dX9_ahead_33 : decode cX9_ahead 33 = .ok (.getfield 23, 3) := by decide +kernel
theorem dX9_ahead_36 : decode cX9_ahead 36 = .ok (.aload_n 0, 1) := by decide +kernel
theorem dX9_ahead_37 : decode cX9_ahead 37 = .ok (.getfield 32, 3) := by decide +kernel
theorem dX9_ahead_40 : decode cX9_ahead 40 = .ok (.iload_n 2, 1) := by decide +kernel
theorem dX9_ahead_41 : decode cX9_ahead 41 = .ok (.invokestatic 270, 3) := by decide +kernel
theorem dX9_ahead_44 : decode cX9_ahead 44 = .ok (.iinc 3 1, 3) := by decide +kernel
theorem dX9_ahead_47 : decode cX9_ahead 47 = .ok (.goto (-20), 3) := by decide +kernel
theorem dX9_ahead_50 : decode cX9_ahead 50 = .ok (.aload_n 0, 1) := by decide +kernel
theorem dX9_ahead_51 : decode cX9_ahead 51 = .ok (.getfield 23, 3) := by decide +kernel
theorem dX9_ahead_54 : decode cX9_ahead 54 = .ok (.getfield 274, 3) := by decide +kernel
theorem dX9_ahead_57 : decode cX9_ahead 57 = .ok (.ireturn, 1) := by decide +kernel
noncomputable def fX9_ahead_L27 (V : VT) (u1 : Int32) (u2 : Int32) (u3 : Int32) : Option ((VT × Int32 × Int32 × Int32) ⊕ ((String ⊕ Int32) × VT)) := if u1 ≤ u3 then (some (.inr ((.inr (V 3 7), V)))) else (ob_R (fX1_passTold V 3 u2) fun V8 => lt_ (u3 + (1 : Int32)) fun y9 => some (.inl (V8, u1, u2, y9)))
noncomputable def iX9_ahead_L27 : (VT × Int32 × Int32 × Int32) → Option ((VT × Int32 × Int32 × Int32) ⊕ ((String ⊕ Int32) × VT)) := fun q => fX9_ahead_L27 (q.1) (q.2.1) (q.2.2.1) (q.2.2.2)
noncomputable def fX9_ahead (V : VT) (x1 : Int32) (x2 : Int32) : Option ((String ⊕ Int32) × VT) := ob_N (fX9_needNumber V x1 (0 : Int32) (40 : Int32)) (fun E2 => some (.inl E2, V)) (ob_N (fX9_needNumber V x2 (0 : Int32) (9 : Int32)) (fun E4 => some (.inl E4, V)) (ob_R (fX6_copyFrom V 3 2) fun V6 => ob_R (it_ (iX9_ahead_L27) FV (V6, x1, x2, (0 : Int32))) fun x12 => some x12))
set_option maxHeartbeats 4000000 in
set_option maxRecDepth 100000 in
theorem wX9_ahead_L27 {p : Program} {l : Launch} {e : Env} {s : State} {m : MethodId} {args : Array Value} {below : List Frame} {meth : Method} {c : Code} {G : GT} {Z : Nat → Nat × Nat} {Q : State → Prop} (E : En p s m args c meth cX9_ahead 4 RX9 (some .int) G (SG Z)) (ht : l.stackTraces = false) (hnt : ∀ x ∈ c.exceptionTable.toList, False) {x : ((String ⊕ Int32) × VT)} (kr : ∀ q : ((String ⊕ Int32) × VT), x = q → Q = vx_MQ below (XQ G s.heap.size q.1 q.2) (XE G s.heap.size q.1 q.2) args s 2 12 (gA G s.heap.size)) : ∀ (n : Nat) (q : (VT × Int32 × Int32 × Int32)), it_ (iX9_ahead_L27) n q = some x → ∀ (H : Heap) (locs : List Loc) (ls : Array Slot), HW G s.heap (q.1) H locs → lv_has ls 4 [(0, .ref (G.2.2 0)), (1, .int (q.2.1)), (2, .int (q.2.2.1)), (3, .int (q.2.2.2))] → W p l e (rmX 9 2) s m args below meth c H locs 2 12 Q (F0 m 27 ls []) := by
  have hx := en_x E
  have hb := en_b E
  have hB := en_B E
  refine it_W (fun q : (VT × Int32 × Int32 × Int32) => ∀ (H : Heap) (locs : List Loc) (ls : Array Slot), HW G s.heap (q.1) H locs → lv_has ls 4 [(0, .ref (G.2.2 0)), (1, .int (q.2.1)), (2, .int (q.2.2.1)), (3, .int (q.2.2.2))] → W p l e (rmX 9 2) s m args below meth c H locs 2 12 Q (F0 m 27 ls [])) x ?_
  intro q r h kc kx
  obtain ⟨V, u1, u2, u3⟩ := q
  intro H locs ls hw hl
  have h : fX9_ahead_L27 V u1 u2 u3 = some r := h
  have hw : HW G s.heap V H locs := hw
  have hl : lv_has ls 4 [(0, .ref (G.2.2 0)), (1, .int u1), (2, .int u2), (3, .int u3)] := hl
  have kr : ∀ q : ((String ⊕ Int32) × VT), r = .inr (q) → Q = vx_MQ below (XQ G s.heap.size q.1 q.2) (XE G s.heap.size q.1 q.2) args s 2 12 (gA G s.heap.size) := fun q e => kr q (kx _ e).symm
  unfold fX9_ahead_L27 at h
  refine lv_iload_n hx hb dX9_ahead_27 rfl (lv_at hl 3 rfl) ?_
  refine lv_iload_n hx hb dX9_ahead_28 rfl (lv_at hl 1 rfl) ?_
  refine lv_icmp_ge (tgt := 50) hx hb dX9_ahead_29 (by decide) (fun c10 => ?_) (fun c10 => ?_)
  · rw [if_pos c10] at h
    refine lv_aload_n hx hb dX9_ahead_50 rfl (lv_at hl 0 rfl) ?_
    refine r_gr E hw 0 2 3 (N := 11) (C := RX9) (T := TX9) (by decide) rfl rfl (by decide) rfl iw_9 rfl lf_RX9_23 dX9_ahead_51 ?_
    refine r_giN E hw 3 7 (N := 13) (C := RX6) (T := TX6) (by decide) rfl rfl (by decide) rfl iw_6 rfl lf_RX9_274 dX9_ahead_54 ?_
    rw [kr (.inr (V 3 7), V) (Option.some.inj h).symm]
    exact x_ri E hw (by decide) (by decide) dX9_ahead_57
  · rw [if_neg c10] at h
    refine lv_aload_n hx hb dX9_ahead_32 rfl (lv_at hl 0 rfl) ?_
    refine r_gr E hw 0 2 3 (N := 11) (C := RX9) (T := TX9) (by decide) rfl rfl (by decide) rfl iw_9 rfl lf_RX9_23 dX9_ahead_33 ?_
    refine lv_aload_n hx hb dX9_ahead_36 rfl (lv_at hl 0 rfl) ?_
    refine r_gr E hw 0 4 17 (N := 11) (C := RX9) (T := TX9) (by decide) rfl rfl (by decide) rfl iw_9 rfl lf_RX9_32 dX9_ahead_37 ?_
    refine lv_iload_n hx hb dX9_ahead_40 rfl (lv_at hl 2 rfl) ?_
    obtain ⟨V8, h7, h⟩ := ob_R_some h
    refine g_SV E hw (kX1_passTold (l := l) (G := G) hB ⟨by decide, by decide⟩ h7) yy_X1_passTold lm_RX9_270 rfl hl.1 (by decide) (by decide) (by decide) rfl (Nat.le_of_ble_eq_true rfl) dX9_ahead_41 (fun H locs hw => ?_)
    obtain ⟨y9, ey9, h⟩ := lt_some h
    refine lv_iinc (v := y9) (lv' := [(3, .int y9), (0, .ref (G.2.2 0)), (1, .int u1), (2, .int u2)]) hx hb dX9_ahead_44 hl (k := 3) rfl (by rw [ey9]; rfl) (by decide) rfl (fun ls hl => ?_)
    refine lv_goto (tgt := 27) hx hb dX9_ahead_47 (by decide) ?_
    exact kc (V8, u1, u2, y9) (Option.some.inj h).symm H locs ls hw (lv_sub hl [1, 2, 3, 0] rfl)
set_option maxHeartbeats 4000000 in
set_option maxRecDepth 100000 in
theorem kX9_ahead {l : Launch} {G : GT} {Z : Nat → Nat × Nat} (ht : l.stackTraces = false) {V : VT} {x1 : Int32} {x2 : Int32} {r : ((String ⊕ Int32) × VT)} (h : fX9_ahead V x1 x2 = some r) : XI l G (SG Z) yX9_ahead (.code yX9_ahead cX9_ahead 4 (some .int)) 9 2 [.ref (G.2.2 0), .int x1, .int x2] V r.1 r.2 := by
  intro sz
  refine xmet_of (Qs := fun sz => XQ G sz r.1 r.2) (Xs := fun sz => XE G sz r.1 r.2) (SG_ok Z) (by decide) (Nat.le_of_ble_eq_true rfl) ?_ sz
  intro p e s m args below meth c ls E hnt hw hl
  have hx := en_x E
  have hb := en_b E
  have hB := en_B E
  generalize hQ : vx_MQ _ _ _ _ _ _ _ _ = Q
  have kr : Q = vx_MQ below (XQ G s.heap.size r.1 r.2) (XE G s.heap.size r.1 r.2) args s 2 12 (gA G s.heap.size) := hQ.symm
  have hl : lv_has ls 4 [(0, .ref (G.2.2 0)), (1, .int x1), (2, .int x2)] := hl
  obtain ⟨H, eH⟩ : ∃ H, H = s.heap := ⟨_, rfl⟩
  obtain ⟨locs, elocs⟩ : ∃ z : List Loc, z = [] := ⟨_, rfl⟩
  have hw : HW G s.heap V H locs := by rw [eH, elocs]; exact hw
  show W p l e _ s m args below meth c s.heap [] 0 0 Q (F0 m 0 ls [])
  rw [← eH, ← elocs]
  unfold fX9_ahead at h
  refine lv_iload_n hx hb dX9_ahead_0 rfl (lv_at hl 1 rfl) ?_
  refine lv_iconst (v := (0 : Int32)) hx hb dX9_ahead_1 (by decide) ?_
  refine lv_bipush (v := (40 : Int32)) hx hb dX9_ahead_2 (by decide) ?_
  rcases ob_N_some h with ⟨E2, h1, h⟩ | ⟨h1, h⟩
  · have h := Option.some.inj h
    subst h
    rw [kr]
    exact x_SVe E hw (kX9_needNumber (l := l) (G := G) (Z := Z) ht h1) yy_X9_needNumber lm_RX9_222 rfl hl.1 (by decide) (by decide) (by decide) rfl (Nat.le_of_ble_eq_true rfl) dX9_ahead_4 hnt (by decide)
  · refine x_SVn E hw (kX9_needNumber (l := l) (G := G) (Z := Z) ht h1) yy_X9_needNumber lm_RX9_222 rfl hl.1 (by decide) (by decide) (by decide) rfl (Nat.le_of_ble_eq_true rfl) dX9_ahead_4 (fun H locs hw => ?_)
    refine lv_iload_n hx hb dX9_ahead_7 rfl (lv_at hl 2 rfl) ?_
    refine lv_iconst (v := (0 : Int32)) hx hb dX9_ahead_8 (by decide) ?_
    refine lv_bipush (v := (9 : Int32)) hx hb dX9_ahead_9 (by decide) ?_
    rcases ob_N_some h with ⟨E4, h3, h⟩ | ⟨h3, h⟩
    · have h := Option.some.inj h
      subst h
      rw [kr]
      exact x_SVe E hw (kX9_needNumber (l := l) (G := G) (Z := Z) ht h3) yy_X9_needNumber lm_RX9_222 rfl hl.1 (by decide) (by decide) (by decide) rfl (Nat.le_of_ble_eq_true rfl) dX9_ahead_11 hnt (by decide)
    · refine x_SVn E hw (kX9_needNumber (l := l) (G := G) (Z := Z) ht h3) yy_X9_needNumber lm_RX9_222 rfl hl.1 (by decide) (by decide) (by decide) rfl (Nat.le_of_ble_eq_true rfl) dX9_ahead_11 (fun H locs hw => ?_)
      refine lv_aload_n hx hb dX9_ahead_14 rfl (lv_at hl 0 rfl) ?_
      refine r_gr E hw 0 2 3 (N := 11) (C := RX9) (T := TX9) (by decide) rfl rfl (by decide) rfl iw_9 rfl lf_RX9_23 dX9_ahead_15 ?_
      refine lv_aload_n hx hb dX9_ahead_18 rfl (lv_at hl 0 rfl) ?_
      refine r_gr E hw 0 1 2 (N := 11) (C := RX9) (T := TX9) (by decide) rfl rfl (by decide) rfl iw_9 rfl lf_RX9_19 dX9_ahead_19 ?_
      obtain ⟨V6, h5, h⟩ := ob_R_some h
      refine g_VV E hw (kX6_copyFrom (l := l) (G := G) hB ⟨by decide, by decide⟩ ⟨by decide, by decide⟩ h5) yy_X6_copyFrom lm_RX9_71 rfl (by decide) rfl rfl hl.1 (by decide) (by decide) (by decide) rfl (Nat.le_of_ble_eq_true rfl) dX9_ahead_22 (fun H locs hw => ?_)
      refine lv_iconst (v := (0 : Int32)) hx hb dX9_ahead_25 (by decide) ?_
      refine lv_istore_n (lv' := [(3, .int (0 : Int32)), (0, .ref (G.2.2 0)), (1, .int x1), (2, .int x2)]) hx hb dX9_ahead_26 rfl hl (by decide) rfl (fun ls hl => ?_)
      obtain ⟨x12, h11, h⟩ := ob_R_some h
      have h := Option.some.inj h
      subst h
      exact wX9_ahead_L27 E ht hnt (fun q e => by subst e; exact kr) FV (V6, x1, x2, (0 : Int32)) h11 H locs ls hw (lv_sub hl [1, 2, 3, 0] rfl)
/-! ===== AllSawIt.later(I)I ===== -/
theorem dX9_later_0 : decode cX9_later 0 = .ok (.iload_n 1, 1) := by decide +kernel
theorem dX9_later_1 : decode cX9_later 1 = .ok (.iconst 0, 1) := by decide +kernel
theorem dX9_later_2 : decode cX9_later 2 = .ok (.bipush 9, 2) := by decide +kernel
theorem dX9_later_4 : decode cX9_later 4 = .ok (.invokestatic 222, 3) := by decide +kernel
theorem dX9_later_7 : decode cX9_later 7 = .ok (.aload_n 0, 1) := by decide +kernel
theorem dX9_later_8 : decode cX9_later 8 = .ok (.getfield 23, 3) := by decide +kernel
theorem dX9_later_11 : decode cX9_later 11 = .ok (.aload_n 0, 1) := by decide +kernel
theorem dX9_later_12 : decode cX9_later 12 = .ok (.getfield 19, 3) := by decide +kernel
theorem dX9_later_15 : decode cX9_later 15 = .ok (.invokevirtual 71, 3) := by decide +kernel
theorem dX9_later_18 : decode cX9_later 18 = .ok (.iconst 0, 1) := by decide +kernel
theorem dX9_later_19 : decode cX9_later 19 = .ok (.istore_n 2, 1) := by decide +kernel
theorem dX9_later_20 : decode cX9_later 20 = .ok (.iconst 1, 1) := by decide +kernel
theorem dX9_later_21 : decode cX9_later 21 = .ok (.istore_n 3, 1) := by decide +kernel
theorem dX9_later_22 : decode cX9_later 22 = .ok (.iload_n 3, 1) := by decide +kernel
theorem dX9_later_23 : decode cX9_later 23 = .ok (.bipush 40, 2) := by decide +kernel
theorem dX9_later_25 : decode cX9_later 25 = .ok (.if_icmp .gt 44, 3) := by decide +kernel
theorem dX9_later_28 : decode cX9_later 28 = .ok (.aload_n 0, 1) := by decide +kernel
theorem dX9_later_29 : decode cX9_later 29 = .ok (.getfield 23, 3) := by decide +kernel
theorem dX9_later_32 : decode cX9_later 32 = .ok (.getfield 274, 3) := by decide +kernel
theorem dX9_later_35 : decode cX9_later 35 = .ok (.istore 4, 2) := by decide +kernel
theorem dX9_later_37 : decode cX9_later 37 = .ok (.aload_n 0, 1) := by decide +kernel
theorem dX9_later_38 : decode cX9_later 38 = .ok (.getfield 23, 3) := by decide +kernel
theorem dX9_later_41 : decode cX9_later 41 = .ok (.aload_n 0, 1) := by decide +kernel
theorem dX9_later_42 : decode cX9_later 42 = .ok (.getfield 32, 3) := by decide +kernel
theorem dX9_later_45 : decode cX9_later 45 = .ok (.iload_n 1, 1) := by decide +kernel
theorem dX9_later_46 : decode cX9_later 46 = .ok (.invokestatic 270, 3) := by decide +kernel
theorem dX9_later_49 : decode cX9_later 49 = .ok (.aload_n 0, 1) := by decide +kernel
theorem dX9_later_50 : decode cX9_later 50 = .ok (.getfield 23, 3) := by decide +kernel
theorem dX9_later_53 : decode cX9_later 53 = .ok (.getfield 274, 3) := by decide +kernel
theorem dX9_later_56 : decode cX9_later 56 = .ok (.iload 4, 2) := by decide +kernel
theorem dX9_later_58 : decode cX9_later 58 = .ok (.if_icmp .eq 5, 3) := by decide +kernel
theorem dX9_later_61 : decode cX9_later 61 = .ok (.iload_n 3, 1) := by decide +kernel
theorem dX9_later_62 : decode cX9_later 62 = .ok (.istore_n 2, 1) := by decide +kernel
theorem dX9_later_63 : decode cX9_later 63 = .ok (.iinc 3 1, 3) := by decide +kernel
theorem dX9_later_66 : decode cX9_later 66 = .ok (.goto (-44), 3) := by decide +kernel
theorem dX9_later_69 : decode cX9_later 69 = .ok (.iload_n 2, 1) := by decide +kernel
theorem dX9_later_70 : decode cX9_later 70 = .ok (.ireturn, 1) := by decide +kernel
noncomputable def fX9_later_L22 (V : VT) (u1 : Int32) (u2 : Int32) (u3 : Int32) : Option ((VT × Int32 × Int32 × Int32) ⊕ ((String ⊕ Int32) × VT)) := if (40 : Int32) < u3 then (some (.inr ((.inr u2, V)))) else (lt_ (V 3 7) fun y5 => ob_R (fX1_passTold V 3 u1) fun V7 => if (V7 3 7) = y5 then (lt_ (u3 + (1 : Int32)) fun y8 => some (.inl (V7, u1, u2, y8))) else (lt_ (u3 + (1 : Int32)) fun y9 => some (.inl (V7, u1, u3, y9))))
noncomputable def iX9_later_L22 : (VT × Int32 × Int32 × Int32) → Option ((VT × Int32 × Int32 × Int32) ⊕ ((String ⊕ Int32) × VT)) := fun q => fX9_later_L22 (q.1) (q.2.1) (q.2.2.1) (q.2.2.2)
noncomputable def fX9_later (V : VT) (x1 : Int32) : Option ((String ⊕ Int32) × VT) := ob_N (fX9_needNumber V x1 (0 : Int32) (9 : Int32)) (fun E2 => some (.inl E2, V)) (ob_R (fX6_copyFrom V 3 2) fun V4 => ob_R (it_ (iX9_later_L22) FV (V4, x1, (0 : Int32), (1 : Int32))) fun x13 => some x13)
set_option maxHeartbeats 4000000 in
set_option maxRecDepth 100000 in
theorem wX9_later_L22 {p : Program} {l : Launch} {e : Env} {s : State} {m : MethodId} {args : Array Value} {below : List Frame} {meth : Method} {c : Code} {G : GT} {Z : Nat → Nat × Nat} {Q : State → Prop} (E : En p s m args c meth cX9_later 5 RX9 (some .int) G (SG Z)) (ht : l.stackTraces = false) (hnt : ∀ x ∈ c.exceptionTable.toList, False) {x : ((String ⊕ Int32) × VT)} (kr : ∀ q : ((String ⊕ Int32) × VT), x = q → Q = vx_MQ below (XQ G s.heap.size q.1 q.2) (XE G s.heap.size q.1 q.2) args s 1 6 (gA G s.heap.size)) : ∀ (n : Nat) (q : (VT × Int32 × Int32 × Int32)), it_ (iX9_later_L22) n q = some x → ∀ (H : Heap) (locs : List Loc) (ls : Array Slot), HW G s.heap (q.1) H locs → lv_has ls 5 [(0, .ref (G.2.2 0)), (1, .int (q.2.1)), (2, .int (q.2.2.1)), (3, .int (q.2.2.2))] → W p l e (rmX 9 1) s m args below meth c H locs 1 6 Q (F0 m 22 ls []) := by
  have hx := en_x E
  have hb := en_b E
  have hB := en_B E
  refine it_W (fun q : (VT × Int32 × Int32 × Int32) => ∀ (H : Heap) (locs : List Loc) (ls : Array Slot), HW G s.heap (q.1) H locs → lv_has ls 5 [(0, .ref (G.2.2 0)), (1, .int (q.2.1)), (2, .int (q.2.2.1)), (3, .int (q.2.2.2))] → W p l e (rmX 9 1) s m args below meth c H locs 1 6 Q (F0 m 22 ls [])) x ?_
  intro q r h kc kx
  obtain ⟨V, u1, u2, u3⟩ := q
  intro H locs ls hw hl
  have h : fX9_later_L22 V u1 u2 u3 = some r := h
  have hw : HW G s.heap V H locs := hw
  have hl : lv_has ls 5 [(0, .ref (G.2.2 0)), (1, .int u1), (2, .int u2), (3, .int u3)] := hl
  have kr : ∀ q : ((String ⊕ Int32) × VT), r = .inr (q) → Q = vx_MQ below (XQ G s.heap.size q.1 q.2) (XE G s.heap.size q.1 q.2) args s 1 6 (gA G s.heap.size) := fun q e => kr q (kx _ e).symm
  unfold fX9_later_L22 at h
  refine lv_iload_n hx hb dX9_later_22 rfl (lv_at hl 3 rfl) ?_
  refine lv_bipush (v := (40 : Int32)) hx hb dX9_later_23 (by decide) ?_
  refine lv_icmp_gt (tgt := 69) hx hb dX9_later_25 (by decide) (fun c11 => ?_) (fun c11 => ?_)
  · rw [if_pos c11] at h
    refine lv_iload_n hx hb dX9_later_69 rfl (lv_at hl 2 rfl) ?_
    rw [kr (.inr u2, V) (Option.some.inj h).symm]
    exact x_ri E hw (by decide) (by decide) dX9_later_70
  · rw [if_neg c11] at h
    refine lv_aload_n hx hb dX9_later_28 rfl (lv_at hl 0 rfl) ?_
    refine r_gr E hw 0 2 3 (N := 11) (C := RX9) (T := TX9) (by decide) rfl rfl (by decide) rfl iw_9 rfl lf_RX9_23 dX9_later_29 ?_
    refine r_giN E hw 3 7 (N := 13) (C := RX6) (T := TX6) (by decide) rfl rfl (by decide) rfl iw_6 rfl lf_RX9_274 dX9_later_32 ?_
    obtain ⟨y5, ey5, h⟩ := lt_some h
    refine lv_eqi ey5 ?_
    refine lv_istore (lv' := [(4, .int y5), (0, .ref (G.2.2 0)), (1, .int u1), (2, .int u2), (3, .int u3)]) hx hb dX9_later_35 hl (by decide) rfl (fun ls hl => ?_)
    refine lv_aload_n hx hb dX9_later_37 rfl (lv_at hl 1 rfl) ?_
    refine r_gr E hw 0 2 3 (N := 11) (C := RX9) (T := TX9) (by decide) rfl rfl (by decide) rfl iw_9 rfl lf_RX9_23 dX9_later_38 ?_
    refine lv_aload_n hx hb dX9_later_41 rfl (lv_at hl 1 rfl) ?_
    refine r_gr E hw 0 4 17 (N := 11) (C := RX9) (T := TX9) (by decide) rfl rfl (by decide) rfl iw_9 rfl lf_RX9_32 dX9_later_42 ?_
    refine lv_iload_n hx hb dX9_later_45 rfl (lv_at hl 2 rfl) ?_
    obtain ⟨V7, h6, h⟩ := ob_R_some h
    refine g_SV E hw (kX1_passTold (l := l) (G := G) hB ⟨by decide, by decide⟩ h6) yy_X1_passTold lm_RX9_270 rfl hl.1 (by decide) (by decide) (by decide) rfl (Nat.le_of_ble_eq_true rfl) dX9_later_46 (fun H locs hw => ?_)
    refine lv_aload_n hx hb dX9_later_49 rfl (lv_at hl 1 rfl) ?_
    refine r_gr E hw 0 2 3 (N := 11) (C := RX9) (T := TX9) (by decide) rfl rfl (by decide) rfl iw_9 rfl lf_RX9_23 dX9_later_50 ?_
    refine r_giN E hw 3 7 (N := 13) (C := RX6) (T := TX6) (by decide) rfl rfl (by decide) rfl iw_6 rfl lf_RX9_274 dX9_later_53 ?_
    refine lv_iload hx hb dX9_later_56 (lv_at hl 0 rfl) ?_
    refine lv_icmp_eq (tgt := 63) hx hb dX9_later_58 (by decide) (fun c10 => ?_) (fun c10 => ?_)
    · rw [if_pos c10] at h
      obtain ⟨y8, ey8, h⟩ := lt_some h
      refine lv_iinc (v := y8) (lv' := [(3, .int y8), (4, .int y5), (0, .ref (G.2.2 0)), (1, .int u1), (2, .int u2)]) hx hb dX9_later_63 hl (k := 4) rfl (by rw [ey8]; rfl) (by decide) rfl (fun ls hl => ?_)
      refine lv_goto (tgt := 22) hx hb dX9_later_66 (by decide) ?_
      exact kc (V7, u1, u2, y8) (Option.some.inj h).symm H locs ls hw (lv_sub hl [2, 3, 4, 0] rfl)
    · rw [if_neg c10] at h
      refine lv_iload_n hx hb dX9_later_61 rfl (lv_at hl 4 rfl) ?_
      refine lv_istore_n (lv' := [(2, .int u3), (4, .int y5), (0, .ref (G.2.2 0)), (1, .int u1), (3, .int u3)]) hx hb dX9_later_62 rfl hl (by decide) rfl (fun ls hl => ?_)
      obtain ⟨y9, ey9, h⟩ := lt_some h
      refine lv_iinc (v := y9) (lv' := [(3, .int y9), (2, .int u3), (4, .int y5), (0, .ref (G.2.2 0)), (1, .int u1)]) hx hb dX9_later_63 hl (k := 4) rfl (by rw [ey9]; rfl) (by decide) rfl (fun ls hl => ?_)
      refine lv_goto (tgt := 22) hx hb dX9_later_66 (by decide) ?_
      exact kc (V7, u1, u3, y9) (Option.some.inj h).symm H locs ls hw (lv_sub hl [3, 4, 1, 0] rfl)
set_option maxHeartbeats 4000000 in
set_option maxRecDepth 100000 in
theorem kX9_later {l : Launch} {G : GT} {Z : Nat → Nat × Nat} (ht : l.stackTraces = false) {V : VT} {x1 : Int32} {r : ((String ⊕ Int32) × VT)} (h : fX9_later V x1 = some r) : XI l G (SG Z) yX9_later (.code yX9_later cX9_later 5 (some .int)) 9 1 [.ref (G.2.2 0), .int x1] V r.1 r.2 := by
  intro sz
  refine xmet_of (Qs := fun sz => XQ G sz r.1 r.2) (Xs := fun sz => XE G sz r.1 r.2) (SG_ok Z) (by decide) (Nat.le_of_ble_eq_true rfl) ?_ sz
  intro p e s m args below meth c ls E hnt hw hl
  have hx := en_x E
  have hb := en_b E
  have hB := en_B E
  generalize hQ : vx_MQ _ _ _ _ _ _ _ _ = Q
  have kr : Q = vx_MQ below (XQ G s.heap.size r.1 r.2) (XE G s.heap.size r.1 r.2) args s 1 6 (gA G s.heap.size) := hQ.symm
  have hl : lv_has ls 5 [(0, .ref (G.2.2 0)), (1, .int x1)] := hl
  obtain ⟨H, eH⟩ : ∃ H, H = s.heap := ⟨_, rfl⟩
  obtain ⟨locs, elocs⟩ : ∃ z : List Loc, z = [] := ⟨_, rfl⟩
  have hw : HW G s.heap V H locs := by rw [eH, elocs]; exact hw
  show W p l e _ s m args below meth c s.heap [] 0 0 Q (F0 m 0 ls [])
  rw [← eH, ← elocs]
  unfold fX9_later at h
  refine lv_iload_n hx hb dX9_later_0 rfl (lv_at hl 1 rfl) ?_
  refine lv_iconst (v := (0 : Int32)) hx hb dX9_later_1 (by decide) ?_
  refine lv_bipush (v := (9 : Int32)) hx hb dX9_later_2 (by decide) ?_
  rcases ob_N_some h with ⟨E2, h1, h⟩ | ⟨h1, h⟩
  · have h := Option.some.inj h
    subst h
    rw [kr]
    exact x_SVe E hw (kX9_needNumber (l := l) (G := G) (Z := Z) ht h1) yy_X9_needNumber lm_RX9_222 rfl hl.1 (by decide) (by decide) (by decide) rfl (Nat.le_of_ble_eq_true rfl) dX9_later_4 hnt (by decide)
  · refine x_SVn E hw (kX9_needNumber (l := l) (G := G) (Z := Z) ht h1) yy_X9_needNumber lm_RX9_222 rfl hl.1 (by decide) (by decide) (by decide) rfl (Nat.le_of_ble_eq_true rfl) dX9_later_4 (fun H locs hw => ?_)
    refine lv_aload_n hx hb dX9_later_7 rfl (lv_at hl 0 rfl) ?_
    refine r_gr E hw 0 2 3 (N := 11) (C := RX9) (T := TX9) (by decide) rfl rfl (by decide) rfl iw_9 rfl lf_RX9_23 dX9_later_8 ?_
    refine lv_aload_n hx hb dX9_later_11 rfl (lv_at hl 0 rfl) ?_
    refine r_gr E hw 0 1 2 (N := 11) (C := RX9) (T := TX9) (by decide) rfl rfl (by decide) rfl iw_9 rfl lf_RX9_19 dX9_later_12 ?_
    obtain ⟨V4, h3, h⟩ := ob_R_some h
    refine g_VV E hw (kX6_copyFrom (l := l) (G := G) hB ⟨by decide, by decide⟩ ⟨by decide, by decide⟩ h3) yy_X6_copyFrom lm_RX9_71 rfl (by decide) rfl rfl hl.1 (by decide) (by decide) (by decide) rfl (Nat.le_of_ble_eq_true rfl) dX9_later_15 (fun H locs hw => ?_)
    refine lv_iconst (v := (0 : Int32)) hx hb dX9_later_18 (by decide) ?_
    refine lv_istore_n (lv' := [(2, .int (0 : Int32)), (0, .ref (G.2.2 0)), (1, .int x1)]) hx hb dX9_later_19 rfl hl (by decide) rfl (fun ls hl => ?_)
    refine lv_iconst (v := (1 : Int32)) hx hb dX9_later_20 (by decide) ?_
    refine lv_istore_n (lv' := [(3, .int (1 : Int32)), (2, .int (0 : Int32)), (0, .ref (G.2.2 0)), (1, .int x1)]) hx hb dX9_later_21 rfl hl (by decide) rfl (fun ls hl => ?_)
    obtain ⟨x13, h12, h⟩ := ob_R_some h
    have h := Option.some.inj h
    subst h
    exact wX9_later_L22 E ht hnt (fun q e => by subst e; exact kr) FV (V4, x1, (0 : Int32), (1 : Int32)) h12 H locs ls hw (lv_sub hl [2, 3, 1, 0] rfl)
/-! ===== AllSawIt.denied(Z)I ===== -/
theorem dX9_denied_0 : decode cX9_denied 0 = .ok (.aload_n 0, 1) := by decide +kernel
theorem dX9_denied_1 : decode cX9_denied 1 = .ok (.getfield 12, 3) := by decide +kernel
theorem dX9_denied_4 : decode cX9_denied 4 = .ok (.aload_n 0, 1) := by decide +kernel
theorem dX9_denied_5 : decode cX9_denied 5 = .ok (.getfield 19, 3) := by decide +kernel
theorem dX9_denied_8 : decode cX9_denied 8 = .ok (.getfield 225, 3) := by decide +kernel
theorem dX9_denied_11 : decode cX9_denied 11 = .ok (.invokestatic 280, 3) := by decide +kernel
theorem dX9_denied_14 : decode cX9_denied 14 = .ok (.istore_n 2, 1) := by decide +kernel
theorem dX9_denied_15 : decode cX9_denied 15 = .ok (.iconst 0, 1) := by decide +kernel
theorem dX9_denied_16 : decode cX9_denied 16 = .ok (.istore_n 3, 1) := by decide +kernel
theorem dX9_denied_17 : decode cX9_denied 17 = .ok (.iload_n 2, 1) := by decide +kernel
theorem dX9_denied_18 : decode cX9_denied 18 = .ok (.ifCond .eq 40, 3) := by decide +kernel
theorem dX9_denied_21 : decode cX9_denied 21 = .ok (.iload_n 1, 1) := by decide +kernel
theorem dX9_denied_22 : decode cX9_denied 22 = .ok (.ifCond .eq 20, 3) := by decide +kernel
theorem dX9_denied_25 : decode cX9_denied 25 = .ok (.aload_n 0, 1) := by decide +kernel
theorem dX9_denied_26 : decode cX9_denied 26 = .ok (.getfield 12, 3) := by decide +kernel
theorem dX9_denied_29 : decode cX9_denied 29 = .ok (.aload_n 0, 1) := by decide +kernel
theorem dX9_denied_30 : decode cX9_denied 30 = .ok (.getfield 19, 3) := by decide +kernel
theorem dX9_denied_33 : decode cX9_denied 33 = .ok (.getfield 225, 3) := by decide +kernel
theorem dX9_denied_36 : decode cX9_denied 36 = .ok (.invokestatic 286, 3) := by decide +kernel
theorem dX9_denied_39 : decode cX9_denied 39 = .ok (.goto 18, 3) := by decide +kernel
theorem dX9_denied_42 : decode cX9_denied 42 = .ok (.aload_n 0, 1) := by decide +kernel
theorem dX9_denied_43 : decode cX9_denied 43 = .ok (.getfield 12, 3) := by decide +kernel
theorem dX9_denied_46 : decode cX9_denied 46 = .ok (.aload_n 0, 1) := by decide +kernel
theorem dX9_denied_47 : decode cX9_denied 47 = .ok (.getfield 19, 3) := by decide +kernel
theorem dX9_denied_50 : decode cX9_denied 50 = .ok (.getfield 225, 3) := by decide +kernel
theorem dX9_denied_53 : decode cX9_denied 53 = .ok (.iconst 0, 1) := by decide +kernel
theorem dX9_denied_54 : decode cX9_denied 54 = .ok (.invokestatic 290, 3) := by decide +kernel
theorem dX9_denied_57 : decode cX9_denied 57 = .ok (.istore_n 3, 1) := by decide +kernel
theorem dX9_denied_58 : decode cX9_denied 58 = .ok (.aload_n 0, 1) := by decide +kernel
theorem dX9_denied_59 : decode cX9_denied 59 = .ok (.getfield 12, 3) := by decide +kernel
theorem dX9_denied_62 : decode cX9_denied 62 = .ok (.iconst 0, 1) := by decide +kernel
theorem dX9_denied_63 : decode cX9_denied 63 = .ok (.putfield 64, 3) := by decide +kernel
theorem dX9_denied_66 : decode cX9_denied 66 = .ok (.iload_n 2, 1) := by decide +kernel
theorem dX9_denied_67 : decode cX9_denied 67 = .ok (.ifCond .ne 14, 3) := by decide +kernel
theorem dX9_denied_70 : decode cX9_denied 70 = .ok (.new 85, 3) := by decide +kernel
theorem dX9_denied_73 : decode cX9_denied 73 = .ok (.dup, 1) := by decide +kernel
theorem dX9_denied_74 : decode cX9_denied 74 = .ok (.ldc_w 294, 3) := by decide +kernel
theorem dX9_denied_77 : decode cX9_denied 77 = .ok (.invokespecial 89, 3) := by decide +kernel
theorem dX9_denied_80 : decode cX9_denied 80 = .ok (.athrow, 1) := by decide +kernel
theorem dX9_denied_81 : decode cX9_denied 81 = .ok (.iload_n 3, 1) := by decide +kernel
theorem dX9_denied_82 : decode cX9_denied 82 = .ok (.ireturn, 1) := by decide +kernel
noncomputable def fX9_denied_j58 (V : VT) (u2 : Int32) (u3 : Int32) : Option ((String ⊕ Int32) × VT) := lt_ (va_up V 1 (upd (V 1) 1 (0 : Int32))) fun V3 => if u2 = 0 then (some (.inl "java/lang/IllegalArgumentException", V3)) else (some (.inr u3, V3))
noncomputable def fX9_denied_j57 (V : VT) (u2 : Int32) (t0 : Int32) : Option ((String ⊕ Int32) × VT) := fX9_denied_j58 V u2 t0
noncomputable def fX9_denied (V : VT) (x1 : Int32) : Option ((String ⊕ Int32) × VT) := ob_R (fX2_isTold V (V 2 3)) fun y2 => if y2 = 0 then (fX9_denied_j58 V y2 (0 : Int32)) else (if x1 = 0 then (ob_R (fX2_fitting V (V 2 3) (0 : Int32)) fun y6 => fX9_denied_j57 V y2 y6) else (ob_R (fX2_inAll V (V 2 3)) fun y8 => fX9_denied_j57 V y2 y8))
set_option maxHeartbeats 4000000 in
set_option maxRecDepth 100000 in
theorem wX9_denied_j58 {p : Program} {l : Launch} {e : Env} {s : State} {m : MethodId} {args : Array Value} {below : List Frame} {meth : Method} {c : Code} {G : GT} {Z : Nat → Nat × Nat} {Q : State → Prop} (E : En p s m args c meth cX9_denied 4 RX9 (some .int) G (SG Z)) (ht : l.stackTraces = false) (hnt : ∀ x ∈ c.exceptionTable.toList, False) {V : VT} {u2 : Int32} {u3 : Int32} {r : ((String ⊕ Int32) × VT)} (h : fX9_denied_j58 V u2 u3 = some r) (kr : Q = vx_MQ below (XQ G s.heap.size r.1 r.2) (XE G s.heap.size r.1 r.2) args s 1 6 (gA G s.heap.size)) {H : Heap} {locs : List Loc} {ls : Array Slot} (hw : HW G s.heap V H locs) (hl : lv_has ls 4 [(0, .ref (G.2.2 0)), (2, .int u2), (3, .int u3)]) : W p l e (rmX 7 1) s m args below meth c H locs 0 0 Q (F0 m 58 ls []) := by
  have hx := en_x E
  have hb := en_b E
  have hB := en_B E
  unfold fX9_denied_j58 at h
  refine lv_aload_n hx hb dX9_denied_58 rfl (lv_at hl 0 rfl) ?_
  refine r_gr E hw 0 0 1 (N := 11) (C := RX9) (T := TX9) (by decide) rfl rfl (by decide) rfl iw_9 rfl lf_RX9_12 dX9_denied_59 ?_
  refine lv_iconst (v := (0 : Int32)) hx hb dX9_denied_62 (by decide) ?_
  obtain ⟨V3, eV3, h⟩ := lt_some h
  refine r_piN E hw 1 1 (N := 6) (C := RX8) (T := TX8) (ty0 := tyX8) (ty := .int) (by decide) rfl rfl (by decide) rfl iw_8 rfl tyX8_ok nmX8 rfl rfl (vp_nar_int _) rfl lf_RX9_64 eV3 dX9_denied_63 (fun H locs hw => ?_)
  refine lv_iload_n hx hb dX9_denied_66 rfl (lv_at hl 1 rfl) ?_
  refine lv_if_ne (tgt := 81) hx hb dX9_denied_67 (by decide) (fun c4 => ?_) (fun c4 => ?_)
  · rw [if_neg c4] at h
    refine lv_iload_n hx hb dX9_denied_81 rfl (lv_at hl 2 rfl) ?_
    have h := Option.some.inj h
    subst h
    rw [kr]
    exact x_ri E hw (by decide) (by decide) dX9_denied_82
  · rw [if_pos c4] at h
    have h := Option.some.inj h
    subst h
    rw [kr]
    exact x_th (w := 9) (cls := "java/lang/IllegalArgumentException") E hw ht (by decide) rfl rfl (by decide) tw1_85 tw2_85 tw3_85 tw4_85 tw6_85 hl.1 dX9_denied_70 dX9_denied_73 (Or.inr ⟨dX9_denied_74, dX9_denied_77, dX9_denied_80⟩) hnt (by decide) (by decide) (Nat.le_of_ble_eq_true rfl) (by decide)
set_option maxHeartbeats 4000000 in
set_option maxRecDepth 100000 in
theorem wX9_denied_j57 {p : Program} {l : Launch} {e : Env} {s : State} {m : MethodId} {args : Array Value} {below : List Frame} {meth : Method} {c : Code} {G : GT} {Z : Nat → Nat × Nat} {Q : State → Prop} (E : En p s m args c meth cX9_denied 4 RX9 (some .int) G (SG Z)) (ht : l.stackTraces = false) (hnt : ∀ x ∈ c.exceptionTable.toList, False) {V : VT} {u2 : Int32} {t0 : Int32} {r : ((String ⊕ Int32) × VT)} (h : fX9_denied_j57 V u2 t0 = some r) (kr : Q = vx_MQ below (XQ G s.heap.size r.1 r.2) (XE G s.heap.size r.1 r.2) args s 1 6 (gA G s.heap.size)) {H : Heap} {locs : List Loc} {ls : Array Slot} (hw : HW G s.heap V H locs) (hl : lv_has ls 4 [(0, .ref (G.2.2 0)), (2, .int u2)]) : W p l e (rmX 7 1) s m args below meth c H locs 0 0 Q (F0 m 57 ls [.int t0]) := by
  have hx := en_x E
  have hb := en_b E
  have hB := en_B E
  unfold fX9_denied_j57 at h
  refine lv_istore_n (lv' := [(3, .int t0), (0, .ref (G.2.2 0)), (2, .int u2)]) hx hb dX9_denied_57 rfl hl (by decide) rfl (fun ls hl => ?_)
  exact wX9_denied_j58 E ht hnt h kr hw (lv_sub hl [1, 2, 0] rfl)
set_option maxHeartbeats 4000000 in
set_option maxRecDepth 100000 in
theorem kX9_denied {l : Launch} {G : GT} {Z : Nat → Nat × Nat} (ht : l.stackTraces = false) {V : VT} {x1 : Int32} {r : ((String ⊕ Int32) × VT)} (h : fX9_denied V x1 = some r) : XI l G (SG Z) yX9_denied (.code yX9_denied cX9_denied 4 (some .int)) 7 1 [.ref (G.2.2 0), .int x1] V r.1 r.2 := by
  intro sz
  refine xmet_of (Qs := fun sz => XQ G sz r.1 r.2) (Xs := fun sz => XE G sz r.1 r.2) (SG_ok Z) (by decide) (Nat.le_of_ble_eq_true rfl) ?_ sz
  intro p e s m args below meth c ls E hnt hw hl
  have hx := en_x E
  have hb := en_b E
  have hB := en_B E
  generalize hQ : vx_MQ _ _ _ _ _ _ _ _ = Q
  have kr : Q = vx_MQ below (XQ G s.heap.size r.1 r.2) (XE G s.heap.size r.1 r.2) args s 1 6 (gA G s.heap.size) := hQ.symm
  have hl : lv_has ls 4 [(0, .ref (G.2.2 0)), (1, .int x1)] := hl
  obtain ⟨H, eH⟩ : ∃ H, H = s.heap := ⟨_, rfl⟩
  obtain ⟨locs, elocs⟩ : ∃ z : List Loc, z = [] := ⟨_, rfl⟩
  have hw : HW G s.heap V H locs := by rw [eH, elocs]; exact hw
  show W p l e _ s m args below meth c s.heap [] 0 0 Q (F0 m 0 ls [])
  rw [← eH, ← elocs]
  unfold fX9_denied at h
  refine lv_aload_n hx hb dX9_denied_0 rfl (lv_at hl 0 rfl) ?_
  refine r_gr E hw 0 0 1 (N := 11) (C := RX9) (T := TX9) (by decide) rfl rfl (by decide) rfl iw_9 rfl lf_RX9_12 dX9_denied_1 ?_
  refine lv_aload_n hx hb dX9_denied_4 rfl (lv_at hl 0 rfl) ?_
  refine r_gr E hw 0 1 2 (N := 11) (C := RX9) (T := TX9) (by decide) rfl rfl (by decide) rfl iw_9 rfl lf_RX9_19 dX9_denied_5 ?_
  refine r_giN E hw 2 3 (N := 13) (C := RX6) (T := TX6) (by decide) rfl rfl (by decide) rfl iw_6 rfl lf_RX9_225 dX9_denied_8 ?_
  obtain ⟨y2, h1, h⟩ := ob_R_some h
  refine g_SI E hw (kX2_isTold (l := l) (G := G) hB  h1) yy_X2_isTold lm_RX9_280 rfl hl.1 (by decide) (by decide) (by decide) rfl (Nat.le_of_ble_eq_true rfl) dX9_denied_11 (fun H locs hw => ?_)
  refine lv_istore_n (lv' := [(2, .int y2), (0, .ref (G.2.2 0)), (1, .int x1)]) hx hb dX9_denied_14 rfl hl (by decide) rfl (fun ls hl => ?_)
  refine lv_iconst (v := (0 : Int32)) hx hb dX9_denied_15 (by decide) ?_
  refine lv_istore_n (lv' := [(3, .int (0 : Int32)), (2, .int y2), (0, .ref (G.2.2 0)), (1, .int x1)]) hx hb dX9_denied_16 rfl hl (by decide) rfl (fun ls hl => ?_)
  refine lv_iload_n hx hb dX9_denied_17 rfl (lv_at hl 1 rfl) ?_
  refine lv_if_eq (tgt := 58) hx hb dX9_denied_18 (by decide) (fun c10 => ?_) (fun c10 => ?_)
  · rw [if_pos c10] at h
    exact wX9_denied_j58 E ht hnt h kr hw (lv_sub hl [2, 1, 0] rfl)
  · rw [if_neg c10] at h
    refine lv_iload_n hx hb dX9_denied_21 rfl (lv_at hl 3 rfl) ?_
    refine lv_if_eq (tgt := 42) hx hb dX9_denied_22 (by decide) (fun c9 => ?_) (fun c9 => ?_)
    · rw [if_pos c9] at h
      refine lv_aload_n hx hb dX9_denied_42 rfl (lv_at hl 2 rfl) ?_
      refine r_gr E hw 0 0 1 (N := 11) (C := RX9) (T := TX9) (by decide) rfl rfl (by decide) rfl iw_9 rfl lf_RX9_12 dX9_denied_43 ?_
      refine lv_aload_n hx hb dX9_denied_46 rfl (lv_at hl 2 rfl) ?_
      refine r_gr E hw 0 1 2 (N := 11) (C := RX9) (T := TX9) (by decide) rfl rfl (by decide) rfl iw_9 rfl lf_RX9_19 dX9_denied_47 ?_
      refine r_giN E hw 2 3 (N := 13) (C := RX6) (T := TX6) (by decide) rfl rfl (by decide) rfl iw_6 rfl lf_RX9_225 dX9_denied_50 ?_
      refine lv_iconst (v := (0 : Int32)) hx hb dX9_denied_53 (by decide) ?_
      obtain ⟨y6, h5, h⟩ := ob_R_some h
      refine g_SI E hw (kX2_fitting (l := l) (G := G) hB  h5) yy_X2_fitting lm_RX9_290 rfl hl.1 (by decide) (by decide) (by decide) rfl (Nat.le_of_ble_eq_true rfl) dX9_denied_54 (fun H locs hw => ?_)
      exact wX9_denied_j57 E ht hnt h kr hw (lv_sub hl [2, 1] rfl)
    · rw [if_neg c9] at h
      refine lv_aload_n hx hb dX9_denied_25 rfl (lv_at hl 2 rfl) ?_
      refine r_gr E hw 0 0 1 (N := 11) (C := RX9) (T := TX9) (by decide) rfl rfl (by decide) rfl iw_9 rfl lf_RX9_12 dX9_denied_26 ?_
      refine lv_aload_n hx hb dX9_denied_29 rfl (lv_at hl 2 rfl) ?_
      refine r_gr E hw 0 1 2 (N := 11) (C := RX9) (T := TX9) (by decide) rfl rfl (by decide) rfl iw_9 rfl lf_RX9_19 dX9_denied_30 ?_
      refine r_giN E hw 2 3 (N := 13) (C := RX6) (T := TX6) (by decide) rfl rfl (by decide) rfl iw_6 rfl lf_RX9_225 dX9_denied_33 ?_
      obtain ⟨y8, h7, h⟩ := ob_R_some h
      refine g_SI E hw (kX2_inAll (l := l) (G := G) hB  h7) yy_X2_inAll lm_RX9_286 rfl hl.1 (by decide) (by decide) (by decide) rfl (Nat.le_of_ble_eq_true rfl) dX9_denied_36 (fun H locs hw => ?_)
      refine lv_goto (tgt := 57) hx hb dX9_denied_39 (by decide) ?_
      exact wX9_denied_j57 E ht hnt h kr hw (lv_sub hl [2, 1] rfl)
/-! ===== AllSawIt.ask()I ===== -/
theorem dX9_ask_0 : decode cX9_ask 0 = .ok (.aload_n 0, 1) := by decide +kernel
theorem dX9_ask_1 : decode cX9_ask 1 = .ok (.getfield 12, 3) := by decide +kernel
theorem dX9_ask_4 : decode cX9_ask 4 = .ok (.aload_n 0, 1) := by decide +kernel
theorem dX9_ask_5 : decode cX9_ask 5 = .ok (.getfield 19, 3) := by decide +kernel
theorem dX9_ask_8 : decode cX9_ask 8 = .ok (.getfield 225, 3) := by decide +kernel
theorem dX9_ask_11 : decode cX9_ask 11 = .ok (.invokestatic 280, 3) := by decide +kernel
theorem dX9_ask_14 : decode cX9_ask 14 = .ok (.istore_n 1, 1) := by decide +kernel
theorem dX9_ask_15 : decode cX9_ask 15 = .ok (.iload_n 1, 1) := by decide +kernel
theorem dX9_ask_16 : decode cX9_ask 16 = .ok (.ifCond .eq 20, 3) := by decide +kernel
theorem dX9_ask_19 : decode cX9_ask 19 = .ok (.aload_n 0, 1) := by decide +kernel
theorem dX9_ask_20 : decode cX9_ask 20 = .ok (.getfield 12, 3) := by decide +kernel
theorem dX9_ask_23 : decode cX9_ask 23 = .ok (.aload_n 0, 1) := by decide +kernel
theorem dX9_ask_24 : decode cX9_ask 24 = .ok (.getfield 19, 3) := by decide +kernel
theorem dX9_ask_27 : decode cX9_ask 27 = .ok (.getfield 225, 3) := by decide +kernel
theorem dX9_ask_30 : decode cX9_ask 30 = .ok (.invokestatic 296, 3) := by decide +kernel
theorem dX9_ask_33 : decode cX9_ask 33 = .ok (.goto 4, 3) := by decide +kernel
theorem dX9_ask_36 : decode cX9_ask 36 = .ok (.iconst (-1), 1) := by decide +kernel
theorem dX9_ask_37 : decode cX9_ask 37 = .ok (.istore_n 2, 1) := by decide +kernel
theorem dX9_ask_38 : decode cX9_ask 38 = .ok (.aload_n 0, 1) := by decide +kernel
theorem dX9_ask_39 : decode cX9_ask 39 = .ok (.getfield 12, 3) := by decide +kernel
theorem dX9_ask_42 : decode cX9_ask 42 = .ok (.iconst 0, 1) := by decide +kernel
theorem dX9_ask_43 : decode cX9_ask 43 = .ok (.putfield 64, 3) := by decide +kernel
theorem dX9_ask_46 : decode cX9_ask 46 = .ok (.iload_n 1, 1) := by decide +kernel
theorem dX9_ask_47 : decode cX9_ask 47 = .ok (.ifCond .ne 14, 3) := by decide +kernel
theorem dX9_ask_50 : decode cX9_ask 50 = .ok (.new 85, 3) := by decide +kernel
theorem dX9_ask_53 : decode cX9_ask 53 = .ok (.dup, 1) := by decide +kernel
theorem dX9_ask_54 : decode cX9_ask 54 = .ok (.ldc_w 294, 3) := by decide +kernel
theorem dX9_ask_57 : decode cX9_ask 57 = .ok (.invokespecial 89, 3) := by decide +kernel
theorem dX9_ask_60 : decode cX9_ask 60 = .ok (.athrow, 1) := by decide +kernel
theorem dX9_ask_61 : decode cX9_ask 61 = .ok (.iload_n 2, 1) := by decide +kernel
theorem dX9_ask_62 : decode cX9_ask 62 = .ok (.ireturn, 1) := by decide +kernel
noncomputable def fX9_ask_j37 (V : VT) (u1 : Int32) (t0 : Int32) : Option ((String ⊕ Int32) × VT) := lt_ (va_up V 1 (upd (V 1) 1 (0 : Int32))) fun V3 => if u1 = 0 then (some (.inl "java/lang/IllegalArgumentException", V3)) else (some (.inr t0, V3))
noncomputable def fX9_ask (V : VT) : Option ((String ⊕ Int32) × VT) := ob_R (fX2_isTold V (V 2 3)) fun y2 => if y2 = 0 then (fX9_ask_j37 V y2 (-1 : Int32)) else (ob_R (fX2_parting V (V 2 3)) fun y6 => fX9_ask_j37 V y2 y6)
set_option maxHeartbeats 4000000 in
set_option maxRecDepth 100000 in
theorem wX9_ask_j37 {p : Program} {l : Launch} {e : Env} {s : State} {m : MethodId} {args : Array Value} {below : List Frame} {meth : Method} {c : Code} {G : GT} {Z : Nat → Nat × Nat} {Q : State → Prop} (E : En p s m args c meth cX9_ask 3 RX9 (some .int) G (SG Z)) (ht : l.stackTraces = false) (hnt : ∀ x ∈ c.exceptionTable.toList, False) {V : VT} {u1 : Int32} {t0 : Int32} {r : ((String ⊕ Int32) × VT)} (h : fX9_ask_j37 V u1 t0 = some r) (kr : Q = vx_MQ below (XQ G s.heap.size r.1 r.2) (XE G s.heap.size r.1 r.2) args s 1 6 (gA G s.heap.size)) {H : Heap} {locs : List Loc} {ls : Array Slot} (hw : HW G s.heap V H locs) (hl : lv_has ls 3 [(0, .ref (G.2.2 0)), (1, .int u1)]) : W p l e (rmX 7 1) s m args below meth c H locs 0 0 Q (F0 m 37 ls [.int t0]) := by
  have hx := en_x E
  have hb := en_b E
  have hB := en_B E
  unfold fX9_ask_j37 at h
  refine lv_istore_n (lv' := [(2, .int t0), (0, .ref (G.2.2 0)), (1, .int u1)]) hx hb dX9_ask_37 rfl hl (by decide) rfl (fun ls hl => ?_)
  refine lv_aload_n hx hb dX9_ask_38 rfl (lv_at hl 1 rfl) ?_
  refine r_gr E hw 0 0 1 (N := 11) (C := RX9) (T := TX9) (by decide) rfl rfl (by decide) rfl iw_9 rfl lf_RX9_12 dX9_ask_39 ?_
  refine lv_iconst (v := (0 : Int32)) hx hb dX9_ask_42 (by decide) ?_
  obtain ⟨V3, eV3, h⟩ := lt_some h
  refine r_piN E hw 1 1 (N := 6) (C := RX8) (T := TX8) (ty0 := tyX8) (ty := .int) (by decide) rfl rfl (by decide) rfl iw_8 rfl tyX8_ok nmX8 rfl rfl (vp_nar_int _) rfl lf_RX9_64 eV3 dX9_ask_43 (fun H locs hw => ?_)
  refine lv_iload_n hx hb dX9_ask_46 rfl (lv_at hl 2 rfl) ?_
  refine lv_if_ne (tgt := 61) hx hb dX9_ask_47 (by decide) (fun c4 => ?_) (fun c4 => ?_)
  · rw [if_neg c4] at h
    refine lv_iload_n hx hb dX9_ask_61 rfl (lv_at hl 0 rfl) ?_
    have h := Option.some.inj h
    subst h
    rw [kr]
    exact x_ri E hw (by decide) (by decide) dX9_ask_62
  · rw [if_pos c4] at h
    have h := Option.some.inj h
    subst h
    rw [kr]
    exact x_th (w := 9) (cls := "java/lang/IllegalArgumentException") E hw ht (by decide) rfl rfl (by decide) tw1_85 tw2_85 tw3_85 tw4_85 tw6_85 hl.1 dX9_ask_50 dX9_ask_53 (Or.inr ⟨dX9_ask_54, dX9_ask_57, dX9_ask_60⟩) hnt (by decide) (by decide) (Nat.le_of_ble_eq_true rfl) (by decide)
set_option maxHeartbeats 4000000 in
set_option maxRecDepth 100000 in
theorem kX9_ask {l : Launch} {G : GT} {Z : Nat → Nat × Nat} (ht : l.stackTraces = false) {V : VT} {r : ((String ⊕ Int32) × VT)} (h : fX9_ask V = some r) : XI l G (SG Z) yX9_ask (.code yX9_ask cX9_ask 3 (some .int)) 7 1 [.ref (G.2.2 0)] V r.1 r.2 := by
  intro sz
  refine xmet_of (Qs := fun sz => XQ G sz r.1 r.2) (Xs := fun sz => XE G sz r.1 r.2) (SG_ok Z) (by decide) (Nat.le_of_ble_eq_true rfl) ?_ sz
  intro p e s m args below meth c ls E hnt hw hl
  have hx := en_x E
  have hb := en_b E
  have hB := en_B E
  generalize hQ : vx_MQ _ _ _ _ _ _ _ _ = Q
  have kr : Q = vx_MQ below (XQ G s.heap.size r.1 r.2) (XE G s.heap.size r.1 r.2) args s 1 6 (gA G s.heap.size) := hQ.symm
  have hl : lv_has ls 3 [(0, .ref (G.2.2 0))] := hl
  obtain ⟨H, eH⟩ : ∃ H, H = s.heap := ⟨_, rfl⟩
  obtain ⟨locs, elocs⟩ : ∃ z : List Loc, z = [] := ⟨_, rfl⟩
  have hw : HW G s.heap V H locs := by rw [eH, elocs]; exact hw
  show W p l e _ s m args below meth c s.heap [] 0 0 Q (F0 m 0 ls [])
  rw [← eH, ← elocs]
  unfold fX9_ask at h
  refine lv_aload_n hx hb dX9_ask_0 rfl (lv_at hl 0 rfl) ?_
  refine r_gr E hw 0 0 1 (N := 11) (C := RX9) (T := TX9) (by decide) rfl rfl (by decide) rfl iw_9 rfl lf_RX9_12 dX9_ask_1 ?_
  refine lv_aload_n hx hb dX9_ask_4 rfl (lv_at hl 0 rfl) ?_
  refine r_gr E hw 0 1 2 (N := 11) (C := RX9) (T := TX9) (by decide) rfl rfl (by decide) rfl iw_9 rfl lf_RX9_19 dX9_ask_5 ?_
  refine r_giN E hw 2 3 (N := 13) (C := RX6) (T := TX6) (by decide) rfl rfl (by decide) rfl iw_6 rfl lf_RX9_225 dX9_ask_8 ?_
  obtain ⟨y2, h1, h⟩ := ob_R_some h
  refine g_SI E hw (kX2_isTold (l := l) (G := G) hB  h1) yy_X2_isTold lm_RX9_280 rfl hl.1 (by decide) (by decide) (by decide) rfl (Nat.le_of_ble_eq_true rfl) dX9_ask_11 (fun H locs hw => ?_)
  refine lv_istore_n (lv' := [(1, .int y2), (0, .ref (G.2.2 0))]) hx hb dX9_ask_14 rfl hl (by decide) rfl (fun ls hl => ?_)
  refine lv_iload_n hx hb dX9_ask_15 rfl (lv_at hl 0 rfl) ?_
  refine lv_if_eq (tgt := 36) hx hb dX9_ask_16 (by decide) (fun c7 => ?_) (fun c7 => ?_)
  · rw [if_pos c7] at h
    refine lv_iconst (v := (-1 : Int32)) hx hb dX9_ask_36 (by decide) ?_
    exact wX9_ask_j37 E ht hnt h kr hw (lv_sub hl [1, 0] rfl)
  · rw [if_neg c7] at h
    refine lv_aload_n hx hb dX9_ask_19 rfl (lv_at hl 1 rfl) ?_
    refine r_gr E hw 0 0 1 (N := 11) (C := RX9) (T := TX9) (by decide) rfl rfl (by decide) rfl iw_9 rfl lf_RX9_12 dX9_ask_20 ?_
    refine lv_aload_n hx hb dX9_ask_23 rfl (lv_at hl 1 rfl) ?_
    refine r_gr E hw 0 1 2 (N := 11) (C := RX9) (T := TX9) (by decide) rfl rfl (by decide) rfl iw_9 rfl lf_RX9_19 dX9_ask_24 ?_
    refine r_giN E hw 2 3 (N := 13) (C := RX6) (T := TX6) (by decide) rfl rfl (by decide) rfl iw_6 rfl lf_RX9_225 dX9_ask_27 ?_
    obtain ⟨y6, h5, h⟩ := ob_R_some h
    refine g_SI E hw (kX2_parting (l := l) (G := G) hB  h5) yy_X2_parting lm_RX9_296 rfl hl.1 (by decide) (by decide) (by decide) rfl (Nat.le_of_ble_eq_true rfl) dX9_ask_30 (fun H locs hw => ?_)
    refine lv_goto (tgt := 37) hx hb dX9_ask_33 (by decide) ?_
    exact wX9_ask_j37 E ht hnt h kr hw (lv_sub hl [1, 0] rfl)
/-! ===== AllSawIt.eyes(I)I ===== -/
theorem dX9_eyes_0 : decode cX9_eyes 0 = .ok (.iload_n 1, 1) := by decide +kernel
theorem dX9_eyes_1 : decode cX9_eyes 1 = .ok (.invokestatic 175, 3) := by decide +kernel
theorem dX9_eyes_4 : decode cX9_eyes 4 = .ok (.aload_n 0, 1) := by decide +kernel
theorem dX9_eyes_5 : decode cX9_eyes 5 = .ok (.getfield 52, 3) := by decide +kernel
theorem dX9_eyes_8 : decode cX9_eyes 8 = .ok (.aload_n 0, 1) := by decide +kernel
theorem dX9_eyes_9 : decode cX9_eyes 9 = .ok (.getfield 19, 3) := by decide +kernel
theorem dX9_eyes_12 : decode cX9_eyes 12 = .ok (.aload_n 0, 1) := by decide +kernel
theorem dX9_eyes_13 : decode cX9_eyes 13 = .ok (.getfield 32, 3) := by decide +kernel
theorem dX9_eyes_16 : decode cX9_eyes 16 = .ok (.iload_n 1, 1) := by decide +kernel
theorem dX9_eyes_17 : decode cX9_eyes 17 = .ok (.invokevirtual 302, 3) := by decide +kernel
theorem dX9_eyes_20 : decode cX9_eyes 20 = .ok (.ireturn, 1) := by decide +kernel
noncomputable def fX9_eyes (V : VT) (x1 : Int32) : Option ((String ⊕ Int32) × VT) := ob_N (fX9_needHour V x1) (fun E2 => some (.inl E2, V)) (ob_I (fX5_fewestEyes V 2 x1) fun y4 V5 => some (.inr y4, V5))
set_option maxHeartbeats 4000000 in
set_option maxRecDepth 100000 in
theorem kX9_eyes {l : Launch} {G : GT} {Z : Nat → Nat × Nat} (ht : l.stackTraces = false) {V : VT} {x1 : Int32} {r : ((String ⊕ Int32) × VT)} (h : fX9_eyes V x1 = some r) : XI l G (SG Z) yX9_eyes (.code yX9_eyes cX9_eyes 2 (some .int)) 9 1 [.ref (G.2.2 0), .int x1] V r.1 r.2 := by
  intro sz
  refine xmet_of (Qs := fun sz => XQ G sz r.1 r.2) (Xs := fun sz => XE G sz r.1 r.2) (SG_ok Z) (by decide) (Nat.le_of_ble_eq_true rfl) ?_ sz
  intro p e s m args below meth c ls E hnt hw hl
  have hx := en_x E
  have hb := en_b E
  have hB := en_B E
  generalize hQ : vx_MQ _ _ _ _ _ _ _ _ = Q
  have kr : Q = vx_MQ below (XQ G s.heap.size r.1 r.2) (XE G s.heap.size r.1 r.2) args s 1 6 (gA G s.heap.size) := hQ.symm
  have hl : lv_has ls 2 [(0, .ref (G.2.2 0)), (1, .int x1)] := hl
  obtain ⟨H, eH⟩ : ∃ H, H = s.heap := ⟨_, rfl⟩
  obtain ⟨locs, elocs⟩ : ∃ z : List Loc, z = [] := ⟨_, rfl⟩
  have hw : HW G s.heap V H locs := by rw [eH, elocs]; exact hw
  show W p l e _ s m args below meth c s.heap [] 0 0 Q (F0 m 0 ls [])
  rw [← eH, ← elocs]
  unfold fX9_eyes at h
  refine lv_iload_n hx hb dX9_eyes_0 rfl (lv_at hl 1 rfl) ?_
  rcases ob_N_some h with ⟨E2, h1, h⟩ | ⟨h1, h⟩
  · have h := Option.some.inj h
    subst h
    rw [kr]
    exact x_SVe E hw (kX9_needHour (l := l) (G := G) (Z := Z) ht h1) yy_X9_needHour lm_RX9_175 rfl hl.1 (by decide) (by decide) (by decide) rfl (Nat.le_of_ble_eq_true rfl) dX9_eyes_1 hnt (by decide)
  · refine x_SVn E hw (kX9_needHour (l := l) (G := G) (Z := Z) ht h1) yy_X9_needHour lm_RX9_175 rfl hl.1 (by decide) (by decide) (by decide) rfl (Nat.le_of_ble_eq_true rfl) dX9_eyes_1 (fun H locs hw => ?_)
    refine lv_aload_n hx hb dX9_eyes_4 rfl (lv_at hl 0 rfl) ?_
    refine r_gr E hw 0 8 21 (N := 11) (C := RX9) (T := TX9) (by decide) rfl rfl (by decide) rfl iw_9 rfl lf_RX9_52 dX9_eyes_5 ?_
    refine lv_aload_n hx hb dX9_eyes_8 rfl (lv_at hl 0 rfl) ?_
    refine r_gr E hw 0 1 2 (N := 11) (C := RX9) (T := TX9) (by decide) rfl rfl (by decide) rfl iw_9 rfl lf_RX9_19 dX9_eyes_9 ?_
    refine lv_aload_n hx hb dX9_eyes_12 rfl (lv_at hl 0 rfl) ?_
    refine r_gr E hw 0 4 17 (N := 11) (C := RX9) (T := TX9) (by decide) rfl rfl (by decide) rfl iw_9 rfl lf_RX9_32 dX9_eyes_13 ?_
    refine lv_iload_n hx hb dX9_eyes_16 rfl (lv_at hl 1 rfl) ?_
    obtain ⟨y4, V5, h3, h⟩ := ob_I_some h
    refine g_VI E hw (kX5_fewestEyes (l := l) (G := G) hB ⟨by decide, by decide⟩ h3) yy_X5_fewestEyes lm_RX9_302 rfl (by decide) rfl rfl hl.1 (by decide) (by decide) (by decide) rfl (Nat.le_of_ble_eq_true rfl) dX9_eyes_17 (fun H locs hw => ?_)
    have h := Option.some.inj h
    subst h
    rw [kr]
    exact x_ri E hw (by decide) (by decide) dX9_eyes_20
/-! ===== AllSawIt.alone(II)I ===== -/
theorem dX9_alone_0 : decode cX9_alone 0 = .ok (.iload_n 1, 1) := by decide +kernel
theorem dX9_alone_1 : decode cX9_alone 1 = .ok (.invokestatic 175, 3) := by decide +kernel
theorem dX9_alone_4 : decode cX9_alone 4 = .ok (.iload_n 2, 1) := by decide +kernel
theorem dX9_alone_5 : decode cX9_alone 5 = .ok (.iconst (-1), 1) := by decide +kernel
theorem dX9_alone_6 : decode cX9_alone 6 = .ok (.if_icmp .ne 16, 3) := by decide +kernel
theorem dX9_alone_9 : decode cX9_alone 9 = .ok (.aload_n 0, 1) := by decide +kernel
theorem dX9_alone_10 : decode cX9_alone 10 = .ok (.getfield 19, 3) := by decide +kernel
theorem dX9_alone_13 : decode cX9_alone 13 = .ok (.aload_n 0, 1) := by decide +kernel
theorem dX9_alone_14 : decode cX9_alone 14 = .ok (.getfield 32, 3) := by decide +kernel
theorem dX9_alone_17 : decode cX9_alone 17 = .ok (.iload_n 1, 1) := by decide +kernel
theorem dX9_alone_18 : decode cX9_alone 18 = .ok (.invokestatic 305, 3) := by decide +kernel
theorem dX9_alone_21 : decode cX9_alone 21 = .ok (.ireturn, 1) := by decide +kernel
theorem dX9_alone_22 : decode cX9_alone 22 = .ok (.aload_n 0, 1) := by decide +kernel
theorem dX9_alone_23 : decode cX9_alone 23 = .ok (.iload_n 2, 1) := by decide +kernel
theorem dX9_alone_24 : decode cX9_alone 24 = .ok (.invokevirtual 119, 3) := by decide +kernel
theorem dX9_alone_27 : decode cX9_alone 27 = .ok (.aload_n 0, 1) := by decide +kernel
theorem dX9_alone_28 : decode cX9_alone 28 = .ok (.getfield 19, 3) := by decide +kernel
theorem dX9_alone_31 : decode cX9_alone 31 = .ok (.aload_n 0, 1) := by decide +kernel
theorem dX9_alone_32 : decode cX9_alone 32 = .ok (.getfield 32, 3) := by decide +kernel
theorem dX9_alone_35 : decode cX9_alone 35 = .ok (.iload_n 1, 1) := by decide +kernel
theorem dX9_alone_36 : decode cX9_alone 36 = .ok (.invokestatic 305, 3) := by decide +kernel
theorem dX9_alone_39 : decode cX9_alone 39 = .ok (.aload_n 0, 1) := by decide +kernel
theorem dX9_alone_40 : decode cX9_alone 40 = .ok (.getfield 19, 3) := by decide +kernel
theorem dX9_alone_43 : decode cX9_alone 43 = .ok (.aload_n 0, 1) := by decide +kernel
theorem dX9_alone_44 : decode cX9_alone 44 = .ok (.getfield 32, 3) := by decide +kernel
theorem dX9_alone_47 : decode cX9_alone 47 = .ok (.iload_n 2, 1) := by decide +kernel
theorem dX9_alone_48 : decode cX9_alone 48 = .ok (.iload_n 1, 1) := by decide +kernel
theorem dX9_alone_49 : decode cX9_alone 49 = .ok (.invokestatic 308, 3) := by decide +kernel
theorem dX9_alone_52 : decode cX9_alone 52 = .ok (.iand, 1) := by decide +kernel
theorem dX9_alone_53 : decode cX9_alone 53 = .ok (.ireturn, 1) := by decide +kernel
noncomputable def fX9_alone (V : VT) (x1 : Int32) (x2 : Int32) : Option ((String ⊕ Int32) × VT) := ob_N (fX9_needHour V x1) (fun E2 => some (.inl E2, V)) (if x2 = (-1 : Int32) then (ob_I (fX5_aloneBits V 2 x1) fun y12 V13 => some (.inr y12, V13)) else (ob_N (fX9_needHouse V x2) (fun E4 => some (.inl E4, V)) (ob_I (fX5_aloneBits V 2 x1) fun y6 V7 => ob_I (fX5_placeBits V7 2 x2 x1) fun y9 V10 => some (.inr (y6 &&& y9), V10))))
set_option maxHeartbeats 4000000 in
set_option maxRecDepth 100000 in
theorem kX9_alone {l : Launch} {G : GT} {Z : Nat → Nat × Nat} (ht : l.stackTraces = false) {V : VT} {x1 : Int32} {x2 : Int32} {r : ((String ⊕ Int32) × VT)} (h : fX9_alone V x1 x2 = some r) : XI l G (SG Z) yX9_alone (.code yX9_alone cX9_alone 3 (some .int)) 9 2 [.ref (G.2.2 0), .int x1, .int x2] V r.1 r.2 := by
  intro sz
  refine xmet_of (Qs := fun sz => XQ G sz r.1 r.2) (Xs := fun sz => XE G sz r.1 r.2) (SG_ok Z) (by decide) (Nat.le_of_ble_eq_true rfl) ?_ sz
  intro p e s m args below meth c ls E hnt hw hl
  have hx := en_x E
  have hb := en_b E
  have hB := en_B E
  generalize hQ : vx_MQ _ _ _ _ _ _ _ _ = Q
  have kr : Q = vx_MQ below (XQ G s.heap.size r.1 r.2) (XE G s.heap.size r.1 r.2) args s 2 12 (gA G s.heap.size) := hQ.symm
  have hl : lv_has ls 3 [(0, .ref (G.2.2 0)), (1, .int x1), (2, .int x2)] := hl
  obtain ⟨H, eH⟩ : ∃ H, H = s.heap := ⟨_, rfl⟩
  obtain ⟨locs, elocs⟩ : ∃ z : List Loc, z = [] := ⟨_, rfl⟩
  have hw : HW G s.heap V H locs := by rw [eH, elocs]; exact hw
  show W p l e _ s m args below meth c s.heap [] 0 0 Q (F0 m 0 ls [])
  rw [← eH, ← elocs]
  unfold fX9_alone at h
  refine lv_iload_n hx hb dX9_alone_0 rfl (lv_at hl 1 rfl) ?_
  rcases ob_N_some h with ⟨E2, h1, h⟩ | ⟨h1, h⟩
  · have h := Option.some.inj h
    subst h
    rw [kr]
    exact x_SVe E hw (kX9_needHour (l := l) (G := G) (Z := Z) ht h1) yy_X9_needHour lm_RX9_175 rfl hl.1 (by decide) (by decide) (by decide) rfl (Nat.le_of_ble_eq_true rfl) dX9_alone_1 hnt (by decide)
  · refine x_SVn E hw (kX9_needHour (l := l) (G := G) (Z := Z) ht h1) yy_X9_needHour lm_RX9_175 rfl hl.1 (by decide) (by decide) (by decide) rfl (Nat.le_of_ble_eq_true rfl) dX9_alone_1 (fun H locs hw => ?_)
    refine lv_iload_n hx hb dX9_alone_4 rfl (lv_at hl 2 rfl) ?_
    refine lv_iconst (v := (-1 : Int32)) hx hb dX9_alone_5 (by decide) ?_
    refine lv_icmp_ne (tgt := 22) hx hb dX9_alone_6 (by decide) (fun c14 => ?_) (fun c14 => ?_)
    · rw [if_neg c14] at h
      refine lv_aload_n hx hb dX9_alone_22 rfl (lv_at hl 0 rfl) ?_
      refine lv_iload_n hx hb dX9_alone_23 rfl (lv_at hl 2 rfl) ?_
      rcases ob_N_some h with ⟨E4, h3, h⟩ | ⟨h3, h⟩
      · have h := Option.some.inj h
        subst h
        rw [kr]
        exact x_VVe E hw (kX9_needHouse (l := l) (G := G) (Z := Z) ht h3) yy_X9_needHouse lm_RX9_119 rfl (by decide) rfl rfl hl.1 (by decide) (by decide) (by decide) rfl (Nat.le_of_ble_eq_true rfl) dX9_alone_24 hnt (by decide)
      · refine x_VVn E hw (kX9_needHouse (l := l) (G := G) (Z := Z) ht h3) yy_X9_needHouse lm_RX9_119 rfl (by decide) rfl rfl hl.1 (by decide) (by decide) (by decide) rfl (Nat.le_of_ble_eq_true rfl) dX9_alone_24 (fun H locs hw => ?_)
        refine lv_aload_n hx hb dX9_alone_27 rfl (lv_at hl 0 rfl) ?_
        refine r_gr E hw 0 1 2 (N := 11) (C := RX9) (T := TX9) (by decide) rfl rfl (by decide) rfl iw_9 rfl lf_RX9_19 dX9_alone_28 ?_
        refine lv_aload_n hx hb dX9_alone_31 rfl (lv_at hl 0 rfl) ?_
        refine r_gr E hw 0 4 17 (N := 11) (C := RX9) (T := TX9) (by decide) rfl rfl (by decide) rfl iw_9 rfl lf_RX9_32 dX9_alone_32 ?_
        refine lv_iload_n hx hb dX9_alone_35 rfl (lv_at hl 1 rfl) ?_
        obtain ⟨y6, V7, h5, h⟩ := ob_I_some h
        refine g_SI E hw (kX5_aloneBits (l := l) (G := G) hB ⟨by decide, by decide⟩ h5) yy_X5_aloneBits lm_RX9_305 rfl hl.1 (by decide) (by decide) (by decide) rfl (Nat.le_of_ble_eq_true rfl) dX9_alone_36 (fun H locs hw => ?_)
        refine lv_aload_n hx hb dX9_alone_39 rfl (lv_at hl 0 rfl) ?_
        refine r_gr E hw 0 1 2 (N := 11) (C := RX9) (T := TX9) (by decide) rfl rfl (by decide) rfl iw_9 rfl lf_RX9_19 dX9_alone_40 ?_
        refine lv_aload_n hx hb dX9_alone_43 rfl (lv_at hl 0 rfl) ?_
        refine r_gr E hw 0 4 17 (N := 11) (C := RX9) (T := TX9) (by decide) rfl rfl (by decide) rfl iw_9 rfl lf_RX9_32 dX9_alone_44 ?_
        refine lv_iload_n hx hb dX9_alone_47 rfl (lv_at hl 2 rfl) ?_
        refine lv_iload_n hx hb dX9_alone_48 rfl (lv_at hl 1 rfl) ?_
        obtain ⟨y9, V10, h8, h⟩ := ob_I_some h
        refine g_SI E hw (kX5_placeBits (l := l) (G := G) hB ⟨by decide, by decide⟩ h8) yy_X5_placeBits lm_RX9_308 rfl hl.1 (by decide) (by decide) (by decide) rfl (Nat.le_of_ble_eq_true rfl) dX9_alone_49 (fun H locs hw => ?_)
        refine lv_iand hx hb dX9_alone_52 ?_
        have h := Option.some.inj h
        subst h
        rw [kr]
        exact x_ri E hw (by decide) (by decide) dX9_alone_53
    · rw [if_pos c14] at h
      refine lv_aload_n hx hb dX9_alone_9 rfl (lv_at hl 0 rfl) ?_
      refine r_gr E hw 0 1 2 (N := 11) (C := RX9) (T := TX9) (by decide) rfl rfl (by decide) rfl iw_9 rfl lf_RX9_19 dX9_alone_10 ?_
      refine lv_aload_n hx hb dX9_alone_13 rfl (lv_at hl 0 rfl) ?_
      refine r_gr E hw 0 4 17 (N := 11) (C := RX9) (T := TX9) (by decide) rfl rfl (by decide) rfl iw_9 rfl lf_RX9_32 dX9_alone_14 ?_
      refine lv_iload_n hx hb dX9_alone_17 rfl (lv_at hl 1 rfl) ?_
      obtain ⟨y12, V13, h11, h⟩ := ob_I_some h
      refine g_SI E hw (kX5_aloneBits (l := l) (G := G) hB ⟨by decide, by decide⟩ h11) yy_X5_aloneBits lm_RX9_305 rfl hl.1 (by decide) (by decide) (by decide) rfl (Nat.le_of_ble_eq_true rfl) dX9_alone_18 (fun H locs hw => ?_)
      have h := Option.some.inj h
      subst h
      rw [kr]
      exact x_ri E hw (by decide) (by decide) dX9_alone_21
/-! ===== AllSawIt.trial(IZ)I ===== -/
theorem dX9_trial_0 : decode cX9_trial 0 = .ok (.iload_n 1, 1) := by decide +kernel
theorem dX9_trial_1 : decode cX9_trial 1 = .ok (.iconst 0, 1) := by decide +kernel
theorem dX9_trial_2 : decode cX9_trial 2 = .ok (.bipush 40, 2) := by decide +kernel
theorem dX9_trial_4 : decode cX9_trial 4 = .ok (.invokestatic 222, 3) := by decide +kernel
theorem dX9_trial_7 : decode cX9_trial 7 = .ok (.aload_n 0, 1) := by decide +kernel
theorem dX9_trial_8 : decode cX9_trial 8 = .ok (.iload_n 1, 1) := by decide +kernel
theorem dX9_trial_9 : decode cX9_trial 9 = .ok (.aload_n 0, 1) := by decide +kernel
theorem dX9_trial_10 : decode cX9_trial 10 = .ok (.getfield 19, 3) := by decide +kernel
theorem dX9_trial_13 : decode cX9_trial 13 = .ok (.getfield 314, 3) := by decide +kernel
theorem dX9_trial_16 : decode cX9_trial 16 = .ok (.invokevirtual 317, 3) := by decide +kernel
theorem dX9_trial_19 : decode cX9_trial 19 = .ok (.istore_n 3, 1) := by decide +kernel
theorem dX9_trial_20 : decode cX9_trial 20 = .ok (.iload_n 2, 1) := by decide +kernel
theorem dX9_trial_21 : decode cX9_trial 21 = .ok (.ifCond .eq 7, 3) := by decide +kernel
theorem dX9_trial_24 : decode cX9_trial 24 = .ok (.iload_n 3, 1) := by decide +kernel
theorem dX9_trial_25 : decode cX9_trial 25 = .ok (.goto 10, 3) := by decide +kernel
theorem dX9_trial_28 : decode cX9_trial 28 = .ok (.aload_n 0, 1) := by decide +kernel
theorem dX9_trial_29 : decode cX9_trial 29 = .ok (.getfield 23, 3) := by decide +kernel
theorem dX9_trial_32 : decode cX9_trial 32 = .ok (.getfield 274, 3) := by decide +kernel
theorem dX9_trial_35 : decode cX9_trial 35 = .ok (.ireturn, 1) := by decide +kernel
noncomputable def fX9_trial (V : VT) (x1 : Int32) (x2 : Int32) : Option ((String ⊕ Int32) × VT) := ob_N (fX9_needNumber V x1 (0 : Int32) (40 : Int32)) (fun E2 => some (.inl E2, V)) (ob_I (fX9_tryDays V x1 (V 2 11)) fun y4 V5 => if x2 = 0 then (some (.inr (V5 3 7), V5)) else (some (.inr y4, V5)))
set_option maxHeartbeats 4000000 in
set_option maxRecDepth 100000 in
theorem kX9_trial {l : Launch} {G : GT} {Z : Nat → Nat × Nat} (ht : l.stackTraces = false) {V : VT} {x1 : Int32} {x2 : Int32} {r : ((String ⊕ Int32) × VT)} (h : fX9_trial V x1 x2 = some r) : XI l G (SG Z) yX9_trial (.code yX9_trial cX9_trial 4 (some .int)) 9 1 [.ref (G.2.2 0), .int x1, .int x2] V r.1 r.2 := by
  intro sz
  refine xmet_of (Qs := fun sz => XQ G sz r.1 r.2) (Xs := fun sz => XE G sz r.1 r.2) (SG_ok Z) (by decide) (Nat.le_of_ble_eq_true rfl) ?_ sz
  intro p e s m args below meth c ls E hnt hw hl
  have hx := en_x E
  have hb := en_b E
  have hB := en_B E
  generalize hQ : vx_MQ _ _ _ _ _ _ _ _ = Q
  have kr : Q = vx_MQ below (XQ G s.heap.size r.1 r.2) (XE G s.heap.size r.1 r.2) args s 1 6 (gA G s.heap.size) := hQ.symm
  have hl : lv_has ls 4 [(0, .ref (G.2.2 0)), (1, .int x1), (2, .int x2)] := hl
  obtain ⟨H, eH⟩ : ∃ H, H = s.heap := ⟨_, rfl⟩
  obtain ⟨locs, elocs⟩ : ∃ z : List Loc, z = [] := ⟨_, rfl⟩
  have hw : HW G s.heap V H locs := by rw [eH, elocs]; exact hw
  show W p l e _ s m args below meth c s.heap [] 0 0 Q (F0 m 0 ls [])
  rw [← eH, ← elocs]
  unfold fX9_trial at h
  refine lv_iload_n hx hb dX9_trial_0 rfl (lv_at hl 1 rfl) ?_
  refine lv_iconst (v := (0 : Int32)) hx hb dX9_trial_1 (by decide) ?_
  refine lv_bipush (v := (40 : Int32)) hx hb dX9_trial_2 (by decide) ?_
  rcases ob_N_some h with ⟨E2, h1, h⟩ | ⟨h1, h⟩
  · have h := Option.some.inj h
    subst h
    rw [kr]
    exact x_SVe E hw (kX9_needNumber (l := l) (G := G) (Z := Z) ht h1) yy_X9_needNumber lm_RX9_222 rfl hl.1 (by decide) (by decide) (by decide) rfl (Nat.le_of_ble_eq_true rfl) dX9_trial_4 hnt (by decide)
  · refine x_SVn E hw (kX9_needNumber (l := l) (G := G) (Z := Z) ht h1) yy_X9_needNumber lm_RX9_222 rfl hl.1 (by decide) (by decide) (by decide) rfl (Nat.le_of_ble_eq_true rfl) dX9_trial_4 (fun H locs hw => ?_)
    refine lv_aload_n hx hb dX9_trial_7 rfl (lv_at hl 0 rfl) ?_
    refine lv_iload_n hx hb dX9_trial_8 rfl (lv_at hl 1 rfl) ?_
    refine lv_aload_n hx hb dX9_trial_9 rfl (lv_at hl 0 rfl) ?_
    refine r_gr E hw 0 1 2 (N := 11) (C := RX9) (T := TX9) (by decide) rfl rfl (by decide) rfl iw_9 rfl lf_RX9_19 dX9_trial_10 ?_
    refine r_giN E hw 2 11 (N := 13) (C := RX6) (T := TX6) (by decide) rfl rfl (by decide) rfl iw_6 rfl lf_RX9_314 dX9_trial_13 ?_
    obtain ⟨y4, V5, h3, h⟩ := ob_I_some h
    refine g_VI E hw (kX9_tryDays (l := l) (G := G) hB  h3) yy_X9_tryDays lm_RX9_317 rfl (by decide) rfl rfl hl.1 (by decide) (by decide) (by decide) rfl (Nat.le_of_ble_eq_true rfl) dX9_trial_16 (fun H locs hw => ?_)
    refine lv_istore_n (lv' := [(3, .int y4), (0, .ref (G.2.2 0)), (1, .int x1), (2, .int x2)]) hx hb dX9_trial_19 rfl hl (by decide) rfl (fun ls hl => ?_)
    refine lv_iload_n hx hb dX9_trial_20 rfl (lv_at hl 3 rfl) ?_
    refine lv_if_eq (tgt := 28) hx hb dX9_trial_21 (by decide) (fun c6 => ?_) (fun c6 => ?_)
    · rw [if_pos c6] at h
      refine lv_aload_n hx hb dX9_trial_28 rfl (lv_at hl 1 rfl) ?_
      refine r_gr E hw 0 2 3 (N := 11) (C := RX9) (T := TX9) (by decide) rfl rfl (by decide) rfl iw_9 rfl lf_RX9_23 dX9_trial_29 ?_
      refine r_giN E hw 3 7 (N := 13) (C := RX6) (T := TX6) (by decide) rfl rfl (by decide) rfl iw_6 rfl lf_RX9_274 dX9_trial_32 ?_
      have h := Option.some.inj h
      subst h
      rw [kr]
      exact x_ri E hw (by decide) (by decide) dX9_trial_35
    · rw [if_neg c6] at h
      refine lv_iload_n hx hb dX9_trial_24 rfl (lv_at hl 0 rfl) ?_
      refine lv_goto (tgt := 35) hx hb dX9_trial_25 (by decide) ?_
      have h := Option.some.inj h
      subst h
      rw [kr]
      exact x_ri E hw (by decide) (by decide) dX9_trial_35
/-! ===== AllSawIt.span(IZ)I ===== -/
theorem dX9_span_0 : decode cX9_span 0 = .ok (.iload_n 1, 1) := by decide +kernel
theorem dX9_span_1 : decode cX9_span 1 = .ok (.iconst 0, 1) := by decide +kernel
theorem dX9_span_2 : decode cX9_span 2 = .ok (.bipush 40, 2) := by decide +kernel
theorem dX9_span_4 : decode cX9_span 4 = .ok (.invokestatic 222, 3) := by decide +kernel
theorem dX9_span_7 : decode cX9_span 7 = .ok (.aload_n 0, 1) := by decide +kernel
theorem dX9_span_8 : decode cX9_span 8 = .ok (.iload_n 1, 1) := by decide +kernel
theorem dX9_span_9 : decode cX9_span 9 = .ok (.iconst 1, 1) := by decide +kernel
theorem dX9_span_10 : decode cX9_span 10 = .ok (.invokevirtual 317, 3) := by decide +kernel
theorem dX9_span_13 : decode cX9_span 13 = .ok (.istore_n 3, 1) := by decide +kernel
theorem dX9_span_14 : decode cX9_span 14 = .ok (.iconst 2, 1) := by decide +kernel
theorem dX9_span_15 : decode cX9_span 15 = .ok (.istore 4, 2) := by decide +kernel
theorem dX9_span_17 : decode cX9_span 17 = .ok (.iload 4, 2) := by decide +kernel
theorem dX9_span_19 : decode cX9_span 19 = .ok (.bipush 6, 2) := by decide +kernel
theorem dX9_span_21 : decode cX9_span 21 = .ok (.if_icmp .gt 38, 3) := by decide +kernel
theorem dX9_span_24 : decode cX9_span 24 = .ok (.aload_n 0, 1) := by decide +kernel
theorem dX9_span_25 : decode cX9_span 25 = .ok (.iload_n 1, 1) := by decide +kernel
theorem dX9_span_26 : decode cX9_span 26 = .ok (.iload 4, 2) := by decide +kernel
theorem dX9_span_28 : decode cX9_span 28 = .ok (.invokevirtual 317, 3) := by decide +kernel
theorem dX9_span_31 : decode cX9_span 31 = .ok (.istore 5, 2) := by decide +kernel
theorem dX9_span_33 : decode cX9_span 33 = .ok (.iload_n 2, 1) := by decide +kernel
theorem dX9_span_34 : decode cX9_span 34 = .ok (.ifCond .eq 12, 3) := by decide +kernel
theorem dX9_span_37 : decode cX9_span 37 = .ok (.iload_n 3, 1) := by decide +kernel
theorem dX9_span_38 : decode cX9_span 38 = .ok (.iload 5, 2) := by decide +kernel
theorem dX9_span_40 : decode cX9_span 40 = .ok (.invokestatic 320, 3) := by decide +kernel
theorem dX9_span_43 : decode cX9_span 43 = .ok (.goto 9, 3) := by decide +kernel
theorem dX9_span_46 : decode cX9_span 46 = .ok (.iload_n 3, 1) := by decide +kernel
theorem dX9_span_47 : decode cX9_span 47 = .ok (.iload 5, 2) := by decide +kernel
theorem dX9_span_49 : decode cX9_span 49 = .ok (.invokestatic 325, 3) := by decide +kernel
theorem dX9_span_52 : decode cX9_span 52 = .ok (.istore_n 3, 1) := by decide +kernel
theorem dX9_span_53 : decode cX9_span 53 = .ok (.iinc 4 1, 3) := by decide +kernel
theorem dX9_span_56 : decode cX9_span 56 = .ok (.goto (-39), 3) := by decide +kernel
theorem dX9_span_59 : decode cX9_span 59 = .ok (.iload_n 3, 1) := by decide +kernel
theorem dX9_span_60 : decode cX9_span 60 = .ok (.ireturn, 1) := by decide +kernel
noncomputable def fX9_span_L17 (V : VT) (u1 : Int32) (u2 : Int32) (u3 : Int32) (u4 : Int32) : Option ((VT × Int32 × Int32 × Int32 × Int32) ⊕ ((String ⊕ Int32) × VT)) := if (6 : Int32) < u4 then (some (.inr ((.inr u3, V)))) else (ob_I (fX9_tryDays V u1 u4) fun y7 V8 => if u2 = 0 then (lt_ (if y7 < u3 then y7 else u3) fun y9 => lt_ (u4 + (1 : Int32)) fun y10 => some (.inl (V8, u1, u2, y9, y10))) else (lt_ (if u3 < y7 then y7 else u3) fun y11 => lt_ (u4 + (1 : Int32)) fun y12 => some (.inl (V8, u1, u2, y11, y12))))
noncomputable def iX9_span_L17 : (VT × Int32 × Int32 × Int32 × Int32) → Option ((VT × Int32 × Int32 × Int32 × Int32) ⊕ ((String ⊕ Int32) × VT)) := fun q => fX9_span_L17 (q.1) (q.2.1) (q.2.2.1) (q.2.2.2.1) (q.2.2.2.2)
noncomputable def fX9_span (V : VT) (x1 : Int32) (x2 : Int32) : Option ((String ⊕ Int32) × VT) := ob_N (fX9_needNumber V x1 (0 : Int32) (40 : Int32)) (fun E2 => some (.inl E2, V)) (ob_I (fX9_tryDays V x1 (1 : Int32)) fun y4 V5 => ob_R (it_ (iX9_span_L17) FV (V5, x1, x2, y4, (2 : Int32))) fun x16 => some x16)
set_option maxHeartbeats 4000000 in
set_option maxRecDepth 100000 in
theorem wX9_span_L17 {p : Program} {l : Launch} {e : Env} {s : State} {m : MethodId} {args : Array Value} {below : List Frame} {meth : Method} {c : Code} {G : GT} {Z : Nat → Nat × Nat} {Q : State → Prop} (E : En p s m args c meth cX9_span 6 RX9 (some .int) G (SG Z)) (ht : l.stackTraces = false) (hnt : ∀ x ∈ c.exceptionTable.toList, False) {x : ((String ⊕ Int32) × VT)} (kr : ∀ q : ((String ⊕ Int32) × VT), x = q → Q = vx_MQ below (XQ G s.heap.size q.1 q.2) (XE G s.heap.size q.1 q.2) args s 1 6 (gA G s.heap.size)) : ∀ (n : Nat) (q : (VT × Int32 × Int32 × Int32 × Int32)), it_ (iX9_span_L17) n q = some x → ∀ (H : Heap) (locs : List Loc) (ls : Array Slot), HW G s.heap (q.1) H locs → lv_has ls 6 [(0, .ref (G.2.2 0)), (1, .int (q.2.1)), (2, .int (q.2.2.1)), (3, .int (q.2.2.2.1)), (4, .int (q.2.2.2.2))] → W p l e (rmX 9 1) s m args below meth c H locs 1 6 Q (F0 m 17 ls []) := by
  have hx := en_x E
  have hb := en_b E
  have hB := en_B E
  refine it_W (fun q : (VT × Int32 × Int32 × Int32 × Int32) => ∀ (H : Heap) (locs : List Loc) (ls : Array Slot), HW G s.heap (q.1) H locs → lv_has ls 6 [(0, .ref (G.2.2 0)), (1, .int (q.2.1)), (2, .int (q.2.2.1)), (3, .int (q.2.2.2.1)), (4, .int (q.2.2.2.2))] → W p l e (rmX 9 1) s m args below meth c H locs 1 6 Q (F0 m 17 ls [])) x ?_
  intro q r h kc kx
  obtain ⟨V, u1, u2, u3, u4⟩ := q
  intro H locs ls hw hl
  have h : fX9_span_L17 V u1 u2 u3 u4 = some r := h
  have hw : HW G s.heap V H locs := hw
  have hl : lv_has ls 6 [(0, .ref (G.2.2 0)), (1, .int u1), (2, .int u2), (3, .int u3), (4, .int u4)] := hl
  have kr : ∀ q : ((String ⊕ Int32) × VT), r = .inr (q) → Q = vx_MQ below (XQ G s.heap.size q.1 q.2) (XE G s.heap.size q.1 q.2) args s 1 6 (gA G s.heap.size) := fun q e => kr q (kx _ e).symm
  unfold fX9_span_L17 at h
  refine lv_iload hx hb dX9_span_17 (lv_at hl 4 rfl) ?_
  refine lv_bipush (v := (6 : Int32)) hx hb dX9_span_19 (by decide) ?_
  refine lv_icmp_gt (tgt := 59) hx hb dX9_span_21 (by decide) (fun c14 => ?_) (fun c14 => ?_)
  · rw [if_pos c14] at h
    refine lv_iload_n hx hb dX9_span_59 rfl (lv_at hl 3 rfl) ?_
    rw [kr (.inr u3, V) (Option.some.inj h).symm]
    exact x_ri E hw (by decide) (by decide) dX9_span_60
  · rw [if_neg c14] at h
    refine lv_aload_n hx hb dX9_span_24 rfl (lv_at hl 0 rfl) ?_
    refine lv_iload_n hx hb dX9_span_25 rfl (lv_at hl 1 rfl) ?_
    refine lv_iload hx hb dX9_span_26 (lv_at hl 4 rfl) ?_
    obtain ⟨y7, V8, h6, h⟩ := ob_I_some h
    refine g_VI E hw (kX9_tryDays (l := l) (G := G) hB  h6) yy_X9_tryDays lm_RX9_317 rfl (by decide) rfl rfl hl.1 (by decide) (by decide) (by decide) rfl (Nat.le_of_ble_eq_true rfl) dX9_span_28 (fun H locs hw => ?_)
    refine lv_istore (lv' := [(5, .int y7), (0, .ref (G.2.2 0)), (1, .int u1), (2, .int u2), (3, .int u3), (4, .int u4)]) hx hb dX9_span_31 hl (by decide) rfl (fun ls hl => ?_)
    refine lv_iload_n hx hb dX9_span_33 rfl (lv_at hl 3 rfl) ?_
    refine lv_if_eq (tgt := 46) hx hb dX9_span_34 (by decide) (fun c13 => ?_) (fun c13 => ?_)
    · rw [if_pos c13] at h
      refine lv_iload_n hx hb dX9_span_46 rfl (lv_at hl 4 rfl) ?_
      refine lv_iload hx hb dX9_span_47 (lv_at hl 0 rfl) ?_
      refine rg_min E hl.1 lm_RX9_325 (by decide) (by decide) (Nat.le_of_ble_eq_true rfl) dX9_span_49 ?_
      obtain ⟨y9, ey9, h⟩ := lt_some h
      refine lv_eqi ey9 ?_
      refine lv_istore_n (lv' := [(3, .int y9), (5, .int y7), (0, .ref (G.2.2 0)), (1, .int u1), (2, .int u2), (4, .int u4)]) hx hb dX9_span_52 rfl hl (by decide) rfl (fun ls hl => ?_)
      obtain ⟨y10, ey10, h⟩ := lt_some h
      refine lv_iinc (v := y10) (lv' := [(4, .int y10), (3, .int y9), (5, .int y7), (0, .ref (G.2.2 0)), (1, .int u1), (2, .int u2)]) hx hb dX9_span_53 hl (k := 5) rfl (by rw [ey10]; rfl) (by decide) rfl (fun ls hl => ?_)
      refine lv_goto (tgt := 17) hx hb dX9_span_56 (by decide) ?_
      exact kc (V8, u1, u2, y9, y10) (Option.some.inj h).symm H locs ls hw (lv_sub hl [3, 4, 5, 1, 0] rfl)
    · rw [if_neg c13] at h
      refine lv_iload_n hx hb dX9_span_37 rfl (lv_at hl 4 rfl) ?_
      refine lv_iload hx hb dX9_span_38 (lv_at hl 0 rfl) ?_
      refine rg_max E hl.1 lm_RX9_320 (by decide) (by decide) (Nat.le_of_ble_eq_true rfl) dX9_span_40 ?_
      refine lv_goto (tgt := 52) hx hb dX9_span_43 (by decide) ?_
      obtain ⟨y11, ey11, h⟩ := lt_some h
      refine lv_eqi ey11 ?_
      refine lv_istore_n (lv' := [(3, .int y11), (5, .int y7), (0, .ref (G.2.2 0)), (1, .int u1), (2, .int u2), (4, .int u4)]) hx hb dX9_span_52 rfl hl (by decide) rfl (fun ls hl => ?_)
      obtain ⟨y12, ey12, h⟩ := lt_some h
      refine lv_iinc (v := y12) (lv' := [(4, .int y12), (3, .int y11), (5, .int y7), (0, .ref (G.2.2 0)), (1, .int u1), (2, .int u2)]) hx hb dX9_span_53 hl (k := 5) rfl (by rw [ey12]; rfl) (by decide) rfl (fun ls hl => ?_)
      refine lv_goto (tgt := 17) hx hb dX9_span_56 (by decide) ?_
      exact kc (V8, u1, u2, y11, y12) (Option.some.inj h).symm H locs ls hw (lv_sub hl [3, 4, 5, 1, 0] rfl)
set_option maxHeartbeats 4000000 in
set_option maxRecDepth 100000 in
theorem kX9_span {l : Launch} {G : GT} {Z : Nat → Nat × Nat} (ht : l.stackTraces = false) {V : VT} {x1 : Int32} {x2 : Int32} {r : ((String ⊕ Int32) × VT)} (h : fX9_span V x1 x2 = some r) : XI l G (SG Z) yX9_span (.code yX9_span cX9_span 6 (some .int)) 9 1 [.ref (G.2.2 0), .int x1, .int x2] V r.1 r.2 := by
  intro sz
  refine xmet_of (Qs := fun sz => XQ G sz r.1 r.2) (Xs := fun sz => XE G sz r.1 r.2) (SG_ok Z) (by decide) (Nat.le_of_ble_eq_true rfl) ?_ sz
  intro p e s m args below meth c ls E hnt hw hl
  have hx := en_x E
  have hb := en_b E
  have hB := en_B E
  generalize hQ : vx_MQ _ _ _ _ _ _ _ _ = Q
  have kr : Q = vx_MQ below (XQ G s.heap.size r.1 r.2) (XE G s.heap.size r.1 r.2) args s 1 6 (gA G s.heap.size) := hQ.symm
  have hl : lv_has ls 6 [(0, .ref (G.2.2 0)), (1, .int x1), (2, .int x2)] := hl
  obtain ⟨H, eH⟩ : ∃ H, H = s.heap := ⟨_, rfl⟩
  obtain ⟨locs, elocs⟩ : ∃ z : List Loc, z = [] := ⟨_, rfl⟩
  have hw : HW G s.heap V H locs := by rw [eH, elocs]; exact hw
  show W p l e _ s m args below meth c s.heap [] 0 0 Q (F0 m 0 ls [])
  rw [← eH, ← elocs]
  unfold fX9_span at h
  refine lv_iload_n hx hb dX9_span_0 rfl (lv_at hl 1 rfl) ?_
  refine lv_iconst (v := (0 : Int32)) hx hb dX9_span_1 (by decide) ?_
  refine lv_bipush (v := (40 : Int32)) hx hb dX9_span_2 (by decide) ?_
  rcases ob_N_some h with ⟨E2, h1, h⟩ | ⟨h1, h⟩
  · have h := Option.some.inj h
    subst h
    rw [kr]
    exact x_SVe E hw (kX9_needNumber (l := l) (G := G) (Z := Z) ht h1) yy_X9_needNumber lm_RX9_222 rfl hl.1 (by decide) (by decide) (by decide) rfl (Nat.le_of_ble_eq_true rfl) dX9_span_4 hnt (by decide)
  · refine x_SVn E hw (kX9_needNumber (l := l) (G := G) (Z := Z) ht h1) yy_X9_needNumber lm_RX9_222 rfl hl.1 (by decide) (by decide) (by decide) rfl (Nat.le_of_ble_eq_true rfl) dX9_span_4 (fun H locs hw => ?_)
    refine lv_aload_n hx hb dX9_span_7 rfl (lv_at hl 0 rfl) ?_
    refine lv_iload_n hx hb dX9_span_8 rfl (lv_at hl 1 rfl) ?_
    refine lv_iconst (v := (1 : Int32)) hx hb dX9_span_9 (by decide) ?_
    obtain ⟨y4, V5, h3, h⟩ := ob_I_some h
    refine g_VI E hw (kX9_tryDays (l := l) (G := G) hB  h3) yy_X9_tryDays lm_RX9_317 rfl (by decide) rfl rfl hl.1 (by decide) (by decide) (by decide) rfl (Nat.le_of_ble_eq_true rfl) dX9_span_10 (fun H locs hw => ?_)
    refine lv_istore_n (lv' := [(3, .int y4), (0, .ref (G.2.2 0)), (1, .int x1), (2, .int x2)]) hx hb dX9_span_13 rfl hl (by decide) rfl (fun ls hl => ?_)
    refine lv_iconst (v := (2 : Int32)) hx hb dX9_span_14 (by decide) ?_
    refine lv_istore (lv' := [(4, .int (2 : Int32)), (3, .int y4), (0, .ref (G.2.2 0)), (1, .int x1), (2, .int x2)]) hx hb dX9_span_15 hl (by decide) rfl (fun ls hl => ?_)
    obtain ⟨x16, h15, h⟩ := ob_R_some h
    have h := Option.some.inj h
    subst h
    exact wX9_span_L17 E ht hnt (fun q e => by subst e; exact kr) FV (V5, x1, x2, y4, (2 : Int32)) h15 H locs ls hw (lv_sub hl [2, 3, 4, 1, 0] rfl)
/-! ===== AllSawIt.led(IZ)I ===== -/
theorem dX9_led_0 : decode cX9_led 0 = .ok (.aload_n 0, 1) := by decide +kernel
theorem dX9_led_1 : decode cX9_led 1 = .ok (.iload_n 1, 1) := by decide +kernel
theorem dX9_led_2 : decode cX9_led 2 = .ok (.invokevirtual 119, 3) := by decide +kernel
theorem dX9_led_5 : decode cX9_led 5 = .ok (.iload_n 2, 1) := by decide +kernel
theorem dX9_led_6 : decode cX9_led 6 = .ok (.ifCond .eq 14, 3) := by decide +kernel
theorem dX9_led_9 : decode cX9_led 9 = .ok (.aload_n 0, 1) := by decide +kernel
theorem dX9_led_10 : decode cX9_led 10 = .ok (.getfield 19, 3) := by decide +kernel
theorem dX9_led_13 : decode cX9_led 13 = .ok (.iload_n 1, 1) := by decide +kernel
theorem dX9_led_14 : decode cX9_led 14 = .ok (.invokevirtual 328, 3) := by decide +kernel
theorem dX9_led_17 : decode cX9_led 17 = .ok (.goto 11, 3) := by decide +kernel
theorem dX9_led_20 : decode cX9_led 20 = .ok (.aload_n 0, 1) := by decide +kernel
theorem dX9_led_21 : decode cX9_led 21 = .ok (.getfield 19, 3) := by decide +kernel
theorem dX9_led_24 : decode cX9_led 24 = .ok (.iload_n 1, 1) := by decide +kernel
theorem dX9_led_25 : decode cX9_led 25 = .ok (.invokevirtual 331, 3) := by decide +kernel
theorem dX9_led_28 : decode cX9_led 28 = .ok (.ireturn, 1) := by decide +kernel
noncomputable def fX9_led (V : VT) (x1 : Int32) (x2 : Int32) : Option ((String ⊕ Int32) × VT) := ob_N (fX9_needHouse V x1) (fun E2 => some (.inl E2, V)) (if x2 = 0 then (ob_R (fX6_rowsOf V 2 x1) fun y4 => some (.inr y4, V)) else (ob_R (fX6_lastDayOf V 2 x1) fun y6 => some (.inr y6, V)))
set_option maxHeartbeats 4000000 in
set_option maxRecDepth 100000 in
theorem kX9_led {l : Launch} {G : GT} {Z : Nat → Nat × Nat} (ht : l.stackTraces = false) {V : VT} {x1 : Int32} {x2 : Int32} {r : ((String ⊕ Int32) × VT)} (h : fX9_led V x1 x2 = some r) : XI l G (SG Z) yX9_led (.code yX9_led cX9_led 3 (some .int)) 9 1 [.ref (G.2.2 0), .int x1, .int x2] V r.1 r.2 := by
  intro sz
  refine xmet_of (Qs := fun sz => XQ G sz r.1 r.2) (Xs := fun sz => XE G sz r.1 r.2) (SG_ok Z) (by decide) (Nat.le_of_ble_eq_true rfl) ?_ sz
  intro p e s m args below meth c ls E hnt hw hl
  have hx := en_x E
  have hb := en_b E
  have hB := en_B E
  generalize hQ : vx_MQ _ _ _ _ _ _ _ _ = Q
  have kr : Q = vx_MQ below (XQ G s.heap.size r.1 r.2) (XE G s.heap.size r.1 r.2) args s 1 6 (gA G s.heap.size) := hQ.symm
  have hl : lv_has ls 3 [(0, .ref (G.2.2 0)), (1, .int x1), (2, .int x2)] := hl
  obtain ⟨H, eH⟩ : ∃ H, H = s.heap := ⟨_, rfl⟩
  obtain ⟨locs, elocs⟩ : ∃ z : List Loc, z = [] := ⟨_, rfl⟩
  have hw : HW G s.heap V H locs := by rw [eH, elocs]; exact hw
  show W p l e _ s m args below meth c s.heap [] 0 0 Q (F0 m 0 ls [])
  rw [← eH, ← elocs]
  unfold fX9_led at h
  refine lv_aload_n hx hb dX9_led_0 rfl (lv_at hl 0 rfl) ?_
  refine lv_iload_n hx hb dX9_led_1 rfl (lv_at hl 1 rfl) ?_
  rcases ob_N_some h with ⟨E2, h1, h⟩ | ⟨h1, h⟩
  · have h := Option.some.inj h
    subst h
    rw [kr]
    exact x_VVe E hw (kX9_needHouse (l := l) (G := G) (Z := Z) ht h1) yy_X9_needHouse lm_RX9_119 rfl (by decide) rfl rfl hl.1 (by decide) (by decide) (by decide) rfl (Nat.le_of_ble_eq_true rfl) dX9_led_2 hnt (by decide)
  · refine x_VVn E hw (kX9_needHouse (l := l) (G := G) (Z := Z) ht h1) yy_X9_needHouse lm_RX9_119 rfl (by decide) rfl rfl hl.1 (by decide) (by decide) (by decide) rfl (Nat.le_of_ble_eq_true rfl) dX9_led_2 (fun H locs hw => ?_)
    refine lv_iload_n hx hb dX9_led_5 rfl (lv_at hl 2 rfl) ?_
    refine lv_if_eq (tgt := 20) hx hb dX9_led_6 (by decide) (fun c7 => ?_) (fun c7 => ?_)
    · rw [if_pos c7] at h
      refine lv_aload_n hx hb dX9_led_20 rfl (lv_at hl 0 rfl) ?_
      refine r_gr E hw 0 1 2 (N := 11) (C := RX9) (T := TX9) (by decide) rfl rfl (by decide) rfl iw_9 rfl lf_RX9_19 dX9_led_21 ?_
      refine lv_iload_n hx hb dX9_led_24 rfl (lv_at hl 1 rfl) ?_
      obtain ⟨y4, h3, h⟩ := ob_R_some h
      refine g_VI E hw (kX6_rowsOf (l := l) (G := G) hB ⟨by decide, by decide⟩ h3) yy_X6_rowsOf lm_RX9_331 rfl (by decide) rfl rfl hl.1 (by decide) (by decide) (by decide) rfl (Nat.le_of_ble_eq_true rfl) dX9_led_25 (fun H locs hw => ?_)
      have h := Option.some.inj h
      subst h
      rw [kr]
      exact x_ri E hw (by decide) (by decide) dX9_led_28
    · rw [if_neg c7] at h
      refine lv_aload_n hx hb dX9_led_9 rfl (lv_at hl 0 rfl) ?_
      refine r_gr E hw 0 1 2 (N := 11) (C := RX9) (T := TX9) (by decide) rfl rfl (by decide) rfl iw_9 rfl lf_RX9_19 dX9_led_10 ?_
      refine lv_iload_n hx hb dX9_led_13 rfl (lv_at hl 1 rfl) ?_
      obtain ⟨y6, h5, h⟩ := ob_R_some h
      refine g_VI E hw (kX6_lastDayOf (l := l) (G := G) hB ⟨by decide, by decide⟩ h5) yy_X6_lastDayOf lm_RX9_328 rfl (by decide) rfl rfl hl.1 (by decide) (by decide) (by decide) rfl (Nat.le_of_ble_eq_true rfl) dX9_led_14 (fun H locs hw => ?_)
      refine lv_goto (tgt := 28) hx hb dX9_led_17 (by decide) ?_
      have h := Option.some.inj h
      subst h
      rw [kr]
      exact x_ri E hw (by decide) (by decide) dX9_led_28
