/-! ===== AllSawItModel.thrown()I ===== -/
theorem dX10_thrown_0 : decode cX10_thrown 0 = .ok (.aload_n 0, 1) := by decide +kernel
theorem dX10_thrown_1 : decode cX10_thrown 1 = .ok (.getfield 3, 3) := by decide +kernel
theorem dX10_thrown_4 : decode cX10_thrown 4 = .ok (.ireturn, 1) := by decide +kernel
noncomputable def fX10_thrown (V : VT) : Option Int32 := some (V 22 0)
set_option maxHeartbeats 4000000 in
set_option maxRecDepth 100000 in
theorem kX10_thrown {l : Launch} {G : GT} {B : BGt} (hB : BGok B) {V : VT} {r : Int32} (h : fX10_thrown V = some r) : CI l G B yX10_thrown (.code yX10_thrown cX10_thrown 1 (some .int)) 2 [.ref (G.2.2 22)] V r V := by
  intro sz
  refine met_of (Qs := fun sz => QI G sz r V) hB (by decide) (Nat.le_of_ble_eq_true rfl) ?_ sz
  intro p e s m args below meth c ls E hw hl
  have hx := en_x E
  have hb := en_b E
  generalize hQ : MQ _ _ _ _ _ _ _ = Q
  have kr : Q = MQ below (QI G s.heap.size r V) args s 0 0 (gA G s.heap.size) := hQ.symm
  have hl : lv_has ls 1 [(0, .ref (G.2.2 22))] := hl
  obtain ⟨H, eH⟩ : ∃ H, H = s.heap := ⟨_, rfl⟩
  obtain ⟨locs, elocs⟩ : ∃ z : List Loc, z = [] := ⟨_, rfl⟩
  have hw : HW G s.heap V H locs := by rw [eH, elocs]; exact hw
  show W p l e _ s m args below meth c s.heap [] 0 0 Q (F0 m 0 ls [])
  rw [← eH, ← elocs]
  unfold fX10_thrown at h
  refine lv_aload_n hx hb dX10_thrown_0 rfl (lv_at hl 0 rfl) ?_
  refine r_gi E hw 22 0 (N := 29) (C := RX10) (T := TX10) (by decide) rfl rfl (by decide) rfl iw_10 rfl lf_RX10_3 dX10_thrown_1 ?_
  have h := Option.some.inj h
  subst h
  rw [kr]
  exact r_ri E hw dX10_thrown_4
/-! ===== AllSawItModel.throwsIf(ZI)Z ===== -/
theorem dX10_throwsIf_0 : decode cX10_throwsIf 0 = .ok (.iload_n 1, 1) := by decide +kernel
theorem dX10_throwsIf_1 : decode cX10_throwsIf 1 = .ok (.ifCond .eq 8, 3) := by decide +kernel
theorem dX10_throwsIf_4 : decode cX10_throwsIf 4 = .ok (.aload_n 0, 1) := by decide +kernel
theorem dX10_throwsIf_5 : decode cX10_throwsIf 5 = .ok (.iload_n 2, 1) := by decide +kernel
theorem dX10_throwsIf_6 : decode cX10_throwsIf 6 = .ok (.putfield 3, 3) := by decide +kernel
theorem dX10_throwsIf_9 : decode cX10_throwsIf 9 = .ok (.iload_n 1, 1) := by decide +kernel
theorem dX10_throwsIf_10 : decode cX10_throwsIf 10 = .ok (.ireturn, 1) := by decide +kernel
noncomputable def fX10_throwsIf (V : VT) (x1 : Int32) (x2 : Int32) : Option (Int32 × VT) := if x1 = 0 then (zo_ x1 (some (x1, V))) else (lt_ (va_up V 22 (upd (V 22) 0 x2)) fun V2 => zo_ x1 (some (x1, V2)))
set_option maxHeartbeats 4000000 in
set_option maxRecDepth 100000 in
theorem kX10_throwsIf {l : Launch} {G : GT} {B : BGt} (hB : BGok B) {V : VT} {x1 : Int32} {x2 : Int32} {r : (Int32 × VT)} (h : fX10_throwsIf V x1 x2 = some r) : CI l G B yX10_throwsIf (.code yX10_throwsIf cX10_throwsIf 3 (some .boolean)) 2 [.ref (G.2.2 22), .int x1, .int x2] V r.1 r.2 := by
  intro sz
  refine met_of (Qs := fun sz => QI G sz (r.1) (r.2)) hB (by decide) (Nat.le_of_ble_eq_true rfl) ?_ sz
  intro p e s m args below meth c ls E hw hl
  have hx := en_x E
  have hb := en_b E
  generalize hQ : MQ _ _ _ _ _ _ _ = Q
  have kr : Q = MQ below (QI G s.heap.size r.1 r.2) args s 0 0 (gA G s.heap.size) := hQ.symm
  have hl : lv_has ls 3 [(0, .ref (G.2.2 22)), (1, .int x1), (2, .int x2)] := hl
  obtain ⟨H, eH⟩ : ∃ H, H = s.heap := ⟨_, rfl⟩
  obtain ⟨locs, elocs⟩ : ∃ z : List Loc, z = [] := ⟨_, rfl⟩
  have hw : HW G s.heap V H locs := by rw [eH, elocs]; exact hw
  show W p l e _ s m args below meth c s.heap [] 0 0 Q (F0 m 0 ls [])
  rw [← eH, ← elocs]
  unfold fX10_throwsIf at h
  refine lv_iload_n hx hb dX10_throwsIf_0 rfl (lv_at hl 1 rfl) ?_
  refine lv_if_eq (tgt := 9) hx hb dX10_throwsIf_1 (by decide) (fun c4 => ?_) (fun c4 => ?_)
  · rw [if_pos c4] at h
    refine lv_iload_n hx hb dX10_throwsIf_9 rfl (lv_at hl 1 rfl) ?_
    obtain ⟨z1, h⟩ := zo_some h
    have h := Option.some.inj h
    subst h
    rw [kr]
    exact r_rz E hw z1 dX10_throwsIf_10
  · rw [if_neg c4] at h
    refine lv_aload_n hx hb dX10_throwsIf_4 rfl (lv_at hl 0 rfl) ?_
    refine lv_iload_n hx hb dX10_throwsIf_5 rfl (lv_at hl 2 rfl) ?_
    obtain ⟨V2, eV2, h⟩ := lt_some h
    refine r_pi E hw 22 0 (N := 29) (C := RX10) (T := TX10) (ty0 := tyX10) (ty := .int) (by decide) rfl rfl (by decide) rfl iw_10 rfl tyX10_ok nmX10 rfl rfl (vp_nar_int _) rfl lf_RX10_3 eV2 dX10_throwsIf_6 (fun H locs hw => ?_)
    refine lv_iload_n hx hb dX10_throwsIf_9 rfl (lv_at hl 1 rfl) ?_
    obtain ⟨z3, h⟩ := zo_some h
    have h := Option.some.inj h
    subst h
    rw [kr]
    exact r_rz E hw z3 dX10_throwsIf_10
/-! ===== AllSawItModel.in(III)Z ===== -/
theorem dX10_in_0 : decode cX10_in 0 = .ok (.iload_n 0, 1) := by decide +kernel
theorem dX10_in_1 : decode cX10_in 1 = .ok (.iload_n 1, 1) := by decide +kernel
theorem dX10_in_2 : decode cX10_in 2 = .ok (.if_icmp .lt 12, 3) := by decide +kernel
theorem dX10_in_5 : decode cX10_in 5 = .ok (.iload_n 0, 1) := by decide +kernel
theorem dX10_in_6 : decode cX10_in 6 = .ok (.iload_n 2, 1) := by decide +kernel
theorem dX10_in_7 : decode cX10_in 7 = .ok (.if_icmp .gt 7, 3) := by decide +kernel
theorem dX10_in_10 : decode cX10_in 10 = .ok (.iconst 1, 1) := by decide +kernel
theorem dX10_in_11 : decode cX10_in 11 = .ok (.goto 4, 3) := by decide +kernel
theorem dX10_in_14 : decode cX10_in 14 = .ok (.iconst 0, 1) := by decide +kernel
theorem dX10_in_15 : decode cX10_in 15 = .ok (.ireturn, 1) := by decide +kernel
noncomputable def fX10_in (V : VT) (x1 : Int32) (x2 : Int32) (x3 : Int32) : Option Int32 := if x1 < x2 then (zo_ (0 : Int32) (some (0 : Int32))) else (if x3 < x1 then (zo_ (0 : Int32) (some (0 : Int32))) else (zo_ (1 : Int32) (some (1 : Int32))))
set_option maxHeartbeats 4000000 in
set_option maxRecDepth 100000 in
theorem kX10_in {l : Launch} {G : GT} {B : BGt} (hB : BGok B) {V : VT} {x1 : Int32} {x2 : Int32} {x3 : Int32} {r : Int32} (h : fX10_in V x1 x2 x3 = some r) : CI l G B yX10_in (.code yX10_in cX10_in 3 (some .boolean)) 2 [.int x1, .int x2, .int x3] V r V := by
  intro sz
  refine met_of (Qs := fun sz => QI G sz r V) hB (by decide) (Nat.le_of_ble_eq_true rfl) ?_ sz
  intro p e s m args below meth c ls E hw hl
  have hx := en_x E
  have hb := en_b E
  generalize hQ : MQ _ _ _ _ _ _ _ = Q
  have kr : Q = MQ below (QI G s.heap.size r V) args s 0 0 (gA G s.heap.size) := hQ.symm
  have hl : lv_has ls 3 [(0, .int x1), (1, .int x2), (2, .int x3)] := hl
  obtain ⟨H, eH⟩ : ∃ H, H = s.heap := ⟨_, rfl⟩
  obtain ⟨locs, elocs⟩ : ∃ z : List Loc, z = [] := ⟨_, rfl⟩
  have hw : HW G s.heap V H locs := by rw [eH, elocs]; exact hw
  show W p l e _ s m args below meth c s.heap [] 0 0 Q (F0 m 0 ls [])
  rw [← eH, ← elocs]
  unfold fX10_in at h
  refine lv_iload_n hx hb dX10_in_0 rfl (lv_at hl 0 rfl) ?_
  refine lv_iload_n hx hb dX10_in_1 rfl (lv_at hl 1 rfl) ?_
  refine lv_icmp_lt (tgt := 14) hx hb dX10_in_2 (by decide) (fun c5 => ?_) (fun c5 => ?_)
  · rw [if_pos c5] at h
    refine lv_iconst (v := (0 : Int32)) hx hb dX10_in_14 (by decide) ?_
    obtain ⟨z1, h⟩ := zo_some h
    have h := Option.some.inj h
    subst h
    rw [kr]
    exact r_rz E hw z1 dX10_in_15
  · rw [if_neg c5] at h
    refine lv_iload_n hx hb dX10_in_5 rfl (lv_at hl 0 rfl) ?_
    refine lv_iload_n hx hb dX10_in_6 rfl (lv_at hl 2 rfl) ?_
    refine lv_icmp_gt (tgt := 14) hx hb dX10_in_7 (by decide) (fun c4 => ?_) (fun c4 => ?_)
    · rw [if_pos c4] at h
      refine lv_iconst (v := (0 : Int32)) hx hb dX10_in_14 (by decide) ?_
      obtain ⟨z2, h⟩ := zo_some h
      have h := Option.some.inj h
      subst h
      rw [kr]
      exact r_rz E hw z2 dX10_in_15
    · rw [if_neg c4] at h
      refine lv_iconst (v := (1 : Int32)) hx hb dX10_in_10 (by decide) ?_
      refine lv_goto (tgt := 15) hx hb dX10_in_11 (by decide) ?_
      obtain ⟨z3, h⟩ := zo_some h
      have h := Option.some.inj h
      subst h
      rw [kr]
      exact r_rz E hw z3 dX10_in_15
/-! ===== AllSawItModel.has(II)Z ===== -/
theorem dX10_has_0 : decode cX10_has 0 = .ok (.iload_n 0, 1) := by decide +kernel
theorem dX10_has_1 : decode cX10_has 1 = .ok (.iload_n 1, 1) := by decide +kernel
theorem dX10_has_2 : decode cX10_has 2 = .ok (.ishr, 1) := by decide +kernel
theorem dX10_has_3 : decode cX10_has 3 = .ok (.iconst 1, 1) := by decide +kernel
theorem dX10_has_4 : decode cX10_has 4 = .ok (.iand, 1) := by decide +kernel
theorem dX10_has_5 : decode cX10_has 5 = .ok (.iconst 1, 1) := by decide +kernel
theorem dX10_has_6 : decode cX10_has 6 = .ok (.if_icmp .ne 7, 3) := by decide +kernel
theorem dX10_has_9 : decode cX10_has 9 = .ok (.iconst 1, 1) := by decide +kernel
theorem dX10_has_10 : decode cX10_has 10 = .ok (.goto 4, 3) := by decide +kernel
theorem dX10_has_13 : decode cX10_has 13 = .ok (.iconst 0, 1) := by decide +kernel
theorem dX10_has_14 : decode cX10_has 14 = .ok (.ireturn, 1) := by decide +kernel
noncomputable def fX10_has (V : VT) (x1 : Int32) (x2 : Int32) : Option Int32 := if ((x1 >>> (x2 &&& 31)) &&& (1 : Int32)) = (1 : Int32) then (zo_ (1 : Int32) (some (1 : Int32))) else (zo_ (0 : Int32) (some (0 : Int32)))
set_option maxHeartbeats 4000000 in
set_option maxRecDepth 100000 in
theorem kX10_has {l : Launch} {G : GT} {B : BGt} (hB : BGok B) {V : VT} {x1 : Int32} {x2 : Int32} {r : Int32} (h : fX10_has V x1 x2 = some r) : CI l G B yX10_has (.code yX10_has cX10_has 2 (some .boolean)) 2 [.int x1, .int x2] V r V := by
  intro sz
  refine met_of (Qs := fun sz => QI G sz r V) hB (by decide) (Nat.le_of_ble_eq_true rfl) ?_ sz
  intro p e s m args below meth c ls E hw hl
  have hx := en_x E
  have hb := en_b E
  generalize hQ : MQ _ _ _ _ _ _ _ = Q
  have kr : Q = MQ below (QI G s.heap.size r V) args s 0 0 (gA G s.heap.size) := hQ.symm
  have hl : lv_has ls 2 [(0, .int x1), (1, .int x2)] := hl
  obtain ⟨H, eH⟩ : ∃ H, H = s.heap := ⟨_, rfl⟩
  obtain ⟨locs, elocs⟩ : ∃ z : List Loc, z = [] := ⟨_, rfl⟩
  have hw : HW G s.heap V H locs := by rw [eH, elocs]; exact hw
  show W p l e _ s m args below meth c s.heap [] 0 0 Q (F0 m 0 ls [])
  rw [← eH, ← elocs]
  unfold fX10_has at h
  refine lv_iload_n hx hb dX10_has_0 rfl (lv_at hl 0 rfl) ?_
  refine lv_iload_n hx hb dX10_has_1 rfl (lv_at hl 1 rfl) ?_
  refine lv_ishr hx hb dX10_has_2 ?_
  refine lv_iconst (v := (1 : Int32)) hx hb dX10_has_3 (by decide) ?_
  refine lv_iand hx hb dX10_has_4 ?_
  refine lv_iconst (v := (1 : Int32)) hx hb dX10_has_5 (by decide) ?_
  refine lv_icmp_ne (tgt := 13) hx hb dX10_has_6 (by decide) (fun c3 => ?_) (fun c3 => ?_)
  · rw [if_neg c3] at h
    refine lv_iconst (v := (0 : Int32)) hx hb dX10_has_13 (by decide) ?_
    obtain ⟨z1, h⟩ := zo_some h
    have h := Option.some.inj h
    subst h
    rw [kr]
    exact r_rz E hw z1 dX10_has_14
  · rw [if_pos c3] at h
    refine lv_iconst (v := (1 : Int32)) hx hb dX10_has_9 (by decide) ?_
    refine lv_goto (tgt := 14) hx hb dX10_has_10 (by decide) ?_
    obtain ⟨z2, h⟩ := zo_some h
    have h := Option.some.inj h
    subst h
    rw [kr]
    exact r_rz E hw z2 dX10_has_14
/-! ===== AllSawItModel.image()V ===== -/
theorem dX10_image_0 : decode cX10_image 0 = .ok (.aload_n 0, 1) := by decide +kernel
theorem dX10_image_1 : decode cX10_image 1 = .ok (.iconst 0, 1) := by decide +kernel
theorem dX10_image_2 : decode cX10_image 2 = .ok (.putfield 3, 3) := by decide +kernel
theorem dX10_image_5 : decode cX10_image 5 = .ok (.iconst 0, 1) := by decide +kernel
theorem dX10_image_6 : decode cX10_image 6 = .ok (.istore_n 1, 1) := by decide +kernel
theorem dX10_image_7 : decode cX10_image 7 = .ok (.iload_n 1, 1) := by decide +kernel
theorem dX10_image_8 : decode cX10_image 8 = .ok (.sipush 1151, 3) := by decide +kernel
theorem dX10_image_11 : decode cX10_image 11 = .ok (.if_icmp .ge 21, 3) := by decide +kernel
theorem dX10_image_14 : decode cX10_image 14 = .ok (.aload_n 0, 1) := by decide +kernel
theorem dX10_image_15 : decode cX10_image 15 = .ok (.getfield 17, 3) := by decide +kernel
theorem dX10_image_18 : decode cX10_image 18 = .ok (.iload_n 1, 1) := by decide +kernel
theorem dX10_image_19 : decode cX10_image 19 = .ok (.aload_n 0, 1) := by decide +kernel
theorem dX10_image_20 : decode cX10_image 20 = .ok (.getfield 13, 3) := by decide +kernel
theorem dX10_image_23 : decode cX10_image 23 = .ok (.iload_n 1, 1) := by decide +kernel
theorem dX10_image_24 : decode cX10_image 24 = .ok (.iaload, 1) := by decide +kernel
theorem dX10_image_25 : decode cX10_image 25 = .ok (.iastore, 1) := by decide +kernel
theorem dX10_image_26 : decode cX10_image 26 = .ok (.iinc 1 1, 3) := by decide +kernel
theorem dX10_image_29 : decode cX10_image 29 = .ok (.goto (-22), 3) := by decide +kernel
theorem dX10_image_32 : decode cX10_image 32 = .ok (.aload_n 0, 1) := by decide +kernel
theorem dX10_image_33 : decode cX10_image 33 = .ok (.iconst 1, 1) := by decide +kernel
theorem dX10_image_34 : decode cX10_image 34 = .ok (.putfield 55, 3) := by decide +kernel
theorem dX10_image_37 : decode cX10_image 37 = .ok (.return_, 1) := by decide +kernel
noncomputable def fX10_image_L7 (V : VT) (u1 : Int32) : Option ((VT × Int32) ⊕ VT) := if (1151 : Int32) ≤ u1 then (zo_ (1 : Int32) (lt_ (va_up V 22 (upd (V 22) 6 (1 : Int32))) fun V2 => some (.inr (V2)))) else (rd_ u1 1988 (rd_ u1 1151 (lt_ (va_up V 77 (upd (V 77) u1.toNatClampNeg (V 76 u1.toNatClampNeg))) fun V6 => lt_ (u1 + (1 : Int32)) fun y7 => some (.inl (V6, y7)))))
noncomputable def iX10_image_L7 : (VT × Int32) → Option ((VT × Int32) ⊕ VT) := fun q => fX10_image_L7 (q.1) (q.2)
noncomputable def fX10_image (V : VT) : Option VT := lt_ (va_up V 22 (upd (V 22) 0 (0 : Int32))) fun V1 => ob_R (it_ (iX10_image_L7) FV (V1, (0 : Int32))) fun x10 => some x10
set_option maxHeartbeats 4000000 in
set_option maxRecDepth 100000 in
theorem wX10_image_L7 {p : Program} {l : Launch} {e : Env} {s : State} {m : MethodId} {args : Array Value} {below : List Frame} {meth : Method} {c : Code} {G : GT} {B : BGt} {Q : State → Prop} (E : En p s m args c meth cX10_image 2 RX10 none G B) {x : VT} (kr : ∀ q : VT, x = q → Q = MQ below (QV G s.heap.size q) args s 0 0 (gA G s.heap.size)) : ∀ (n : Nat) (q : (VT × Int32)), it_ (iX10_image_L7) n q = some x → ∀ (H : Heap) (locs : List Loc) (ls : Array Slot), HW G s.heap (q.1) H locs → lv_has ls 2 [(0, .ref (G.2.2 22)), (1, .int (q.2))] → W p l e (rmD 2) s m args below meth c H locs 0 0 Q (F0 m 7 ls []) := by
  have hx := en_x E
  have hb := en_b E
  have hB := en_B E
  refine it_W (fun q : (VT × Int32) => ∀ (H : Heap) (locs : List Loc) (ls : Array Slot), HW G s.heap (q.1) H locs → lv_has ls 2 [(0, .ref (G.2.2 22)), (1, .int (q.2))] → W p l e (rmD 2) s m args below meth c H locs 0 0 Q (F0 m 7 ls [])) x ?_
  intro q r h kc kx
  obtain ⟨V, u1⟩ := q
  intro H locs ls hw hl
  have h : fX10_image_L7 V u1 = some r := h
  have hw : HW G s.heap V H locs := hw
  have hl : lv_has ls 2 [(0, .ref (G.2.2 22)), (1, .int u1)] := hl
  have kr : ∀ q : VT, r = .inr (q) → Q = MQ below (QV G s.heap.size q) args s 0 0 (gA G s.heap.size) := fun q e => kr q (kx _ e).symm
  unfold fX10_image_L7 at h
  refine lv_iload_n hx hb dX10_image_7 rfl (lv_at hl 1 rfl) ?_
  refine lv_sipush (v := (1151 : Int32)) hx hb dX10_image_8 (by decide) ?_
  refine lv_icmp_ge (tgt := 32) hx hb dX10_image_11 (by decide) (fun c8 => ?_) (fun c8 => ?_)
  · rw [if_pos c8] at h
    refine lv_aload_n hx hb dX10_image_32 rfl (lv_at hl 0 rfl) ?_
    refine lv_iconst (v := (1 : Int32)) hx hb dX10_image_33 (by decide) ?_
    obtain ⟨z3, h⟩ := zo_some h
    obtain ⟨V2, eV2, h⟩ := lt_some h
    refine r_pi E hw 22 6 (N := 29) (C := RX10) (T := TX10) (ty0 := tyX10) (ty := .boolean) (by decide) rfl rfl (by decide) rfl iw_10 rfl tyX10_ok nmX10 rfl rfl (nar_z z3) (fit_z z3) lf_RX10_55 eV2 dX10_image_34 (fun H locs hw => ?_)
    rw [kr V2 (Option.some.inj h).symm]
    exact r_rv E hw dX10_image_37
  · rw [if_neg c8] at h
    refine lv_aload_n hx hb dX10_image_14 rfl (lv_at hl 0 rfl) ?_
    refine r_gr E hw 22 2 77 (N := 29) (C := RX10) (T := TX10) (by decide) rfl rfl (by decide) rfl iw_10 rfl lf_RX10_17 dX10_image_15 ?_
    refine lv_iload_n hx hb dX10_image_18 rfl (lv_at hl 1 rfl) ?_
    refine lv_aload_n hx hb dX10_image_19 rfl (lv_at hl 0 rfl) ?_
    refine r_gr E hw 22 1 76 (N := 29) (C := RX10) (T := TX10) (by decide) rfl rfl (by decide) rfl iw_10 rfl lf_RX10_13 dX10_image_20 ?_
    refine lv_iload_n hx hb dX10_image_23 rfl (lv_at hl 1 rfl) ?_
    obtain ⟨b4, h⟩ := rd_some h
    refine r_ia E hw 76 1988 (by decide) (by decide) (by decide) rfl rfl b4 dX10_image_24 ?_
    obtain ⟨b5, h⟩ := rd_some h
    obtain ⟨V6, eV6, h⟩ := lt_some h
    refine r_is E hw 77 1151 (by decide) (by decide) (by decide) rfl rfl b5 eV6 dX10_image_25 (fun H locs hw => ?_)
    obtain ⟨y7, ey7, h⟩ := lt_some h
    refine lv_iinc (v := y7) (lv' := [(1, .int y7), (0, .ref (G.2.2 22))]) hx hb dX10_image_26 hl (k := 1) rfl (by rw [ey7]; rfl) (by decide) rfl (fun ls hl => ?_)
    refine lv_goto (tgt := 7) hx hb dX10_image_29 (by decide) ?_
    exact kc (V6, y7) (Option.some.inj h).symm H locs ls hw (lv_sub hl [1, 0] rfl)
set_option maxHeartbeats 4000000 in
set_option maxRecDepth 100000 in
theorem kX10_image {l : Launch} {G : GT} {B : BGt} (hB : BGok B) {V : VT} {r : VT} (h : fX10_image V = some r) : CV l G B yX10_image (.code yX10_image cX10_image 2 none) 2 [.ref (G.2.2 22)] V r := by
  intro sz
  refine met_of (Qs := fun sz => QV G sz r) hB (by decide) (Nat.le_of_ble_eq_true rfl) ?_ sz
  intro p e s m args below meth c ls E hw hl
  have hx := en_x E
  have hb := en_b E
  generalize hQ : MQ _ _ _ _ _ _ _ = Q
  have kr : Q = MQ below (QV G s.heap.size r) args s 0 0 (gA G s.heap.size) := hQ.symm
  have hl : lv_has ls 2 [(0, .ref (G.2.2 22))] := hl
  obtain ⟨H, eH⟩ : ∃ H, H = s.heap := ⟨_, rfl⟩
  obtain ⟨locs, elocs⟩ : ∃ z : List Loc, z = [] := ⟨_, rfl⟩
  have hw : HW G s.heap V H locs := by rw [eH, elocs]; exact hw
  show W p l e _ s m args below meth c s.heap [] 0 0 Q (F0 m 0 ls [])
  rw [← eH, ← elocs]
  unfold fX10_image at h
  refine lv_aload_n hx hb dX10_image_0 rfl (lv_at hl 0 rfl) ?_
  refine lv_iconst (v := (0 : Int32)) hx hb dX10_image_1 (by decide) ?_
  obtain ⟨V1, eV1, h⟩ := lt_some h
  refine r_pi E hw 22 0 (N := 29) (C := RX10) (T := TX10) (ty0 := tyX10) (ty := .int) (by decide) rfl rfl (by decide) rfl iw_10 rfl tyX10_ok nmX10 rfl rfl (vp_nar_int _) rfl lf_RX10_3 eV1 dX10_image_2 (fun H locs hw => ?_)
  refine lv_iconst (v := (0 : Int32)) hx hb dX10_image_5 (by decide) ?_
  refine lv_istore_n (lv' := [(1, .int (0 : Int32)), (0, .ref (G.2.2 22))]) hx hb dX10_image_6 rfl hl (by decide) rfl (fun ls hl => ?_)
  obtain ⟨x10, h9, h⟩ := ob_R_some h
  have h := Option.some.inj h
  subst h
  exact wX10_image_L7 E (fun q e => by subst e; exact kr) FV (V1, (0 : Int32)) h9 H locs ls hw (lv_sub hl [1, 0] rfl)
/-! ===== AllSawItModel.back()Z ===== -/
theorem dX10_back_0 : decode cX10_back 0 = .ok (.aload_n 0, 1) := by decide +kernel
theorem dX10_back_1 : decode cX10_back 1 = .ok (.iconst 0, 1) := by decide +kernel
theorem dX10_back_2 : decode cX10_back 2 = .ok (.putfield 3, 3) := by decide +kernel
theorem dX10_back_5 : decode cX10_back 5 = .ok (.aload_n 0, 1) := by decide +kernel
theorem dX10_back_6 : decode cX10_back 6 = .ok (.getfield 55, 3) := by decide +kernel
theorem dX10_back_9 : decode cX10_back 9 = .ok (.ifCond .ne 5, 3) := by decide +kernel
theorem dX10_back_12 : decode cX10_back 12 = .ok (.iconst 0, 1) := by decide +kernel
theorem dX10_back_13 : decode cX10_back 13 = .ok (.ireturn, 1) := by decide +kernel
theorem dX10_back_14 : decode cX10_back 14 = .ok (.iconst 0, 1) := by decide +kernel
theorem dX10_back_15 : decode cX10_back 15 = .ok (.istore_n 1, 1) := by decide +kernel
theorem dX10_back_16 : decode cX10_back 16 = .ok (.iload_n 1, 1) := by decide +kernel
theorem dX10_back_17 : decode cX10_back 17 = .ok (.sipush 1151, 3) := by decide +kernel
theorem dX10_back_20 : decode cX10_back 20 = .ok (.if_icmp .ge 21, 3) := by decide +kernel
theorem dX10_back_23 : decode cX10_back 23 = .ok (.aload_n 0, 1) := by decide +kernel
theorem dX10_back_24 : decode cX10_back 24 = .ok (.getfield 13, 3) := by decide +kernel
theorem dX10_back_27 : decode cX10_back 27 = .ok (.iload_n 1, 1) := by decide +kernel
theorem dX10_back_28 : decode cX10_back 28 = .ok (.aload_n 0, 1) := by decide +kernel
theorem dX10_back_29 : decode cX10_back 29 = .ok (.getfield 17, 3) := by decide +kernel
theorem dX10_back_32 : decode cX10_back 32 = .ok (.iload_n 1, 1) := by decide +kernel
theorem dX10_back_33 : decode cX10_back 33 = .ok (.iaload, 1) := by decide +kernel
theorem dX10_back_34 : decode cX10_back 34 = .ok (.iastore, 1) := by decide +kernel
theorem dX10_back_35 : decode cX10_back 35 = .ok (.iinc 1 1, 3) := by decide +kernel
theorem dX10_back_38 : decode cX10_back 38 = .ok (.goto (-22), 3) := by decide +kernel
theorem dX10_back_41 : decode cX10_back 41 = .ok (.aload_n 0, 1) := by decide +kernel
theorem dX10_back_42 : decode cX10_back 42 = .ok (.iconst 0, 1) := by decide +kernel
theorem dX10_back_43 : decode cX10_back 43 = .ok (.putfield 59, 3) := by decide +kernel
theorem dX10_back_46 : decode cX10_back 46 = .ok (.iconst 1, 1) := by decide +kernel
theorem dX10_back_47 : decode cX10_back 47 = .ok (.ireturn, 1) := by decide +kernel
noncomputable def fX10_back_L16 (V : VT) (u1 : Int32) : Option ((VT × Int32) ⊕ (Int32 × VT)) := if (1151 : Int32) ≤ u1 then (lt_ (va_up V 22 (upd (V 22) 7 (0 : Int32))) fun V2 => zo_ (1 : Int32) (some (.inr (((1 : Int32), V2))))) else (rd_ u1 1151 (rd_ u1 1988 (lt_ (va_up V 76 (upd (V 76) u1.toNatClampNeg (V 77 u1.toNatClampNeg))) fun V6 => lt_ (u1 + (1 : Int32)) fun y7 => some (.inl (V6, y7)))))
noncomputable def iX10_back_L16 : (VT × Int32) → Option ((VT × Int32) ⊕ (Int32 × VT)) := fun q => fX10_back_L16 (q.1) (q.2)
noncomputable def fX10_back (V : VT) : Option (Int32 × VT) := lt_ (va_up V 22 (upd (V 22) 0 (0 : Int32))) fun V1 => if (V1 22 6) = 0 then (zo_ (0 : Int32) (some ((0 : Int32), V1))) else (ob_R (it_ (iX10_back_L16) FV (V1, (0 : Int32))) fun x10 => some x10)
set_option maxHeartbeats 4000000 in
set_option maxRecDepth 100000 in
theorem wX10_back_L16 {p : Program} {l : Launch} {e : Env} {s : State} {m : MethodId} {args : Array Value} {below : List Frame} {meth : Method} {c : Code} {G : GT} {B : BGt} {Q : State → Prop} (E : En p s m args c meth cX10_back 2 RX10 (some .boolean) G B) {x : (Int32 × VT)} (kr : ∀ q : (Int32 × VT), x = q → Q = MQ below (QI G s.heap.size q.1 q.2) args s 0 0 (gA G s.heap.size)) : ∀ (n : Nat) (q : (VT × Int32)), it_ (iX10_back_L16) n q = some x → ∀ (H : Heap) (locs : List Loc) (ls : Array Slot), HW G s.heap (q.1) H locs → lv_has ls 2 [(0, .ref (G.2.2 22)), (1, .int (q.2))] → W p l e (rmD 2) s m args below meth c H locs 0 0 Q (F0 m 16 ls []) := by
  have hx := en_x E
  have hb := en_b E
  have hB := en_B E
  refine it_W (fun q : (VT × Int32) => ∀ (H : Heap) (locs : List Loc) (ls : Array Slot), HW G s.heap (q.1) H locs → lv_has ls 2 [(0, .ref (G.2.2 22)), (1, .int (q.2))] → W p l e (rmD 2) s m args below meth c H locs 0 0 Q (F0 m 16 ls [])) x ?_
  intro q r h kc kx
  obtain ⟨V, u1⟩ := q
  intro H locs ls hw hl
  have h : fX10_back_L16 V u1 = some r := h
  have hw : HW G s.heap V H locs := hw
  have hl : lv_has ls 2 [(0, .ref (G.2.2 22)), (1, .int u1)] := hl
  have kr : ∀ q : (Int32 × VT), r = .inr (q) → Q = MQ below (QI G s.heap.size q.1 q.2) args s 0 0 (gA G s.heap.size) := fun q e => kr q (kx _ e).symm
  unfold fX10_back_L16 at h
  refine lv_iload_n hx hb dX10_back_16 rfl (lv_at hl 1 rfl) ?_
  refine lv_sipush (v := (1151 : Int32)) hx hb dX10_back_17 (by decide) ?_
  refine lv_icmp_ge (tgt := 41) hx hb dX10_back_20 (by decide) (fun c8 => ?_) (fun c8 => ?_)
  · rw [if_pos c8] at h
    refine lv_aload_n hx hb dX10_back_41 rfl (lv_at hl 0 rfl) ?_
    refine lv_iconst (v := (0 : Int32)) hx hb dX10_back_42 (by decide) ?_
    obtain ⟨V2, eV2, h⟩ := lt_some h
    refine r_pi E hw 22 7 (N := 29) (C := RX10) (T := TX10) (ty0 := tyX10) (ty := .int) (by decide) rfl rfl (by decide) rfl iw_10 rfl tyX10_ok nmX10 rfl rfl (vp_nar_int _) rfl lf_RX10_59 eV2 dX10_back_43 (fun H locs hw => ?_)
    refine lv_iconst (v := (1 : Int32)) hx hb dX10_back_46 (by decide) ?_
    obtain ⟨z3, h⟩ := zo_some h
    rw [kr ((1 : Int32), V2) (Option.some.inj h).symm]
    exact r_rz E hw z3 dX10_back_47
  · rw [if_neg c8] at h
    refine lv_aload_n hx hb dX10_back_23 rfl (lv_at hl 0 rfl) ?_
    refine r_gr E hw 22 1 76 (N := 29) (C := RX10) (T := TX10) (by decide) rfl rfl (by decide) rfl iw_10 rfl lf_RX10_13 dX10_back_24 ?_
    refine lv_iload_n hx hb dX10_back_27 rfl (lv_at hl 1 rfl) ?_
    refine lv_aload_n hx hb dX10_back_28 rfl (lv_at hl 0 rfl) ?_
    refine r_gr E hw 22 2 77 (N := 29) (C := RX10) (T := TX10) (by decide) rfl rfl (by decide) rfl iw_10 rfl lf_RX10_17 dX10_back_29 ?_
    refine lv_iload_n hx hb dX10_back_32 rfl (lv_at hl 1 rfl) ?_
    obtain ⟨b4, h⟩ := rd_some h
    refine r_ia E hw 77 1151 (by decide) (by decide) (by decide) rfl rfl b4 dX10_back_33 ?_
    obtain ⟨b5, h⟩ := rd_some h
    obtain ⟨V6, eV6, h⟩ := lt_some h
    refine r_is E hw 76 1988 (by decide) (by decide) (by decide) rfl rfl b5 eV6 dX10_back_34 (fun H locs hw => ?_)
    obtain ⟨y7, ey7, h⟩ := lt_some h
    refine lv_iinc (v := y7) (lv' := [(1, .int y7), (0, .ref (G.2.2 22))]) hx hb dX10_back_35 hl (k := 1) rfl (by rw [ey7]; rfl) (by decide) rfl (fun ls hl => ?_)
    refine lv_goto (tgt := 16) hx hb dX10_back_38 (by decide) ?_
    exact kc (V6, y7) (Option.some.inj h).symm H locs ls hw (lv_sub hl [1, 0] rfl)
set_option maxHeartbeats 4000000 in
set_option maxRecDepth 100000 in
theorem kX10_back {l : Launch} {G : GT} {B : BGt} (hB : BGok B) {V : VT} {r : (Int32 × VT)} (h : fX10_back V = some r) : CI l G B yX10_back (.code yX10_back cX10_back 2 (some .boolean)) 2 [.ref (G.2.2 22)] V r.1 r.2 := by
  intro sz
  refine met_of (Qs := fun sz => QI G sz (r.1) (r.2)) hB (by decide) (Nat.le_of_ble_eq_true rfl) ?_ sz
  intro p e s m args below meth c ls E hw hl
  have hx := en_x E
  have hb := en_b E
  generalize hQ : MQ _ _ _ _ _ _ _ = Q
  have kr : Q = MQ below (QI G s.heap.size r.1 r.2) args s 0 0 (gA G s.heap.size) := hQ.symm
  have hl : lv_has ls 2 [(0, .ref (G.2.2 22))] := hl
  obtain ⟨H, eH⟩ : ∃ H, H = s.heap := ⟨_, rfl⟩
  obtain ⟨locs, elocs⟩ : ∃ z : List Loc, z = [] := ⟨_, rfl⟩
  have hw : HW G s.heap V H locs := by rw [eH, elocs]; exact hw
  show W p l e _ s m args below meth c s.heap [] 0 0 Q (F0 m 0 ls [])
  rw [← eH, ← elocs]
  unfold fX10_back at h
  refine lv_aload_n hx hb dX10_back_0 rfl (lv_at hl 0 rfl) ?_
  refine lv_iconst (v := (0 : Int32)) hx hb dX10_back_1 (by decide) ?_
  obtain ⟨V1, eV1, h⟩ := lt_some h
  refine r_pi E hw 22 0 (N := 29) (C := RX10) (T := TX10) (ty0 := tyX10) (ty := .int) (by decide) rfl rfl (by decide) rfl iw_10 rfl tyX10_ok nmX10 rfl rfl (vp_nar_int _) rfl lf_RX10_3 eV1 dX10_back_2 (fun H locs hw => ?_)
  refine lv_aload_n hx hb dX10_back_5 rfl (lv_at hl 0 rfl) ?_
  refine r_gi E hw 22 6 (N := 29) (C := RX10) (T := TX10) (by decide) rfl rfl (by decide) rfl iw_10 rfl lf_RX10_55 dX10_back_6 ?_
  refine lv_if_ne (tgt := 14) hx hb dX10_back_9 (by decide) (fun c12 => ?_) (fun c12 => ?_)
  · rw [if_neg c12] at h
    refine lv_iconst (v := (0 : Int32)) hx hb dX10_back_14 (by decide) ?_
    refine lv_istore_n (lv' := [(1, .int (0 : Int32)), (0, .ref (G.2.2 22))]) hx hb dX10_back_15 rfl hl (by decide) rfl (fun ls hl => ?_)
    obtain ⟨x10, h9, h⟩ := ob_R_some h
    have h := Option.some.inj h
    subst h
    exact wX10_back_L16 E (fun q e => by subst e; exact kr) FV (V1, (0 : Int32)) h9 H locs ls hw (lv_sub hl [1, 0] rfl)
  · rw [if_pos c12] at h
    refine lv_iconst (v := (0 : Int32)) hx hb dX10_back_12 (by decide) ?_
    obtain ⟨z11, h⟩ := zo_some h
    have h := Option.some.inj h
    subst h
    rw [kr]
    exact r_rz E hw z11 dX10_back_13
/-! ===== AllSawItModel.remembers()V ===== -/
theorem dX10_remembers_0 : decode cX10_remembers 0 = .ok (.aload_n 0, 1) := by decide +kernel
theorem dX10_remembers_1 : decode cX10_remembers 1 = .ok (.getfield 59, 3) := by decide +kernel
theorem dX10_remembers_4 : decode cX10_remembers 4 = .ok (.bipush 12, 2) := by decide +kernel
theorem dX10_remembers_6 : decode cX10_remembers 6 = .ok (.if_icmp .ne 37, 3) := by decide +kernel
theorem dX10_remembers_9 : decode cX10_remembers 9 = .ok (.iconst 0, 1) := by decide +kernel
theorem dX10_remembers_10 : decode cX10_remembers 10 = .ok (.istore_n 1, 1) := by decide +kernel
theorem dX10_remembers_11 : decode cX10_remembers 11 = .ok (.iload_n 1, 1) := by decide +kernel
theorem dX10_remembers_12 : decode cX10_remembers 12 = .ok (.sipush 3454, 3) := by decide +kernel
theorem dX10_remembers_15 : decode cX10_remembers 15 = .ok (.if_icmp .ge 25, 3) := by decide +kernel
theorem dX10_remembers_18 : decode cX10_remembers 18 = .ok (.aload_n 0, 1) := by decide +kernel
theorem dX10_remembers_19 : decode cX10_remembers 19 = .ok (.getfield 26, 3) := by decide +kernel
theorem dX10_remembers_22 : decode cX10_remembers 22 = .ok (.iload_n 1, 1) := by decide +kernel
theorem dX10_remembers_23 : decode cX10_remembers 23 = .ok (.aload_n 0, 1) := by decide +kernel
theorem dX10_remembers_24 : decode cX10_remembers 24 = .ok (.getfield 26, 3) := by decide +kernel
theorem dX10_remembers_27 : decode cX10_remembers 27 = .ok (.iload_n 1, 1) := by decide +kernel
theorem dX10_remembers_28 : decode cX10_remembers 28 = .ok (.sipush 314, 3) := by decide +kernel
theorem dX10_remembers_31 : decode cX10_remembers 31 = .ok (.iadd, 1) := by decide +kernel
theorem dX10_remembers_32 : decode cX10_remembers 32 = .ok (.iaload, 1) := by decide +kernel
theorem dX10_remembers_33 : decode cX10_remembers 33 = .ok (.iastore, 1) := by decide +kernel
theorem dX10_remembers_34 : decode cX10_remembers 34 = .ok (.iinc 1 1, 3) := by decide +kernel
theorem dX10_remembers_37 : decode cX10_remembers 37 = .ok (.goto (-26), 3) := by decide +kernel
theorem dX10_remembers_40 : decode cX10_remembers 40 = .ok (.goto 13, 3) := by decide +kernel
theorem dX10_remembers_43 : decode cX10_remembers 43 = .ok (.aload_n 0, 1) := by decide +kernel
theorem dX10_remembers_44 : decode cX10_remembers 44 = .ok (.dup, 1) := by decide +kernel
theorem dX10_remembers_45 : decode cX10_remembers 45 = .ok (.getfield 59, 3) := by decide +kernel
theorem dX10_remembers_48 : decode cX10_remembers 48 = .ok (.iconst 1, 1) := by decide +kernel
theorem dX10_remembers_49 : decode cX10_remembers 49 = .ok (.iadd, 1) := by decide +kernel
theorem dX10_remembers_50 : decode cX10_remembers 50 = .ok (.putfield 59, 3) := by decide +kernel
theorem dX10_remembers_53 : decode cX10_remembers 53 = .ok (.iconst 0, 1) := by decide +kernel
theorem dX10_remembers_54 : decode cX10_remembers 54 = .ok (.istore_n 1, 1) := by decide +kernel
theorem dX10_remembers_55 : decode cX10_remembers 55 = .ok (.iload_n 1, 1) := by decide +kernel
theorem dX10_remembers_56 : decode cX10_remembers 56 = .ok (.sipush 314, 3) := by decide +kernel
theorem dX10_remembers_59 : decode cX10_remembers 59 = .ok (.if_icmp .ge 32, 3) := by decide +kernel
theorem dX10_remembers_62 : decode cX10_remembers 62 = .ok (.aload_n 0, 1) := by decide +kernel
theorem dX10_remembers_63 : decode cX10_remembers 63 = .ok (.getfield 26, 3) := by decide +kernel
theorem dX10_remembers_66 : decode cX10_remembers 66 = .ok (.sipush 314, 3) := by decide +kernel
theorem dX10_remembers_69 : decode cX10_remembers 69 = .ok (.aload_n 0, 1) := by decide +kernel
theorem dX10_remembers_70 : decode cX10_remembers 70 = .ok (.getfield 59, 3) := by decide +kernel
theorem dX10_remembers_73 : decode cX10_remembers 73 = .ok (.iconst 1, 1) := by decide +kernel
theorem dX10_remembers_74 : decode cX10_remembers 74 = .ok (.isub, 1) := by decide +kernel
theorem dX10_remembers_75 : decode cX10_remembers 75 = .ok (.imul, 1) := by decide +kernel
theorem dX10_remembers_76 : decode cX10_remembers 76 = .ok (.iload_n 1, 1) := by decide +kernel
theorem dX10_remembers_77 : decode cX10_remembers 77 = .ok (.iadd, 1) := by decide +kernel
theorem dX10_remembers_78 : decode cX10_remembers 78 = .ok (.aload_n 0, 1) := by decide +kernel
theorem dX10_remembers_79 : decode cX10_remembers 79 = .ok (.getfield 13, 3) := by decide +kernel
theorem dX10_remembers_82 : decode cX10_remembers 82 = .ok (.iload_n 1, 1) := by decide +kernel
theorem dX10_remembers_83 : decode cX10_remembers 83 = .ok (.iaload, 1) := by decide +kernel
theorem dX10_remembers_84 : decode cX10_remembers 84 = .ok (.iastore, 1) := by decide +kernel
theorem dX10_remembers_85 : decode cX10_remembers 85 = .ok (.iinc 1 1, 3) := by decide +kernel
theorem dX10_remembers_88 : decode cX10_remembers 88 = .ok (.goto (-33), 3) := by decide +kernel
theorem dX10_remembers_91 : decode cX10_remembers 91 = .ok (.return_, 1) := by decide +kernel
noncomputable def fX10_remembers_L55 (V : VT) (u1 : Int32) : Option ((VT × Int32) ⊕ VT) := if (314 : Int32) ≤ u1 then (some (.inr (V))) else (rd_ u1 1988 (rd_ (((314 : Int32) * ((V 22 7) - (1 : Int32))) + u1) 3768 (lt_ (va_up V 80 (upd (V 80) (((314 : Int32) * ((V 22 7) - (1 : Int32))) + u1).toNatClampNeg (V 76 u1.toNatClampNeg))) fun V4 => lt_ (u1 + (1 : Int32)) fun y5 => some (.inl (V4, y5)))))
noncomputable def iX10_remembers_L55 : (VT × Int32) → Option ((VT × Int32) ⊕ VT) := fun q => fX10_remembers_L55 (q.1) (q.2)
noncomputable def fX10_remembers_L11 (V : VT) (u1 : Int32) : Option ((VT × Int32) ⊕ VT) := if (3454 : Int32) ≤ u1 then (some (.inr (V))) else (rd_ (u1 + (314 : Int32)) 3768 (rd_ u1 3768 (lt_ (va_up V 80 (upd (V 80) u1.toNatClampNeg (V 80 (u1 + (314 : Int32)).toNatClampNeg))) fun V11 => lt_ (u1 + (1 : Int32)) fun y12 => some (.inl (V11, y12)))))
noncomputable def iX10_remembers_L11 : (VT × Int32) → Option ((VT × Int32) ⊕ VT) := fun q => fX10_remembers_L11 (q.1) (q.2)
noncomputable def fX10_remembers (V : VT) : Option VT := if (V 22 7) = (12 : Int32) then (ob_R (it_ (iX10_remembers_L11) FV (V, (0 : Int32))) fun x15 => (lt_ x15 fun V16 => ob_R (it_ (iX10_remembers_L55) FV (V16, (0 : Int32))) fun x18 => some x18)) else (lt_ (va_up V 22 (upd (V 22) 7 ((V 22 7) + (1 : Int32)))) fun V1 => ob_R (it_ (iX10_remembers_L55) FV (V1, (0 : Int32))) fun x8 => some x8)
set_option maxHeartbeats 4000000 in
set_option maxRecDepth 100000 in
theorem wX10_remembers_L55 {p : Program} {l : Launch} {e : Env} {s : State} {m : MethodId} {args : Array Value} {below : List Frame} {meth : Method} {c : Code} {G : GT} {B : BGt} {Q : State → Prop} (E : En p s m args c meth cX10_remembers 2 RX10 none G B) {x : VT} (kr : ∀ q : VT, x = q → Q = MQ below (QV G s.heap.size q) args s 0 0 (gA G s.heap.size)) : ∀ (n : Nat) (q : (VT × Int32)), it_ (iX10_remembers_L55) n q = some x → ∀ (H : Heap) (locs : List Loc) (ls : Array Slot), HW G s.heap (q.1) H locs → lv_has ls 2 [(0, .ref (G.2.2 22)), (1, .int (q.2))] → W p l e (rmD 2) s m args below meth c H locs 0 0 Q (F0 m 55 ls []) := by
  have hx := en_x E
  have hb := en_b E
  have hB := en_B E
  refine it_W (fun q : (VT × Int32) => ∀ (H : Heap) (locs : List Loc) (ls : Array Slot), HW G s.heap (q.1) H locs → lv_has ls 2 [(0, .ref (G.2.2 22)), (1, .int (q.2))] → W p l e (rmD 2) s m args below meth c H locs 0 0 Q (F0 m 55 ls [])) x ?_
  intro q r h kc kx
  obtain ⟨V, u1⟩ := q
  intro H locs ls hw hl
  have h : fX10_remembers_L55 V u1 = some r := h
  have hw : HW G s.heap V H locs := hw
  have hl : lv_has ls 2 [(0, .ref (G.2.2 22)), (1, .int u1)] := hl
  have kr : ∀ q : VT, r = .inr (q) → Q = MQ below (QV G s.heap.size q) args s 0 0 (gA G s.heap.size) := fun q e => kr q (kx _ e).symm
  unfold fX10_remembers_L55 at h
  refine lv_iload_n hx hb dX10_remembers_55 rfl (lv_at hl 1 rfl) ?_
  refine lv_sipush (v := (314 : Int32)) hx hb dX10_remembers_56 (by decide) ?_
  refine lv_icmp_ge (tgt := 91) hx hb dX10_remembers_59 (by decide) (fun c6 => ?_) (fun c6 => ?_)
  · rw [if_pos c6] at h
    rw [kr V (Option.some.inj h).symm]
    exact r_rv E hw dX10_remembers_91
  · rw [if_neg c6] at h
    refine lv_aload_n hx hb dX10_remembers_62 rfl (lv_at hl 0 rfl) ?_
    refine r_gr E hw 22 5 80 (N := 29) (C := RX10) (T := TX10) (by decide) rfl rfl (by decide) rfl iw_10 rfl lf_RX10_26 dX10_remembers_63 ?_
    refine lv_sipush (v := (314 : Int32)) hx hb dX10_remembers_66 (by decide) ?_
    refine lv_aload_n hx hb dX10_remembers_69 rfl (lv_at hl 0 rfl) ?_
    refine r_gi E hw 22 7 (N := 29) (C := RX10) (T := TX10) (by decide) rfl rfl (by decide) rfl iw_10 rfl lf_RX10_59 dX10_remembers_70 ?_
    refine lv_iconst (v := (1 : Int32)) hx hb dX10_remembers_73 (by decide) ?_
    refine lv_isub hx hb dX10_remembers_74 ?_
    refine lv_imul hx hb dX10_remembers_75 ?_
    refine lv_iload_n hx hb dX10_remembers_76 rfl (lv_at hl 1 rfl) ?_
    refine lv_iadd hx hb dX10_remembers_77 ?_
    refine lv_aload_n hx hb dX10_remembers_78 rfl (lv_at hl 0 rfl) ?_
    refine r_gr E hw 22 1 76 (N := 29) (C := RX10) (T := TX10) (by decide) rfl rfl (by decide) rfl iw_10 rfl lf_RX10_13 dX10_remembers_79 ?_
    refine lv_iload_n hx hb dX10_remembers_82 rfl (lv_at hl 1 rfl) ?_
    obtain ⟨b2, h⟩ := rd_some h
    refine r_ia E hw 76 1988 (by decide) (by decide) (by decide) rfl rfl b2 dX10_remembers_83 ?_
    obtain ⟨b3, h⟩ := rd_some h
    obtain ⟨V4, eV4, h⟩ := lt_some h
    refine r_is E hw 80 3768 (by decide) (by decide) (by decide) rfl rfl b3 eV4 dX10_remembers_84 (fun H locs hw => ?_)
    obtain ⟨y5, ey5, h⟩ := lt_some h
    refine lv_iinc (v := y5) (lv' := [(1, .int y5), (0, .ref (G.2.2 22))]) hx hb dX10_remembers_85 hl (k := 1) rfl (by rw [ey5]; rfl) (by decide) rfl (fun ls hl => ?_)
    refine lv_goto (tgt := 55) hx hb dX10_remembers_88 (by decide) ?_
    exact kc (V4, y5) (Option.some.inj h).symm H locs ls hw (lv_sub hl [1, 0] rfl)
set_option maxHeartbeats 4000000 in
set_option maxRecDepth 100000 in
theorem wX10_remembers_L11 {p : Program} {l : Launch} {e : Env} {s : State} {m : MethodId} {args : Array Value} {below : List Frame} {meth : Method} {c : Code} {G : GT} {B : BGt} {Q : State → Prop} (E : En p s m args c meth cX10_remembers 2 RX10 none G B) {x : VT} (ke : ∀ q : VT, x = q → ∀ (H : Heap) (locs : List Loc) (ls : Array Slot), HW G s.heap q H locs → lv_has ls 2 [(0, .ref (G.2.2 22))] → W p l e (rmD 2) s m args below meth c H locs 0 0 Q (F0 m 40 ls [])) : ∀ (n : Nat) (q : (VT × Int32)), it_ (iX10_remembers_L11) n q = some x → ∀ (H : Heap) (locs : List Loc) (ls : Array Slot), HW G s.heap (q.1) H locs → lv_has ls 2 [(0, .ref (G.2.2 22)), (1, .int (q.2))] → W p l e (rmD 2) s m args below meth c H locs 0 0 Q (F0 m 11 ls []) := by
  have hx := en_x E
  have hb := en_b E
  have hB := en_B E
  refine it_W (fun q : (VT × Int32) => ∀ (H : Heap) (locs : List Loc) (ls : Array Slot), HW G s.heap (q.1) H locs → lv_has ls 2 [(0, .ref (G.2.2 22)), (1, .int (q.2))] → W p l e (rmD 2) s m args below meth c H locs 0 0 Q (F0 m 11 ls [])) x ?_
  intro q r h kc kx
  obtain ⟨V, u1⟩ := q
  intro H locs ls hw hl
  have h : fX10_remembers_L11 V u1 = some r := h
  have hw : HW G s.heap V H locs := hw
  have hl : lv_has ls 2 [(0, .ref (G.2.2 22)), (1, .int u1)] := hl
  have ke : ∀ q : VT, r = .inr (q) → ∀ (H : Heap) (locs : List Loc) (ls : Array Slot), HW G s.heap q H locs → lv_has ls 2 [(0, .ref (G.2.2 22))] → W p l e (rmD 2) s m args below meth c H locs 0 0 Q (F0 m 40 ls []) := fun q e => ke q (kx _ e).symm
  unfold fX10_remembers_L11 at h
  refine lv_iload_n hx hb dX10_remembers_11 rfl (lv_at hl 1 rfl) ?_
  refine lv_sipush (v := (3454 : Int32)) hx hb dX10_remembers_12 (by decide) ?_
  refine lv_icmp_ge (tgt := 40) hx hb dX10_remembers_15 (by decide) (fun c13 => ?_) (fun c13 => ?_)
  · rw [if_pos c13] at h
    exact ke V (Option.some.inj h).symm H locs ls hw (lv_sub hl [0] rfl)
  · rw [if_neg c13] at h
    refine lv_aload_n hx hb dX10_remembers_18 rfl (lv_at hl 0 rfl) ?_
    refine r_gr E hw 22 5 80 (N := 29) (C := RX10) (T := TX10) (by decide) rfl rfl (by decide) rfl iw_10 rfl lf_RX10_26 dX10_remembers_19 ?_
    refine lv_iload_n hx hb dX10_remembers_22 rfl (lv_at hl 1 rfl) ?_
    refine lv_aload_n hx hb dX10_remembers_23 rfl (lv_at hl 0 rfl) ?_
    refine r_gr E hw 22 5 80 (N := 29) (C := RX10) (T := TX10) (by decide) rfl rfl (by decide) rfl iw_10 rfl lf_RX10_26 dX10_remembers_24 ?_
    refine lv_iload_n hx hb dX10_remembers_27 rfl (lv_at hl 1 rfl) ?_
    refine lv_sipush (v := (314 : Int32)) hx hb dX10_remembers_28 (by decide) ?_
    refine lv_iadd hx hb dX10_remembers_31 ?_
    obtain ⟨b9, h⟩ := rd_some h
    refine r_ia E hw 80 3768 (by decide) (by decide) (by decide) rfl rfl b9 dX10_remembers_32 ?_
    obtain ⟨b10, h⟩ := rd_some h
    obtain ⟨V11, eV11, h⟩ := lt_some h
    refine r_is E hw 80 3768 (by decide) (by decide) (by decide) rfl rfl b10 eV11 dX10_remembers_33 (fun H locs hw => ?_)
    obtain ⟨y12, ey12, h⟩ := lt_some h
    refine lv_iinc (v := y12) (lv' := [(1, .int y12), (0, .ref (G.2.2 22))]) hx hb dX10_remembers_34 hl (k := 1) rfl (by rw [ey12]; rfl) (by decide) rfl (fun ls hl => ?_)
    refine lv_goto (tgt := 11) hx hb dX10_remembers_37 (by decide) ?_
    exact kc (V11, y12) (Option.some.inj h).symm H locs ls hw (lv_sub hl [1, 0] rfl)
set_option maxHeartbeats 4000000 in
set_option maxRecDepth 100000 in
theorem kX10_remembers {l : Launch} {G : GT} {B : BGt} (hB : BGok B) {V : VT} {r : VT} (h : fX10_remembers V = some r) : CV l G B yX10_remembers (.code yX10_remembers cX10_remembers 2 none) 2 [.ref (G.2.2 22)] V r := by
  intro sz
  refine met_of (Qs := fun sz => QV G sz r) hB (by decide) (Nat.le_of_ble_eq_true rfl) ?_ sz
  intro p e s m args below meth c ls E hw hl
  have hx := en_x E
  have hb := en_b E
  generalize hQ : MQ _ _ _ _ _ _ _ = Q
  have kr : Q = MQ below (QV G s.heap.size r) args s 0 0 (gA G s.heap.size) := hQ.symm
  have hl : lv_has ls 2 [(0, .ref (G.2.2 22))] := hl
  obtain ⟨H, eH⟩ : ∃ H, H = s.heap := ⟨_, rfl⟩
  obtain ⟨locs, elocs⟩ : ∃ z : List Loc, z = [] := ⟨_, rfl⟩
  have hw : HW G s.heap V H locs := by rw [eH, elocs]; exact hw
  show W p l e _ s m args below meth c s.heap [] 0 0 Q (F0 m 0 ls [])
  rw [← eH, ← elocs]
  unfold fX10_remembers at h
  refine lv_aload_n hx hb dX10_remembers_0 rfl (lv_at hl 0 rfl) ?_
  refine r_gi E hw 22 7 (N := 29) (C := RX10) (T := TX10) (by decide) rfl rfl (by decide) rfl iw_10 rfl lf_RX10_59 dX10_remembers_1 ?_
  refine lv_bipush (v := (12 : Int32)) hx hb dX10_remembers_4 (by decide) ?_
  refine lv_icmp_ne (tgt := 43) hx hb dX10_remembers_6 (by decide) (fun c19 => ?_) (fun c19 => ?_)
  · rw [if_neg c19] at h
    refine lv_aload_n hx hb dX10_remembers_43 rfl (lv_at hl 0 rfl) ?_
    refine lv_dup hx hb dX10_remembers_44 rfl ?_
    refine r_gi E hw 22 7 (N := 29) (C := RX10) (T := TX10) (by decide) rfl rfl (by decide) rfl iw_10 rfl lf_RX10_59 dX10_remembers_45 ?_
    refine lv_iconst (v := (1 : Int32)) hx hb dX10_remembers_48 (by decide) ?_
    refine lv_iadd hx hb dX10_remembers_49 ?_
    obtain ⟨V1, eV1, h⟩ := lt_some h
    refine r_pi E hw 22 7 (N := 29) (C := RX10) (T := TX10) (ty0 := tyX10) (ty := .int) (by decide) rfl rfl (by decide) rfl iw_10 rfl tyX10_ok nmX10 rfl rfl (vp_nar_int _) rfl lf_RX10_59 eV1 dX10_remembers_50 (fun H locs hw => ?_)
    refine lv_iconst (v := (0 : Int32)) hx hb dX10_remembers_53 (by decide) ?_
    refine lv_istore_n (lv' := [(1, .int (0 : Int32)), (0, .ref (G.2.2 22))]) hx hb dX10_remembers_54 rfl hl (by decide) rfl (fun ls hl => ?_)
    obtain ⟨x8, h7, h⟩ := ob_R_some h
    have h := Option.some.inj h
    subst h
    exact wX10_remembers_L55 E (fun q e => by subst e; exact kr) FV (V1, (0 : Int32)) h7 H locs ls hw (lv_sub hl [1, 0] rfl)
  · rw [if_pos c19] at h
    refine lv_iconst (v := (0 : Int32)) hx hb dX10_remembers_9 (by decide) ?_
    refine lv_istore_n (lv' := [(1, .int (0 : Int32)), (0, .ref (G.2.2 22))]) hx hb dX10_remembers_10 rfl hl (by decide) rfl (fun ls hl => ?_)
    obtain ⟨x15, h14, h⟩ := ob_R_some h
    obtain ⟨V16, rfl⟩ : ∃ z, z = x15 := ⟨_, rfl⟩
    refine wX10_remembers_L11 E (fun q e H locs ls hw hl => ?_) FV (V, (0 : Int32)) h14 H locs ls hw (lv_sub hl [1, 0] rfl)
    subst e
    have hw : HW G s.heap V16 H locs := hw
    have hl : lv_has ls 2 [(0, .ref (G.2.2 22))] := hl
    have h := lt_eq h
    refine lv_goto (tgt := 53) hx hb dX10_remembers_40 (by decide) ?_
    refine lv_iconst (v := (0 : Int32)) hx hb dX10_remembers_53 (by decide) ?_
    refine lv_istore_n (lv' := [(1, .int (0 : Int32)), (0, .ref (G.2.2 22))]) hx hb dX10_remembers_54 rfl hl (by decide) rfl (fun ls hl => ?_)
    obtain ⟨x18, h17, h⟩ := ob_R_some h
    have h := Option.some.inj h
    subst h
    exact wX10_remembers_L55 E (fun q e => by subst e; exact kr) FV (V16, (0 : Int32)) h17 H locs ls hw (lv_sub hl [1, 0] rfl)
/-! ===== AllSawItModel.undo()Z ===== -/
theorem dX10_undo_0 : decode cX10_undo 0 = .ok (.aload_n 0, 1) := by decide +kernel
theorem dX10_undo_1 : decode cX10_undo 1 = .ok (.iconst 0, 1) := by decide +kernel
theorem dX10_undo_2 : decode cX10_undo 2 = .ok (.putfield 3, 3) := by decide +kernel
theorem dX10_undo_5 : decode cX10_undo 5 = .ok (.aload_n 0, 1) := by decide +kernel
theorem dX10_undo_6 : decode cX10_undo 6 = .ok (.getfield 59, 3) := by decide +kernel
theorem dX10_undo_9 : decode cX10_undo 9 = .ok (.ifCond .ne 5, 3) := by decide +kernel
theorem dX10_undo_12 : decode cX10_undo 12 = .ok (.iconst 0, 1) := by decide +kernel
theorem dX10_undo_13 : decode cX10_undo 13 = .ok (.ireturn, 1) := by decide +kernel
theorem dX10_undo_14 : decode cX10_undo 14 = .ok (.aload_n 0, 1) := by decide +kernel
theorem dX10_undo_15 : decode cX10_undo 15 = .ok (.dup, 1) := by decide +kernel
theorem dX10_undo_16 : decode cX10_undo 16 = .ok (.getfield 59, 3) := by decide +kernel
theorem dX10_undo_19 : decode cX10_undo 19 = .ok (.iconst 1, 1) := by decide +kernel
theorem dX10_undo_20 : decode cX10_undo 20 = .ok (.isub, 1) := by decide +kernel
theorem dX10_undo_21 : decode cX10_undo 21 = .ok (.putfield 59, 3) := by decide +kernel
theorem dX10_undo_24 : decode cX10_undo 24 = .ok (.iconst 0, 1) := by decide +kernel
theorem dX10_undo_25 : decode cX10_undo 25 = .ok (.istore_n 1, 1) := by decide +kernel
theorem dX10_undo_26 : decode cX10_undo 26 = .ok (.iload_n 1, 1) := by decide +kernel
theorem dX10_undo_27 : decode cX10_undo 27 = .ok (.sipush 314, 3) := by decide +kernel
theorem dX10_undo_30 : decode cX10_undo 30 = .ok (.if_icmp .ge 30, 3) := by decide +kernel
theorem dX10_undo_33 : decode cX10_undo 33 = .ok (.aload_n 0, 1) := by decide +kernel
theorem dX10_undo_34 : decode cX10_undo 34 = .ok (.getfield 13, 3) := by decide +kernel
theorem dX10_undo_37 : decode cX10_undo 37 = .ok (.iload_n 1, 1) := by decide +kernel
theorem dX10_undo_38 : decode cX10_undo 38 = .ok (.aload_n 0, 1) := by decide +kernel
theorem dX10_undo_39 : decode cX10_undo 39 = .ok (.getfield 26, 3) := by decide +kernel
theorem dX10_undo_42 : decode cX10_undo 42 = .ok (.sipush 314, 3) := by decide +kernel
theorem dX10_undo_45 : decode cX10_undo 45 = .ok (.aload_n 0, 1) := by decide +kernel
theorem dX10_undo_46 : decode cX10_undo 46 = .ok (.getfield 59, 3) := by decide +kernel
theorem dX10_undo_49 : decode cX10_undo 49 = .ok (.imul, 1) := by decide +kernel
theorem dX10_undo_50 : decode cX10_undo 50 = .ok (.iload_n 1, 1) := by decide +kernel
theorem dX10_undo_51 : decode cX10_undo 51 = .ok (.iadd, 1) := by decide +kernel
theorem dX10_undo_52 : decode cX10_undo 52 = .ok (.iaload, 1) := by decide +kernel
theorem dX10_undo_53 : decode cX10_undo 53 = .ok (.iastore, 1) := by decide +kernel
theorem dX10_undo_54 : decode cX10_undo 54 = .ok (.iinc 1 1, 3) := by decide +kernel
theorem dX10_undo_57 : decode cX10_undo 57 = .ok (.goto (-31), 3) := by decide +kernel
theorem dX10_undo_60 : decode cX10_undo 60 = .ok (.iconst 1, 1) := by decide +kernel
theorem dX10_undo_61 : decode cX10_undo 61 = .ok (.ireturn, 1) := by decide +kernel
noncomputable def fX10_undo_L26 (V : VT) (u1 : Int32) : Option ((VT × Int32) ⊕ (Int32 × VT)) := if (314 : Int32) ≤ u1 then (zo_ (1 : Int32) (some (.inr (((1 : Int32), V))))) else (rd_ (((314 : Int32) * (V 22 7)) + u1) 3768 (rd_ u1 1988 (lt_ (va_up V 76 (upd (V 76) u1.toNatClampNeg (V 80 (((314 : Int32) * (V 22 7)) + u1).toNatClampNeg))) fun V6 => lt_ (u1 + (1 : Int32)) fun y7 => some (.inl (V6, y7)))))
noncomputable def iX10_undo_L26 : (VT × Int32) → Option ((VT × Int32) ⊕ (Int32 × VT)) := fun q => fX10_undo_L26 (q.1) (q.2)
noncomputable def fX10_undo (V : VT) : Option (Int32 × VT) := lt_ (va_up V 22 (upd (V 22) 0 (0 : Int32))) fun V1 => if (V1 22 7) = 0 then (zo_ (0 : Int32) (some ((0 : Int32), V1))) else (lt_ (va_up V1 22 (upd (V1 22) 7 ((V1 22 7) - (1 : Int32)))) fun V2 => ob_R (it_ (iX10_undo_L26) FV (V2, (0 : Int32))) fun x10 => some x10)
set_option maxHeartbeats 4000000 in
set_option maxRecDepth 100000 in
theorem wX10_undo_L26 {p : Program} {l : Launch} {e : Env} {s : State} {m : MethodId} {args : Array Value} {below : List Frame} {meth : Method} {c : Code} {G : GT} {B : BGt} {Q : State → Prop} (E : En p s m args c meth cX10_undo 2 RX10 (some .boolean) G B) {x : (Int32 × VT)} (kr : ∀ q : (Int32 × VT), x = q → Q = MQ below (QI G s.heap.size q.1 q.2) args s 0 0 (gA G s.heap.size)) : ∀ (n : Nat) (q : (VT × Int32)), it_ (iX10_undo_L26) n q = some x → ∀ (H : Heap) (locs : List Loc) (ls : Array Slot), HW G s.heap (q.1) H locs → lv_has ls 2 [(0, .ref (G.2.2 22)), (1, .int (q.2))] → W p l e (rmD 2) s m args below meth c H locs 0 0 Q (F0 m 26 ls []) := by
  have hx := en_x E
  have hb := en_b E
  have hB := en_B E
  refine it_W (fun q : (VT × Int32) => ∀ (H : Heap) (locs : List Loc) (ls : Array Slot), HW G s.heap (q.1) H locs → lv_has ls 2 [(0, .ref (G.2.2 22)), (1, .int (q.2))] → W p l e (rmD 2) s m args below meth c H locs 0 0 Q (F0 m 26 ls [])) x ?_
  intro q r h kc kx
  obtain ⟨V, u1⟩ := q
  intro H locs ls hw hl
  have h : fX10_undo_L26 V u1 = some r := h
  have hw : HW G s.heap V H locs := hw
  have hl : lv_has ls 2 [(0, .ref (G.2.2 22)), (1, .int u1)] := hl
  have kr : ∀ q : (Int32 × VT), r = .inr (q) → Q = MQ below (QI G s.heap.size q.1 q.2) args s 0 0 (gA G s.heap.size) := fun q e => kr q (kx _ e).symm
  unfold fX10_undo_L26 at h
  refine lv_iload_n hx hb dX10_undo_26 rfl (lv_at hl 1 rfl) ?_
  refine lv_sipush (v := (314 : Int32)) hx hb dX10_undo_27 (by decide) ?_
  refine lv_icmp_ge (tgt := 60) hx hb dX10_undo_30 (by decide) (fun c8 => ?_) (fun c8 => ?_)
  · rw [if_pos c8] at h
    refine lv_iconst (v := (1 : Int32)) hx hb dX10_undo_60 (by decide) ?_
    obtain ⟨z3, h⟩ := zo_some h
    rw [kr ((1 : Int32), V) (Option.some.inj h).symm]
    exact r_rz E hw z3 dX10_undo_61
  · rw [if_neg c8] at h
    refine lv_aload_n hx hb dX10_undo_33 rfl (lv_at hl 0 rfl) ?_
    refine r_gr E hw 22 1 76 (N := 29) (C := RX10) (T := TX10) (by decide) rfl rfl (by decide) rfl iw_10 rfl lf_RX10_13 dX10_undo_34 ?_
    refine lv_iload_n hx hb dX10_undo_37 rfl (lv_at hl 1 rfl) ?_
    refine lv_aload_n hx hb dX10_undo_38 rfl (lv_at hl 0 rfl) ?_
    refine r_gr E hw 22 5 80 (N := 29) (C := RX10) (T := TX10) (by decide) rfl rfl (by decide) rfl iw_10 rfl lf_RX10_26 dX10_undo_39 ?_
    refine lv_sipush (v := (314 : Int32)) hx hb dX10_undo_42 (by decide) ?_
    refine lv_aload_n hx hb dX10_undo_45 rfl (lv_at hl 0 rfl) ?_
    refine r_gi E hw 22 7 (N := 29) (C := RX10) (T := TX10) (by decide) rfl rfl (by decide) rfl iw_10 rfl lf_RX10_59 dX10_undo_46 ?_
    refine lv_imul hx hb dX10_undo_49 ?_
    refine lv_iload_n hx hb dX10_undo_50 rfl (lv_at hl 1 rfl) ?_
    refine lv_iadd hx hb dX10_undo_51 ?_
    obtain ⟨b4, h⟩ := rd_some h
    refine r_ia E hw 80 3768 (by decide) (by decide) (by decide) rfl rfl b4 dX10_undo_52 ?_
    obtain ⟨b5, h⟩ := rd_some h
    obtain ⟨V6, eV6, h⟩ := lt_some h
    refine r_is E hw 76 1988 (by decide) (by decide) (by decide) rfl rfl b5 eV6 dX10_undo_53 (fun H locs hw => ?_)
    obtain ⟨y7, ey7, h⟩ := lt_some h
    refine lv_iinc (v := y7) (lv' := [(1, .int y7), (0, .ref (G.2.2 22))]) hx hb dX10_undo_54 hl (k := 1) rfl (by rw [ey7]; rfl) (by decide) rfl (fun ls hl => ?_)
    refine lv_goto (tgt := 26) hx hb dX10_undo_57 (by decide) ?_
    exact kc (V6, y7) (Option.some.inj h).symm H locs ls hw (lv_sub hl [1, 0] rfl)
set_option maxHeartbeats 4000000 in
set_option maxRecDepth 100000 in
theorem kX10_undo {l : Launch} {G : GT} {B : BGt} (hB : BGok B) {V : VT} {r : (Int32 × VT)} (h : fX10_undo V = some r) : CI l G B yX10_undo (.code yX10_undo cX10_undo 2 (some .boolean)) 2 [.ref (G.2.2 22)] V r.1 r.2 := by
  intro sz
  refine met_of (Qs := fun sz => QI G sz (r.1) (r.2)) hB (by decide) (Nat.le_of_ble_eq_true rfl) ?_ sz
  intro p e s m args below meth c ls E hw hl
  have hx := en_x E
  have hb := en_b E
  generalize hQ : MQ _ _ _ _ _ _ _ = Q
  have kr : Q = MQ below (QI G s.heap.size r.1 r.2) args s 0 0 (gA G s.heap.size) := hQ.symm
  have hl : lv_has ls 2 [(0, .ref (G.2.2 22))] := hl
  obtain ⟨H, eH⟩ : ∃ H, H = s.heap := ⟨_, rfl⟩
  obtain ⟨locs, elocs⟩ : ∃ z : List Loc, z = [] := ⟨_, rfl⟩
  have hw : HW G s.heap V H locs := by rw [eH, elocs]; exact hw
  show W p l e _ s m args below meth c s.heap [] 0 0 Q (F0 m 0 ls [])
  rw [← eH, ← elocs]
  unfold fX10_undo at h
  refine lv_aload_n hx hb dX10_undo_0 rfl (lv_at hl 0 rfl) ?_
  refine lv_iconst (v := (0 : Int32)) hx hb dX10_undo_1 (by decide) ?_
  obtain ⟨V1, eV1, h⟩ := lt_some h
  refine r_pi E hw 22 0 (N := 29) (C := RX10) (T := TX10) (ty0 := tyX10) (ty := .int) (by decide) rfl rfl (by decide) rfl iw_10 rfl tyX10_ok nmX10 rfl rfl (vp_nar_int _) rfl lf_RX10_3 eV1 dX10_undo_2 (fun H locs hw => ?_)
  refine lv_aload_n hx hb dX10_undo_5 rfl (lv_at hl 0 rfl) ?_
  refine r_gi E hw 22 7 (N := 29) (C := RX10) (T := TX10) (by decide) rfl rfl (by decide) rfl iw_10 rfl lf_RX10_59 dX10_undo_6 ?_
  refine lv_if_ne (tgt := 14) hx hb dX10_undo_9 (by decide) (fun c12 => ?_) (fun c12 => ?_)
  · rw [if_neg c12] at h
    refine lv_aload_n hx hb dX10_undo_14 rfl (lv_at hl 0 rfl) ?_
    refine lv_dup hx hb dX10_undo_15 rfl ?_
    refine r_gi E hw 22 7 (N := 29) (C := RX10) (T := TX10) (by decide) rfl rfl (by decide) rfl iw_10 rfl lf_RX10_59 dX10_undo_16 ?_
    refine lv_iconst (v := (1 : Int32)) hx hb dX10_undo_19 (by decide) ?_
    refine lv_isub hx hb dX10_undo_20 ?_
    obtain ⟨V2, eV2, h⟩ := lt_some h
    refine r_pi E hw 22 7 (N := 29) (C := RX10) (T := TX10) (ty0 := tyX10) (ty := .int) (by decide) rfl rfl (by decide) rfl iw_10 rfl tyX10_ok nmX10 rfl rfl (vp_nar_int _) rfl lf_RX10_59 eV2 dX10_undo_21 (fun H locs hw => ?_)
    refine lv_iconst (v := (0 : Int32)) hx hb dX10_undo_24 (by decide) ?_
    refine lv_istore_n (lv' := [(1, .int (0 : Int32)), (0, .ref (G.2.2 22))]) hx hb dX10_undo_25 rfl hl (by decide) rfl (fun ls hl => ?_)
    obtain ⟨x10, h9, h⟩ := ob_R_some h
    have h := Option.some.inj h
    subst h
    exact wX10_undo_L26 E (fun q e => by subst e; exact kr) FV (V2, (0 : Int32)) h9 H locs ls hw (lv_sub hl [1, 0] rfl)
  · rw [if_pos c12] at h
    refine lv_iconst (v := (0 : Int32)) hx hb dX10_undo_12 (by decide) ?_
    obtain ⟨z11, h⟩ := zo_some h
    have h := Option.some.inj h
    subst h
    rw [kr]
    exact r_rz E hw z11 dX10_undo_13
/-! ===== AllSawItModel.houses()I ===== -/
theorem dX10_houses_0 : decode cX10_houses 0 = .ok (.aload_n 0, 1) := by decide +kernel
theorem dX10_houses_1 : decode cX10_houses 1 = .ok (.getfield 13, 3) := by decide +kernel
theorem dX10_houses_4 : decode cX10_houses 4 = .ok (.iconst 0, 1) := by decide +kernel
theorem dX10_houses_5 : decode cX10_houses 5 = .ok (.iaload, 1) := by decide +kernel
theorem dX10_houses_6 : decode cX10_houses 6 = .ok (.ireturn, 1) := by decide +kernel
noncomputable def fX10_houses (V : VT) : Option Int32 := rd_ (0 : Int32) 1988 (some (V 76 (0 : Int32).toNatClampNeg))
set_option maxHeartbeats 4000000 in
set_option maxRecDepth 100000 in
theorem kX10_houses {l : Launch} {G : GT} {B : BGt} (hB : BGok B) {V : VT} {r : Int32} (h : fX10_houses V = some r) : CI l G B yX10_houses (.code yX10_houses cX10_houses 1 (some .int)) 2 [.ref (G.2.2 22)] V r V := by
  intro sz
  refine met_of (Qs := fun sz => QI G sz r V) hB (by decide) (Nat.le_of_ble_eq_true rfl) ?_ sz
  intro p e s m args below meth c ls E hw hl
  have hx := en_x E
  have hb := en_b E
  generalize hQ : MQ _ _ _ _ _ _ _ = Q
  have kr : Q = MQ below (QI G s.heap.size r V) args s 0 0 (gA G s.heap.size) := hQ.symm
  have hl : lv_has ls 1 [(0, .ref (G.2.2 22))] := hl
  obtain ⟨H, eH⟩ : ∃ H, H = s.heap := ⟨_, rfl⟩
  obtain ⟨locs, elocs⟩ : ∃ z : List Loc, z = [] := ⟨_, rfl⟩
  have hw : HW G s.heap V H locs := by rw [eH, elocs]; exact hw
  show W p l e _ s m args below meth c s.heap [] 0 0 Q (F0 m 0 ls [])
  rw [← eH, ← elocs]
  unfold fX10_houses at h
  refine lv_aload_n hx hb dX10_houses_0 rfl (lv_at hl 0 rfl) ?_
  refine r_gr E hw 22 1 76 (N := 29) (C := RX10) (T := TX10) (by decide) rfl rfl (by decide) rfl iw_10 rfl lf_RX10_13 dX10_houses_1 ?_
  refine lv_iconst (v := (0 : Int32)) hx hb dX10_houses_4 (by decide) ?_
  obtain ⟨b1, h⟩ := rd_some h
  refine r_ia E hw 76 1988 (by decide) (by decide) (by decide) rfl rfl b1 dX10_houses_5 ?_
  have h := Option.some.inj h
  subst h
  rw [kr]
  exact r_ri E hw dX10_houses_6
/-! ===== AllSawItModel.deeds()I ===== -/
theorem dX10_deeds_0 : decode cX10_deeds 0 = .ok (.aload_n 0, 1) := by decide +kernel
theorem dX10_deeds_1 : decode cX10_deeds 1 = .ok (.getfield 13, 3) := by decide +kernel
theorem dX10_deeds_4 : decode cX10_deeds 4 = .ok (.iconst 1, 1) := by decide +kernel
theorem dX10_deeds_5 : decode cX10_deeds 5 = .ok (.iaload, 1) := by decide +kernel
theorem dX10_deeds_6 : decode cX10_deeds 6 = .ok (.ireturn, 1) := by decide +kernel
noncomputable def fX10_deeds (V : VT) : Option Int32 := rd_ (1 : Int32) 1988 (some (V 76 (1 : Int32).toNatClampNeg))
set_option maxHeartbeats 4000000 in
set_option maxRecDepth 100000 in
theorem kX10_deeds {l : Launch} {G : GT} {B : BGt} (hB : BGok B) {V : VT} {r : Int32} (h : fX10_deeds V = some r) : CI l G B yX10_deeds (.code yX10_deeds cX10_deeds 1 (some .int)) 2 [.ref (G.2.2 22)] V r V := by
  intro sz
  refine met_of (Qs := fun sz => QI G sz r V) hB (by decide) (Nat.le_of_ble_eq_true rfl) ?_ sz
  intro p e s m args below meth c ls E hw hl
  have hx := en_x E
  have hb := en_b E
  generalize hQ : MQ _ _ _ _ _ _ _ = Q
  have kr : Q = MQ below (QI G s.heap.size r V) args s 0 0 (gA G s.heap.size) := hQ.symm
  have hl : lv_has ls 1 [(0, .ref (G.2.2 22))] := hl
  obtain ⟨H, eH⟩ : ∃ H, H = s.heap := ⟨_, rfl⟩
  obtain ⟨locs, elocs⟩ : ∃ z : List Loc, z = [] := ⟨_, rfl⟩
  have hw : HW G s.heap V H locs := by rw [eH, elocs]; exact hw
  show W p l e _ s m args below meth c s.heap [] 0 0 Q (F0 m 0 ls [])
  rw [← eH, ← elocs]
  unfold fX10_deeds at h
  refine lv_aload_n hx hb dX10_deeds_0 rfl (lv_at hl 0 rfl) ?_
  refine r_gr E hw 22 1 76 (N := 29) (C := RX10) (T := TX10) (by decide) rfl rfl (by decide) rfl iw_10 rfl lf_RX10_13 dX10_deeds_1 ?_
  refine lv_iconst (v := (1 : Int32)) hx hb dX10_deeds_4 (by decide) ?_
  obtain ⟨b1, h⟩ := rd_some h
  refine r_ia E hw 76 1988 (by decide) (by decide) (by decide) rfl rfl b1 dX10_deeds_5 ?_
  have h := Option.some.inj h
  subst h
  rw [kr]
  exact r_ri E hw dX10_deeds_6
/-! ===== AllSawItModel.allHouses()I ===== -/
theorem dX10_allHouses_0 : decode cX10_allHouses 0 = .ok (.iconst 1, 1) := by decide +kernel
theorem dX10_allHouses_1 : decode cX10_allHouses 1 = .ok (.aload_n 0, 1) := by decide +kernel
theorem dX10_allHouses_2 : decode cX10_allHouses 2 = .ok (.invokevirtual 62, 3) := by decide +kernel
theorem dX10_allHouses_5 : decode cX10_allHouses 5 = .ok (.ishl, 1) := by decide +kernel
theorem dX10_allHouses_6 : decode cX10_allHouses 6 = .ok (.iconst 1, 1) := by decide +kernel
theorem dX10_allHouses_7 : decode cX10_allHouses 7 = .ok (.isub, 1) := by decide +kernel
theorem dX10_allHouses_8 : decode cX10_allHouses 8 = .ok (.ireturn, 1) := by decide +kernel
noncomputable def fX10_allHouses (V : VT) : Option Int32 := ob_R (fX10_houses V ) fun y2 => some (((1 : Int32) <<< (y2 &&& 31)) - (1 : Int32))
set_option maxHeartbeats 4000000 in
set_option maxRecDepth 100000 in
theorem kX10_allHouses {l : Launch} {G : GT} {B : BGt} (hB : BGok B) {V : VT} {r : Int32} (h : fX10_allHouses V = some r) : CI l G B yX10_allHouses (.code yX10_allHouses cX10_allHouses 1 (some .int)) 3 [.ref (G.2.2 22)] V r V := by
  intro sz
  refine met_of (Qs := fun sz => QI G sz r V) hB (by decide) (Nat.le_of_ble_eq_true rfl) ?_ sz
  intro p e s m args below meth c ls E hw hl
  have hx := en_x E
  have hb := en_b E
  generalize hQ : MQ _ _ _ _ _ _ _ = Q
  have kr : Q = MQ below (QI G s.heap.size r V) args s 0 0 (gA G s.heap.size) := hQ.symm
  have hl : lv_has ls 1 [(0, .ref (G.2.2 22))] := hl
  obtain ⟨H, eH⟩ : ∃ H, H = s.heap := ⟨_, rfl⟩
  obtain ⟨locs, elocs⟩ : ∃ z : List Loc, z = [] := ⟨_, rfl⟩
  have hw : HW G s.heap V H locs := by rw [eH, elocs]; exact hw
  show W p l e _ s m args below meth c s.heap [] 0 0 Q (F0 m 0 ls [])
  rw [← eH, ← elocs]
  unfold fX10_allHouses at h
  refine lv_iconst (v := (1 : Int32)) hx hb dX10_allHouses_0 (by decide) ?_
  refine lv_aload_n hx hb dX10_allHouses_1 rfl (lv_at hl 0 rfl) ?_
  obtain ⟨y2, h1, h⟩ := ob_R_some h
  refine c_VI E hw (kX10_houses (l := l) (G := G) hB  h1) yy_X10_houses lm_RX10_62 rfl (by decide) rfl rfl hl.1 (by decide) (by decide) rfl (Nat.le_of_ble_eq_true rfl) dX10_allHouses_2 (fun H locs hw => ?_)
  refine lv_ishl hx hb dX10_allHouses_5 ?_
  refine lv_iconst (v := (1 : Int32)) hx hb dX10_allHouses_6 (by decide) ?_
  refine lv_isub hx hb dX10_allHouses_7 ?_
  have h := Option.some.inj h
  subst h
  rw [kr]
  exact r_ri E hw dX10_allHouses_8
/-! ===== AllSawItModel.at(II)I ===== -/
theorem dX10_at_0 : decode cX10_at 0 = .ok (.bipush 10, 2) := by decide +kernel
theorem dX10_at_2 : decode cX10_at 2 = .ok (.bipush 8, 2) := by decide +kernel
theorem dX10_at_4 : decode cX10_at 4 = .ok (.iload_n 0, 1) := by decide +kernel
theorem dX10_at_5 : decode cX10_at 5 = .ok (.imul, 1) := by decide +kernel
theorem dX10_at_6 : decode cX10_at 6 = .ok (.iadd, 1) := by decide +kernel
theorem dX10_at_7 : decode cX10_at 7 = .ok (.iload_n 1, 1) := by decide +kernel
theorem dX10_at_8 : decode cX10_at 8 = .ok (.iadd, 1) := by decide +kernel
theorem dX10_at_9 : decode cX10_at 9 = .ok (.ireturn, 1) := by decide +kernel
noncomputable def fX10_at (V : VT) (x1 : Int32) (x2 : Int32) : Option Int32 := some (((10 : Int32) + ((8 : Int32) * x1)) + x2)
set_option maxHeartbeats 4000000 in
set_option maxRecDepth 100000 in
theorem kX10_at {l : Launch} {G : GT} {B : BGt} (hB : BGok B) {V : VT} {x1 : Int32} {x2 : Int32} {r : Int32} (h : fX10_at V x1 x2 = some r) : CI l G B yX10_at (.code yX10_at cX10_at 2 (some .int)) 2 [.int x1, .int x2] V r V := by
  intro sz
  refine met_of (Qs := fun sz => QI G sz r V) hB (by decide) (Nat.le_of_ble_eq_true rfl) ?_ sz
  intro p e s m args below meth c ls E hw hl
  have hx := en_x E
  have hb := en_b E
  generalize hQ : MQ _ _ _ _ _ _ _ = Q
  have kr : Q = MQ below (QI G s.heap.size r V) args s 0 0 (gA G s.heap.size) := hQ.symm
  have hl : lv_has ls 2 [(0, .int x1), (1, .int x2)] := hl
  obtain ⟨H, eH⟩ : ∃ H, H = s.heap := ⟨_, rfl⟩
  obtain ⟨locs, elocs⟩ : ∃ z : List Loc, z = [] := ⟨_, rfl⟩
  have hw : HW G s.heap V H locs := by rw [eH, elocs]; exact hw
  show W p l e _ s m args below meth c s.heap [] 0 0 Q (F0 m 0 ls [])
  rw [← eH, ← elocs]
  unfold fX10_at at h
  refine lv_bipush (v := (10 : Int32)) hx hb dX10_at_0 (by decide) ?_
  refine lv_bipush (v := (8 : Int32)) hx hb dX10_at_2 (by decide) ?_
  refine lv_iload_n hx hb dX10_at_4 rfl (lv_at hl 0 rfl) ?_
  refine lv_imul hx hb dX10_at_5 ?_
  refine lv_iadd hx hb dX10_at_6 ?_
  refine lv_iload_n hx hb dX10_at_7 rfl (lv_at hl 1 rfl) ?_
  refine lv_iadd hx hb dX10_at_8 ?_
  have h := Option.some.inj h
  subst h
  rw [kr]
  exact r_ri E hw dX10_at_9
/-! ===== AllSawItModel.of(II)I ===== -/
theorem dX10_of_0 : decode cX10_of 0 = .ok (.aload_n 0, 1) := by decide +kernel
theorem dX10_of_1 : decode cX10_of 1 = .ok (.getfield 13, 3) := by decide +kernel
theorem dX10_of_4 : decode cX10_of 4 = .ok (.iload_n 1, 1) := by decide +kernel
theorem dX10_of_5 : decode cX10_of 5 = .ok (.iload_n 2, 1) := by decide +kernel
theorem dX10_of_6 : decode cX10_of 6 = .ok (.invokestatic 66, 3) := by decide +kernel
theorem dX10_of_9 : decode cX10_of 9 = .ok (.iaload, 1) := by decide +kernel
theorem dX10_of_10 : decode cX10_of 10 = .ok (.ireturn, 1) := by decide +kernel
noncomputable def fX10_of (V : VT) (x1 : Int32) (x2 : Int32) : Option Int32 := ob_R (fX10_at V x1 x2) fun y2 => rd_ y2 1988 (some (V 76 y2.toNatClampNeg))
set_option maxHeartbeats 4000000 in
set_option maxRecDepth 100000 in
theorem kX10_of {l : Launch} {G : GT} {B : BGt} (hB : BGok B) {V : VT} {x1 : Int32} {x2 : Int32} {r : Int32} (h : fX10_of V x1 x2 = some r) : CI l G B yX10_of (.code yX10_of cX10_of 3 (some .int)) 3 [.ref (G.2.2 22), .int x1, .int x2] V r V := by
  intro sz
  refine met_of (Qs := fun sz => QI G sz r V) hB (by decide) (Nat.le_of_ble_eq_true rfl) ?_ sz
  intro p e s m args below meth c ls E hw hl
  have hx := en_x E
  have hb := en_b E
  generalize hQ : MQ _ _ _ _ _ _ _ = Q
  have kr : Q = MQ below (QI G s.heap.size r V) args s 0 0 (gA G s.heap.size) := hQ.symm
  have hl : lv_has ls 3 [(0, .ref (G.2.2 22)), (1, .int x1), (2, .int x2)] := hl
  obtain ⟨H, eH⟩ : ∃ H, H = s.heap := ⟨_, rfl⟩
  obtain ⟨locs, elocs⟩ : ∃ z : List Loc, z = [] := ⟨_, rfl⟩
  have hw : HW G s.heap V H locs := by rw [eH, elocs]; exact hw
  show W p l e _ s m args below meth c s.heap [] 0 0 Q (F0 m 0 ls [])
  rw [← eH, ← elocs]
  unfold fX10_of at h
  refine lv_aload_n hx hb dX10_of_0 rfl (lv_at hl 0 rfl) ?_
  refine r_gr E hw 22 1 76 (N := 29) (C := RX10) (T := TX10) (by decide) rfl rfl (by decide) rfl iw_10 rfl lf_RX10_13 dX10_of_1 ?_
  refine lv_iload_n hx hb dX10_of_4 rfl (lv_at hl 1 rfl) ?_
  refine lv_iload_n hx hb dX10_of_5 rfl (lv_at hl 2 rfl) ?_
  obtain ⟨y2, h1, h⟩ := ob_R_some h
  refine c_SI E hw (kX10_at (l := l) (G := G) hB  h1) yy_X10_at lm_RX10_66 rfl hl.1 (by decide) (by decide) rfl (Nat.le_of_ble_eq_true rfl) dX10_of_6 (fun H locs hw => ?_)
  obtain ⟨b3, h⟩ := rd_some h
  refine r_ia E hw 76 1988 (by decide) (by decide) (by decide) rfl rfl b3 dX10_of_9 ?_
  have h := Option.some.inj h
  subst h
  rw [kr]
  exact r_ri E hw dX10_of_10
/-! ===== AllSawItModel.deedAt(II)I ===== -/
theorem dX10_deedAt_0 : decode cX10_deedAt 0 = .ok (.bipush 74, 2) := by decide +kernel
theorem dX10_deedAt_2 : decode cX10_deedAt 2 = .ok (.bipush 6, 2) := by decide +kernel
theorem dX10_deedAt_4 : decode cX10_deedAt 4 = .ok (.iload_n 0, 1) := by decide +kernel
theorem dX10_deedAt_5 : decode cX10_deedAt 5 = .ok (.imul, 1) := by decide +kernel
theorem dX10_deedAt_6 : decode cX10_deedAt 6 = .ok (.iadd, 1) := by decide +kernel
theorem dX10_deedAt_7 : decode cX10_deedAt 7 = .ok (.iload_n 1, 1) := by decide +kernel
theorem dX10_deedAt_8 : decode cX10_deedAt 8 = .ok (.iadd, 1) := by decide +kernel
theorem dX10_deedAt_9 : decode cX10_deedAt 9 = .ok (.ireturn, 1) := by decide +kernel
noncomputable def fX10_deedAt (V : VT) (x1 : Int32) (x2 : Int32) : Option Int32 := some (((74 : Int32) + ((6 : Int32) * x1)) + x2)
set_option maxHeartbeats 4000000 in
set_option maxRecDepth 100000 in
theorem kX10_deedAt {l : Launch} {G : GT} {B : BGt} (hB : BGok B) {V : VT} {x1 : Int32} {x2 : Int32} {r : Int32} (h : fX10_deedAt V x1 x2 = some r) : CI l G B yX10_deedAt (.code yX10_deedAt cX10_deedAt 2 (some .int)) 2 [.int x1, .int x2] V r V := by
  intro sz
  refine met_of (Qs := fun sz => QI G sz r V) hB (by decide) (Nat.le_of_ble_eq_true rfl) ?_ sz
  intro p e s m args below meth c ls E hw hl
  have hx := en_x E
  have hb := en_b E
  generalize hQ : MQ _ _ _ _ _ _ _ = Q
  have kr : Q = MQ below (QI G s.heap.size r V) args s 0 0 (gA G s.heap.size) := hQ.symm
  have hl : lv_has ls 2 [(0, .int x1), (1, .int x2)] := hl
  obtain ⟨H, eH⟩ : ∃ H, H = s.heap := ⟨_, rfl⟩
  obtain ⟨locs, elocs⟩ : ∃ z : List Loc, z = [] := ⟨_, rfl⟩
  have hw : HW G s.heap V H locs := by rw [eH, elocs]; exact hw
  show W p l e _ s m args below meth c s.heap [] 0 0 Q (F0 m 0 ls [])
  rw [← eH, ← elocs]
  unfold fX10_deedAt at h
  refine lv_bipush (v := (74 : Int32)) hx hb dX10_deedAt_0 (by decide) ?_
  refine lv_bipush (v := (6 : Int32)) hx hb dX10_deedAt_2 (by decide) ?_
  refine lv_iload_n hx hb dX10_deedAt_4 rfl (lv_at hl 0 rfl) ?_
  refine lv_imul hx hb dX10_deedAt_5 ?_
  refine lv_iadd hx hb dX10_deedAt_6 ?_
  refine lv_iload_n hx hb dX10_deedAt_7 rfl (lv_at hl 1 rfl) ?_
  refine lv_iadd hx hb dX10_deedAt_8 ?_
  have h := Option.some.inj h
  subst h
  rw [kr]
  exact r_ri E hw dX10_deedAt_9
/-! ===== AllSawItModel.ofDeed(II)I ===== -/
theorem dX10_ofDeed_0 : decode cX10_ofDeed 0 = .ok (.aload_n 0, 1) := by decide +kernel
theorem dX10_ofDeed_1 : decode cX10_ofDeed 1 = .ok (.getfield 13, 3) := by decide +kernel
theorem dX10_ofDeed_4 : decode cX10_ofDeed 4 = .ok (.iload_n 1, 1) := by decide +kernel
theorem dX10_ofDeed_5 : decode cX10_ofDeed 5 = .ok (.iload_n 2, 1) := by decide +kernel
theorem dX10_ofDeed_6 : decode cX10_ofDeed 6 = .ok (.invokestatic 70, 3) := by decide +kernel
theorem dX10_ofDeed_9 : decode cX10_ofDeed 9 = .ok (.iaload, 1) := by decide +kernel
theorem dX10_ofDeed_10 : decode cX10_ofDeed 10 = .ok (.ireturn, 1) := by decide +kernel
noncomputable def fX10_ofDeed (V : VT) (x1 : Int32) (x2 : Int32) : Option Int32 := ob_R (fX10_deedAt V x1 x2) fun y2 => rd_ y2 1988 (some (V 76 y2.toNatClampNeg))
set_option maxHeartbeats 4000000 in
set_option maxRecDepth 100000 in
theorem kX10_ofDeed {l : Launch} {G : GT} {B : BGt} (hB : BGok B) {V : VT} {x1 : Int32} {x2 : Int32} {r : Int32} (h : fX10_ofDeed V x1 x2 = some r) : CI l G B yX10_ofDeed (.code yX10_ofDeed cX10_ofDeed 3 (some .int)) 3 [.ref (G.2.2 22), .int x1, .int x2] V r V := by
  intro sz
  refine met_of (Qs := fun sz => QI G sz r V) hB (by decide) (Nat.le_of_ble_eq_true rfl) ?_ sz
  intro p e s m args below meth c ls E hw hl
  have hx := en_x E
  have hb := en_b E
  generalize hQ : MQ _ _ _ _ _ _ _ = Q
  have kr : Q = MQ below (QI G s.heap.size r V) args s 0 0 (gA G s.heap.size) := hQ.symm
  have hl : lv_has ls 3 [(0, .ref (G.2.2 22)), (1, .int x1), (2, .int x2)] := hl
  obtain ⟨H, eH⟩ : ∃ H, H = s.heap := ⟨_, rfl⟩
  obtain ⟨locs, elocs⟩ : ∃ z : List Loc, z = [] := ⟨_, rfl⟩
  have hw : HW G s.heap V H locs := by rw [eH, elocs]; exact hw
  show W p l e _ s m args below meth c s.heap [] 0 0 Q (F0 m 0 ls [])
  rw [← eH, ← elocs]
  unfold fX10_ofDeed at h
  refine lv_aload_n hx hb dX10_ofDeed_0 rfl (lv_at hl 0 rfl) ?_
  refine r_gr E hw 22 1 76 (N := 29) (C := RX10) (T := TX10) (by decide) rfl rfl (by decide) rfl iw_10 rfl lf_RX10_13 dX10_ofDeed_1 ?_
  refine lv_iload_n hx hb dX10_ofDeed_4 rfl (lv_at hl 1 rfl) ?_
  refine lv_iload_n hx hb dX10_ofDeed_5 rfl (lv_at hl 2 rfl) ?_
  obtain ⟨y2, h1, h⟩ := ob_R_some h
  refine c_SI E hw (kX10_deedAt (l := l) (G := G) hB  h1) yy_X10_deedAt lm_RX10_70 rfl hl.1 (by decide) (by decide) rfl (Nat.le_of_ble_eq_true rfl) dX10_ofDeed_6 (fun H locs hw => ?_)
  obtain ⟨b3, h⟩ := rd_some h
  refine r_ia E hw 76 1988 (by decide) (by decide) (by decide) rfl rfl b3 dX10_ofDeed_9 ?_
  have h := Option.some.inj h
  subst h
  rw [kr]
  exact r_ri E hw dX10_ofDeed_10
/-! ===== AllSawItModel.isSo(I)Z ===== -/
theorem dX10_isSo_0 : decode cX10_isSo 0 = .ok (.aload_n 0, 1) := by decide +kernel
theorem dX10_isSo_1 : decode cX10_isSo 1 = .ok (.iload_n 1, 1) := by decide +kernel
theorem dX10_isSo_2 : decode cX10_isSo 2 = .ok (.iconst 5, 1) := by decide +kernel
theorem dX10_isSo_3 : decode cX10_isSo 3 = .ok (.invokevirtual 73, 3) := by decide +kernel
theorem dX10_isSo_6 : decode cX10_isSo 6 = .ok (.iconst 1, 1) := by decide +kernel
theorem dX10_isSo_7 : decode cX10_isSo 7 = .ok (.if_icmp .ne 7, 3) := by decide +kernel
theorem dX10_isSo_10 : decode cX10_isSo 10 = .ok (.iconst 1, 1) := by decide +kernel
theorem dX10_isSo_11 : decode cX10_isSo 11 = .ok (.goto 4, 3) := by decide +kernel
theorem dX10_isSo_14 : decode cX10_isSo 14 = .ok (.iconst 0, 1) := by decide +kernel
theorem dX10_isSo_15 : decode cX10_isSo 15 = .ok (.ireturn, 1) := by decide +kernel
noncomputable def fX10_isSo (V : VT) (x1 : Int32) : Option Int32 := ob_R (fX10_ofDeed V x1 (5 : Int32)) fun y2 => if y2 = (1 : Int32) then (zo_ (1 : Int32) (some (1 : Int32))) else (zo_ (0 : Int32) (some (0 : Int32)))
set_option maxHeartbeats 4000000 in
set_option maxRecDepth 100000 in
theorem kX10_isSo {l : Launch} {G : GT} {B : BGt} (hB : BGok B) {V : VT} {x1 : Int32} {r : Int32} (h : fX10_isSo V x1 = some r) : CI l G B yX10_isSo (.code yX10_isSo cX10_isSo 2 (some .boolean)) 4 [.ref (G.2.2 22), .int x1] V r V := by
  intro sz
  refine met_of (Qs := fun sz => QI G sz r V) hB (by decide) (Nat.le_of_ble_eq_true rfl) ?_ sz
  intro p e s m args below meth c ls E hw hl
  have hx := en_x E
  have hb := en_b E
  generalize hQ : MQ _ _ _ _ _ _ _ = Q
  have kr : Q = MQ below (QI G s.heap.size r V) args s 0 0 (gA G s.heap.size) := hQ.symm
  have hl : lv_has ls 2 [(0, .ref (G.2.2 22)), (1, .int x1)] := hl
  obtain ⟨H, eH⟩ : ∃ H, H = s.heap := ⟨_, rfl⟩
  obtain ⟨locs, elocs⟩ : ∃ z : List Loc, z = [] := ⟨_, rfl⟩
  have hw : HW G s.heap V H locs := by rw [eH, elocs]; exact hw
  show W p l e _ s m args below meth c s.heap [] 0 0 Q (F0 m 0 ls [])
  rw [← eH, ← elocs]
  unfold fX10_isSo at h
  refine lv_aload_n hx hb dX10_isSo_0 rfl (lv_at hl 0 rfl) ?_
  refine lv_iload_n hx hb dX10_isSo_1 rfl (lv_at hl 1 rfl) ?_
  refine lv_iconst (v := (5 : Int32)) hx hb dX10_isSo_2 (by decide) ?_
  obtain ⟨y2, h1, h⟩ := ob_R_some h
  refine c_VI E hw (kX10_ofDeed (l := l) (G := G) hB  h1) yy_X10_ofDeed lm_RX10_73 rfl (by decide) rfl rfl hl.1 (by decide) (by decide) rfl (Nat.le_of_ble_eq_true rfl) dX10_isSo_3 (fun H locs hw => ?_)
  refine lv_iconst (v := (1 : Int32)) hx hb dX10_isSo_6 (by decide) ?_
  refine lv_icmp_ne (tgt := 14) hx hb dX10_isSo_7 (by decide) (fun c5 => ?_) (fun c5 => ?_)
  · rw [if_neg c5] at h
    refine lv_iconst (v := (0 : Int32)) hx hb dX10_isSo_14 (by decide) ?_
    obtain ⟨z3, h⟩ := zo_some h
    have h := Option.some.inj h
    subst h
    rw [kr]
    exact r_rz E hw z3 dX10_isSo_15
  · rw [if_pos c5] at h
    refine lv_iconst (v := (1 : Int32)) hx hb dX10_isSo_10 (by decide) ?_
    refine lv_goto (tgt := 15) hx hb dX10_isSo_11 (by decide) ?_
    obtain ⟨z4, h⟩ := zo_some h
    have h := Option.some.inj h
    subst h
    rw [kr]
    exact r_rz E hw z4 dX10_isSo_15
/-! ===== AllSawItModel.noHouse(I)Z ===== -/
theorem dX10_noHouse_0 : decode cX10_noHouse 0 = .ok (.iload_n 1, 1) := by decide +kernel
theorem dX10_noHouse_1 : decode cX10_noHouse 1 = .ok (.iconst 0, 1) := by decide +kernel
theorem dX10_noHouse_2 : decode cX10_noHouse 2 = .ok (.aload_n 0, 1) := by decide +kernel
theorem dX10_noHouse_3 : decode cX10_noHouse 3 = .ok (.invokevirtual 62, 3) := by decide +kernel
theorem dX10_noHouse_6 : decode cX10_noHouse 6 = .ok (.iconst 1, 1) := by decide +kernel
theorem dX10_noHouse_7 : decode cX10_noHouse 7 = .ok (.isub, 1) := by decide +kernel
theorem dX10_noHouse_8 : decode cX10_noHouse 8 = .ok (.invokestatic 76, 3) := by decide +kernel
theorem dX10_noHouse_11 : decode cX10_noHouse 11 = .ok (.ifCond .ne 7, 3) := by decide +kernel
theorem dX10_noHouse_14 : decode cX10_noHouse 14 = .ok (.iconst 1, 1) := by decide +kernel
theorem dX10_noHouse_15 : decode cX10_noHouse 15 = .ok (.goto 4, 3) := by decide +kernel
theorem dX10_noHouse_18 : decode cX10_noHouse 18 = .ok (.iconst 0, 1) := by decide +kernel
theorem dX10_noHouse_19 : decode cX10_noHouse 19 = .ok (.ireturn, 1) := by decide +kernel
noncomputable def fX10_noHouse (V : VT) (x1 : Int32) : Option Int32 := ob_R (fX10_houses V ) fun y2 => ob_R (fX10_in V x1 (0 : Int32) (y2 - (1 : Int32))) fun y4 => if y4 = 0 then (zo_ (1 : Int32) (some (1 : Int32))) else (zo_ (0 : Int32) (some (0 : Int32)))
set_option maxHeartbeats 4000000 in
set_option maxRecDepth 100000 in
theorem kX10_noHouse {l : Launch} {G : GT} {B : BGt} (hB : BGok B) {V : VT} {x1 : Int32} {r : Int32} (h : fX10_noHouse V x1 = some r) : CI l G B yX10_noHouse (.code yX10_noHouse cX10_noHouse 2 (some .boolean)) 3 [.ref (G.2.2 22), .int x1] V r V := by
  intro sz
  refine met_of (Qs := fun sz => QI G sz r V) hB (by decide) (Nat.le_of_ble_eq_true rfl) ?_ sz
  intro p e s m args below meth c ls E hw hl
  have hx := en_x E
  have hb := en_b E
  generalize hQ : MQ _ _ _ _ _ _ _ = Q
  have kr : Q = MQ below (QI G s.heap.size r V) args s 0 0 (gA G s.heap.size) := hQ.symm
  have hl : lv_has ls 2 [(0, .ref (G.2.2 22)), (1, .int x1)] := hl
  obtain ⟨H, eH⟩ : ∃ H, H = s.heap := ⟨_, rfl⟩
  obtain ⟨locs, elocs⟩ : ∃ z : List Loc, z = [] := ⟨_, rfl⟩
  have hw : HW G s.heap V H locs := by rw [eH, elocs]; exact hw
  show W p l e _ s m args below meth c s.heap [] 0 0 Q (F0 m 0 ls [])
  rw [← eH, ← elocs]
  unfold fX10_noHouse at h
  refine lv_iload_n hx hb dX10_noHouse_0 rfl (lv_at hl 1 rfl) ?_
  refine lv_iconst (v := (0 : Int32)) hx hb dX10_noHouse_1 (by decide) ?_
  refine lv_aload_n hx hb dX10_noHouse_2 rfl (lv_at hl 0 rfl) ?_
  obtain ⟨y2, h1, h⟩ := ob_R_some h
  refine c_VI E hw (kX10_houses (l := l) (G := G) hB  h1) yy_X10_houses lm_RX10_62 rfl (by decide) rfl rfl hl.1 (by decide) (by decide) rfl (Nat.le_of_ble_eq_true rfl) dX10_noHouse_3 (fun H locs hw => ?_)
  refine lv_iconst (v := (1 : Int32)) hx hb dX10_noHouse_6 (by decide) ?_
  refine lv_isub hx hb dX10_noHouse_7 ?_
  obtain ⟨y4, h3, h⟩ := ob_R_some h
  refine c_SI E hw (kX10_in (l := l) (G := G) hB  h3) yy_X10_in lm_RX10_76 rfl hl.1 (by decide) (by decide) rfl (Nat.le_of_ble_eq_true rfl) dX10_noHouse_8 (fun H locs hw => ?_)
  refine lv_if_ne (tgt := 18) hx hb dX10_noHouse_11 (by decide) (fun c7 => ?_) (fun c7 => ?_)
  · rw [if_neg c7] at h
    refine lv_iconst (v := (0 : Int32)) hx hb dX10_noHouse_18 (by decide) ?_
    obtain ⟨z5, h⟩ := zo_some h
    have h := Option.some.inj h
    subst h
    rw [kr]
    exact r_rz E hw z5 dX10_noHouse_19
  · rw [if_pos c7] at h
    refine lv_iconst (v := (1 : Int32)) hx hb dX10_noHouse_14 (by decide) ?_
    refine lv_goto (tgt := 19) hx hb dX10_noHouse_15 (by decide) ?_
    obtain ⟨z6, h⟩ := zo_some h
    have h := Option.some.inj h
    subst h
    rw [kr]
    exact r_rz E hw z6 dX10_noHouse_19
/-! ===== AllSawItModel.noDeed(I)Z ===== -/
theorem dX10_noDeed_0 : decode cX10_noDeed 0 = .ok (.iload_n 1, 1) := by decide +kernel
theorem dX10_noDeed_1 : decode cX10_noDeed 1 = .ok (.iconst 0, 1) := by decide +kernel
theorem dX10_noDeed_2 : decode cX10_noDeed 2 = .ok (.aload_n 0, 1) := by decide +kernel
theorem dX10_noDeed_3 : decode cX10_noDeed 3 = .ok (.invokevirtual 80, 3) := by decide +kernel
theorem dX10_noDeed_6 : decode cX10_noDeed 6 = .ok (.iconst 1, 1) := by decide +kernel
theorem dX10_noDeed_7 : decode cX10_noDeed 7 = .ok (.isub, 1) := by decide +kernel
theorem dX10_noDeed_8 : decode cX10_noDeed 8 = .ok (.invokestatic 76, 3) := by decide +kernel
theorem dX10_noDeed_11 : decode cX10_noDeed 11 = .ok (.ifCond .ne 7, 3) := by decide +kernel
theorem dX10_noDeed_14 : decode cX10_noDeed 14 = .ok (.iconst 1, 1) := by decide +kernel
theorem dX10_noDeed_15 : decode cX10_noDeed 15 = .ok (.goto 4, 3) := by decide +kernel
theorem dX10_noDeed_18 : decode cX10_noDeed 18 = .ok (.iconst 0, 1) := by decide +kernel
theorem dX10_noDeed_19 : decode cX10_noDeed 19 = .ok (.ireturn, 1) := by decide +kernel
noncomputable def fX10_noDeed (V : VT) (x1 : Int32) : Option Int32 := ob_R (fX10_deeds V ) fun y2 => ob_R (fX10_in V x1 (0 : Int32) (y2 - (1 : Int32))) fun y4 => if y4 = 0 then (zo_ (1 : Int32) (some (1 : Int32))) else (zo_ (0 : Int32) (some (0 : Int32)))
set_option maxHeartbeats 4000000 in
set_option maxRecDepth 100000 in
theorem kX10_noDeed {l : Launch} {G : GT} {B : BGt} (hB : BGok B) {V : VT} {x1 : Int32} {r : Int32} (h : fX10_noDeed V x1 = some r) : CI l G B yX10_noDeed (.code yX10_noDeed cX10_noDeed 2 (some .boolean)) 3 [.ref (G.2.2 22), .int x1] V r V := by
  intro sz
  refine met_of (Qs := fun sz => QI G sz r V) hB (by decide) (Nat.le_of_ble_eq_true rfl) ?_ sz
  intro p e s m args below meth c ls E hw hl
  have hx := en_x E
  have hb := en_b E
  generalize hQ : MQ _ _ _ _ _ _ _ = Q
  have kr : Q = MQ below (QI G s.heap.size r V) args s 0 0 (gA G s.heap.size) := hQ.symm
  have hl : lv_has ls 2 [(0, .ref (G.2.2 22)), (1, .int x1)] := hl
  obtain ⟨H, eH⟩ : ∃ H, H = s.heap := ⟨_, rfl⟩
  obtain ⟨locs, elocs⟩ : ∃ z : List Loc, z = [] := ⟨_, rfl⟩
  have hw : HW G s.heap V H locs := by rw [eH, elocs]; exact hw
  show W p l e _ s m args below meth c s.heap [] 0 0 Q (F0 m 0 ls [])
  rw [← eH, ← elocs]
  unfold fX10_noDeed at h
  refine lv_iload_n hx hb dX10_noDeed_0 rfl (lv_at hl 1 rfl) ?_
  refine lv_iconst (v := (0 : Int32)) hx hb dX10_noDeed_1 (by decide) ?_
  refine lv_aload_n hx hb dX10_noDeed_2 rfl (lv_at hl 0 rfl) ?_
  obtain ⟨y2, h1, h⟩ := ob_R_some h
  refine c_VI E hw (kX10_deeds (l := l) (G := G) hB  h1) yy_X10_deeds lm_RX10_80 rfl (by decide) rfl rfl hl.1 (by decide) (by decide) rfl (Nat.le_of_ble_eq_true rfl) dX10_noDeed_3 (fun H locs hw => ?_)
  refine lv_iconst (v := (1 : Int32)) hx hb dX10_noDeed_6 (by decide) ?_
  refine lv_isub hx hb dX10_noDeed_7 ?_
  obtain ⟨y4, h3, h⟩ := ob_R_some h
  refine c_SI E hw (kX10_in (l := l) (G := G) hB  h3) yy_X10_in lm_RX10_76 rfl hl.1 (by decide) (by decide) rfl (Nat.le_of_ble_eq_true rfl) dX10_noDeed_8 (fun H locs hw => ?_)
  refine lv_if_ne (tgt := 18) hx hb dX10_noDeed_11 (by decide) (fun c7 => ?_) (fun c7 => ?_)
  · rw [if_neg c7] at h
    refine lv_iconst (v := (0 : Int32)) hx hb dX10_noDeed_18 (by decide) ?_
    obtain ⟨z5, h⟩ := zo_some h
    have h := Option.some.inj h
    subst h
    rw [kr]
    exact r_rz E hw z5 dX10_noDeed_19
  · rw [if_pos c7] at h
    refine lv_iconst (v := (1 : Int32)) hx hb dX10_noDeed_14 (by decide) ?_
    refine lv_goto (tgt := 19) hx hb dX10_noDeed_15 (by decide) ?_
    obtain ⟨z6, h⟩ := zo_some h
    have h := Option.some.inj h
    subst h
    rw [kr]
    exact r_rz E hw z6 dX10_noDeed_19
/-! ===== AllSawItModel.noPlace(I)Z ===== -/
theorem dX10_noPlace_0 : decode cX10_noPlace 0 = .ok (.iload_n 0, 1) := by decide +kernel
theorem dX10_noPlace_1 : decode cX10_noPlace 1 = .ok (.iconst 0, 1) := by decide +kernel
theorem dX10_noPlace_2 : decode cX10_noPlace 2 = .ok (.bipush 23, 2) := by decide +kernel
theorem dX10_noPlace_4 : decode cX10_noPlace 4 = .ok (.invokestatic 76, 3) := by decide +kernel
theorem dX10_noPlace_7 : decode cX10_noPlace 7 = .ok (.ifCond .ne 7, 3) := by decide +kernel
theorem dX10_noPlace_10 : decode cX10_noPlace 10 = .ok (.iconst 1, 1) := by decide +kernel
theorem dX10_noPlace_11 : decode cX10_noPlace 11 = .ok (.goto 4, 3) := by decide +kernel
theorem dX10_noPlace_14 : decode cX10_noPlace 14 = .ok (.iconst 0, 1) := by decide +kernel
theorem dX10_noPlace_15 : decode cX10_noPlace 15 = .ok (.ireturn, 1) := by decide +kernel
noncomputable def fX10_noPlace (V : VT) (x1 : Int32) : Option Int32 := ob_R (fX10_in V x1 (0 : Int32) (23 : Int32)) fun y2 => if y2 = 0 then (zo_ (1 : Int32) (some (1 : Int32))) else (zo_ (0 : Int32) (some (0 : Int32)))
set_option maxHeartbeats 4000000 in
set_option maxRecDepth 100000 in
theorem kX10_noPlace {l : Launch} {G : GT} {B : BGt} (hB : BGok B) {V : VT} {x1 : Int32} {r : Int32} (h : fX10_noPlace V x1 = some r) : CI l G B yX10_noPlace (.code yX10_noPlace cX10_noPlace 1 (some .boolean)) 3 [.int x1] V r V := by
  intro sz
  refine met_of (Qs := fun sz => QI G sz r V) hB (by decide) (Nat.le_of_ble_eq_true rfl) ?_ sz
  intro p e s m args below meth c ls E hw hl
  have hx := en_x E
  have hb := en_b E
  generalize hQ : MQ _ _ _ _ _ _ _ = Q
  have kr : Q = MQ below (QI G s.heap.size r V) args s 0 0 (gA G s.heap.size) := hQ.symm
  have hl : lv_has ls 1 [(0, .int x1)] := hl
  obtain ⟨H, eH⟩ : ∃ H, H = s.heap := ⟨_, rfl⟩
  obtain ⟨locs, elocs⟩ : ∃ z : List Loc, z = [] := ⟨_, rfl⟩
  have hw : HW G s.heap V H locs := by rw [eH, elocs]; exact hw
  show W p l e _ s m args below meth c s.heap [] 0 0 Q (F0 m 0 ls [])
  rw [← eH, ← elocs]
  unfold fX10_noPlace at h
  refine lv_iload_n hx hb dX10_noPlace_0 rfl (lv_at hl 0 rfl) ?_
  refine lv_iconst (v := (0 : Int32)) hx hb dX10_noPlace_1 (by decide) ?_
  refine lv_bipush (v := (23 : Int32)) hx hb dX10_noPlace_2 (by decide) ?_
  obtain ⟨y2, h1, h⟩ := ob_R_some h
  refine c_SI E hw (kX10_in (l := l) (G := G) hB  h1) yy_X10_in lm_RX10_76 rfl hl.1 (by decide) (by decide) rfl (Nat.le_of_ble_eq_true rfl) dX10_noPlace_4 (fun H locs hw => ?_)
  refine lv_if_ne (tgt := 14) hx hb dX10_noPlace_7 (by decide) (fun c5 => ?_) (fun c5 => ?_)
  · rw [if_neg c5] at h
    refine lv_iconst (v := (0 : Int32)) hx hb dX10_noPlace_14 (by decide) ?_
    obtain ⟨z3, h⟩ := zo_some h
    have h := Option.some.inj h
    subst h
    rw [kr]
    exact r_rz E hw z3 dX10_noPlace_15
  · rw [if_pos c5] at h
    refine lv_iconst (v := (1 : Int32)) hx hb dX10_noPlace_10 (by decide) ?_
    refine lv_goto (tgt := 15) hx hb dX10_noPlace_11 (by decide) ?_
    obtain ⟨z4, h⟩ := zo_some h
    have h := Option.some.inj h
    subst h
    rw [kr]
    exact r_rz E hw z4 dX10_noPlace_15
/-! ===== AllSawItModel.noHour(I)Z ===== -/
theorem dX10_noHour_0 : decode cX10_noHour 0 = .ok (.iload_n 0, 1) := by decide +kernel
theorem dX10_noHour_1 : decode cX10_noHour 1 = .ok (.iconst 0, 1) := by decide +kernel
theorem dX10_noHour_2 : decode cX10_noHour 2 = .ok (.bipush 23, 2) := by decide +kernel
theorem dX10_noHour_4 : decode cX10_noHour 4 = .ok (.invokestatic 76, 3) := by decide +kernel
theorem dX10_noHour_7 : decode cX10_noHour 7 = .ok (.ifCond .ne 7, 3) := by decide +kernel
theorem dX10_noHour_10 : decode cX10_noHour 10 = .ok (.iconst 1, 1) := by decide +kernel
theorem dX10_noHour_11 : decode cX10_noHour 11 = .ok (.goto 4, 3) := by decide +kernel
theorem dX10_noHour_14 : decode cX10_noHour 14 = .ok (.iconst 0, 1) := by decide +kernel
theorem dX10_noHour_15 : decode cX10_noHour 15 = .ok (.ireturn, 1) := by decide +kernel
noncomputable def fX10_noHour (V : VT) (x1 : Int32) : Option Int32 := ob_R (fX10_in V x1 (0 : Int32) (23 : Int32)) fun y2 => if y2 = 0 then (zo_ (1 : Int32) (some (1 : Int32))) else (zo_ (0 : Int32) (some (0 : Int32)))
set_option maxHeartbeats 4000000 in
set_option maxRecDepth 100000 in
theorem kX10_noHour {l : Launch} {G : GT} {B : BGt} (hB : BGok B) {V : VT} {x1 : Int32} {r : Int32} (h : fX10_noHour V x1 = some r) : CI l G B yX10_noHour (.code yX10_noHour cX10_noHour 1 (some .boolean)) 3 [.int x1] V r V := by
  intro sz
  refine met_of (Qs := fun sz => QI G sz r V) hB (by decide) (Nat.le_of_ble_eq_true rfl) ?_ sz
  intro p e s m args below meth c ls E hw hl
  have hx := en_x E
  have hb := en_b E
  generalize hQ : MQ _ _ _ _ _ _ _ = Q
  have kr : Q = MQ below (QI G s.heap.size r V) args s 0 0 (gA G s.heap.size) := hQ.symm
  have hl : lv_has ls 1 [(0, .int x1)] := hl
  obtain ⟨H, eH⟩ : ∃ H, H = s.heap := ⟨_, rfl⟩
  obtain ⟨locs, elocs⟩ : ∃ z : List Loc, z = [] := ⟨_, rfl⟩
  have hw : HW G s.heap V H locs := by rw [eH, elocs]; exact hw
  show W p l e _ s m args below meth c s.heap [] 0 0 Q (F0 m 0 ls [])
  rw [← eH, ← elocs]
  unfold fX10_noHour at h
  refine lv_iload_n hx hb dX10_noHour_0 rfl (lv_at hl 0 rfl) ?_
  refine lv_iconst (v := (0 : Int32)) hx hb dX10_noHour_1 (by decide) ?_
  refine lv_bipush (v := (23 : Int32)) hx hb dX10_noHour_2 (by decide) ?_
  obtain ⟨y2, h1, h⟩ := ob_R_some h
  refine c_SI E hw (kX10_in (l := l) (G := G) hB  h1) yy_X10_in lm_RX10_76 rfl hl.1 (by decide) (by decide) rfl (Nat.le_of_ble_eq_true rfl) dX10_noHour_4 (fun H locs hw => ?_)
  refine lv_if_ne (tgt := 14) hx hb dX10_noHour_7 (by decide) (fun c5 => ?_) (fun c5 => ?_)
  · rw [if_neg c5] at h
    refine lv_iconst (v := (0 : Int32)) hx hb dX10_noHour_14 (by decide) ?_
    obtain ⟨z3, h⟩ := zo_some h
    have h := Option.some.inj h
    subst h
    rw [kr]
    exact r_rz E hw z3 dX10_noHour_15
  · rw [if_pos c5] at h
    refine lv_iconst (v := (1 : Int32)) hx hb dX10_noHour_10 (by decide) ?_
    refine lv_goto (tgt := 15) hx hb dX10_noHour_11 (by decide) ?_
    obtain ⟨z4, h⟩ := zo_some h
    have h := Option.some.inj h
    subst h
    rw [kr]
    exact r_rz E hw z4 dX10_noHour_15
/-! ===== AllSawItModel.noFog(I)Z ===== -/
theorem dX10_noFog_0 : decode cX10_noFog 0 = .ok (.iload_n 0, 1) := by decide +kernel
theorem dX10_noFog_1 : decode cX10_noFog 1 = .ok (.iconst 0, 1) := by decide +kernel
theorem dX10_noFog_2 : decode cX10_noFog 2 = .ok (.bipush 9, 2) := by decide +kernel
theorem dX10_noFog_4 : decode cX10_noFog 4 = .ok (.invokestatic 76, 3) := by decide +kernel
theorem dX10_noFog_7 : decode cX10_noFog 7 = .ok (.ifCond .ne 7, 3) := by decide +kernel
theorem dX10_noFog_10 : decode cX10_noFog 10 = .ok (.iconst 1, 1) := by decide +kernel
theorem dX10_noFog_11 : decode cX10_noFog 11 = .ok (.goto 4, 3) := by decide +kernel
theorem dX10_noFog_14 : decode cX10_noFog 14 = .ok (.iconst 0, 1) := by decide +kernel
theorem dX10_noFog_15 : decode cX10_noFog 15 = .ok (.ireturn, 1) := by decide +kernel
noncomputable def fX10_noFog (V : VT) (x1 : Int32) : Option Int32 := ob_R (fX10_in V x1 (0 : Int32) (9 : Int32)) fun y2 => if y2 = 0 then (zo_ (1 : Int32) (some (1 : Int32))) else (zo_ (0 : Int32) (some (0 : Int32)))
set_option maxHeartbeats 4000000 in
set_option maxRecDepth 100000 in
theorem kX10_noFog {l : Launch} {G : GT} {B : BGt} (hB : BGok B) {V : VT} {x1 : Int32} {r : Int32} (h : fX10_noFog V x1 = some r) : CI l G B yX10_noFog (.code yX10_noFog cX10_noFog 1 (some .boolean)) 3 [.int x1] V r V := by
  intro sz
  refine met_of (Qs := fun sz => QI G sz r V) hB (by decide) (Nat.le_of_ble_eq_true rfl) ?_ sz
  intro p e s m args below meth c ls E hw hl
  have hx := en_x E
  have hb := en_b E
  generalize hQ : MQ _ _ _ _ _ _ _ = Q
  have kr : Q = MQ below (QI G s.heap.size r V) args s 0 0 (gA G s.heap.size) := hQ.symm
  have hl : lv_has ls 1 [(0, .int x1)] := hl
  obtain ⟨H, eH⟩ : ∃ H, H = s.heap := ⟨_, rfl⟩
  obtain ⟨locs, elocs⟩ : ∃ z : List Loc, z = [] := ⟨_, rfl⟩
  have hw : HW G s.heap V H locs := by rw [eH, elocs]; exact hw
  show W p l e _ s m args below meth c s.heap [] 0 0 Q (F0 m 0 ls [])
  rw [← eH, ← elocs]
  unfold fX10_noFog at h
  refine lv_iload_n hx hb dX10_noFog_0 rfl (lv_at hl 0 rfl) ?_
  refine lv_iconst (v := (0 : Int32)) hx hb dX10_noFog_1 (by decide) ?_
  refine lv_bipush (v := (9 : Int32)) hx hb dX10_noFog_2 (by decide) ?_
  obtain ⟨y2, h1, h⟩ := ob_R_some h
  refine c_SI E hw (kX10_in (l := l) (G := G) hB  h1) yy_X10_in lm_RX10_76 rfl hl.1 (by decide) (by decide) rfl (Nat.le_of_ble_eq_true rfl) dX10_noFog_4 (fun H locs hw => ?_)
  refine lv_if_ne (tgt := 14) hx hb dX10_noFog_7 (by decide) (fun c5 => ?_) (fun c5 => ?_)
  · rw [if_neg c5] at h
    refine lv_iconst (v := (0 : Int32)) hx hb dX10_noFog_14 (by decide) ?_
    obtain ⟨z3, h⟩ := zo_some h
    have h := Option.some.inj h
    subst h
    rw [kr]
    exact r_rz E hw z3 dX10_noFog_15
  · rw [if_pos c5] at h
    refine lv_iconst (v := (1 : Int32)) hx hb dX10_noFog_10 (by decide) ?_
    refine lv_goto (tgt := 15) hx hb dX10_noFog_11 (by decide) ?_
    obtain ⟨z4, h⟩ := zo_some h
    have h := Option.some.inj h
    subst h
    rw [kr]
    exact r_rz E hw z4 dX10_noFog_15
/-! ===== AllSawItModel.drawn(I)I ===== -/
theorem dX10_drawn_0 : decode cX10_drawn 0 = .ok (.aload_n 0, 1) := by decide +kernel
theorem dX10_drawn_1 : decode cX10_drawn 1 = .ok (.getfield 13, 3) := by decide +kernel
theorem dX10_drawn_4 : decode cX10_drawn 4 = .ok (.bipush 9, 2) := by decide +kernel
theorem dX10_drawn_6 : decode cX10_drawn 6 = .ok (.ldc 83, 2) := by decide +kernel
theorem dX10_drawn_8 : decode cX10_drawn 8 = .ok (.aload_n 0, 1) := by decide +kernel
theorem dX10_drawn_9 : decode cX10_drawn 9 = .ok (.getfield 13, 3) := by decide +kernel
theorem dX10_drawn_12 : decode cX10_drawn 12 = .ok (.bipush 9, 2) := by decide +kernel
theorem dX10_drawn_14 : decode cX10_drawn 14 = .ok (.iaload, 1) := by decide +kernel
theorem dX10_drawn_15 : decode cX10_drawn 15 = .ok (.imul, 1) := by decide +kernel
theorem dX10_drawn_16 : decode cX10_drawn 16 = .ok (.sipush 12345, 3) := by decide +kernel
theorem dX10_drawn_19 : decode cX10_drawn 19 = .ok (.iadd, 1) := by decide +kernel
theorem dX10_drawn_20 : decode cX10_drawn 20 = .ok (.iastore, 1) := by decide +kernel
theorem dX10_drawn_21 : decode cX10_drawn 21 = .ok (.aload_n 0, 1) := by decide +kernel
theorem dX10_drawn_22 : decode cX10_drawn 22 = .ok (.getfield 13, 3) := by decide +kernel
theorem dX10_drawn_25 : decode cX10_drawn 25 = .ok (.bipush 9, 2) := by decide +kernel
theorem dX10_drawn_27 : decode cX10_drawn 27 = .ok (.iaload, 1) := by decide +kernel
theorem dX10_drawn_28 : decode cX10_drawn 28 = .ok (.bipush 16, 2) := by decide +kernel
theorem dX10_drawn_30 : decode cX10_drawn 30 = .ok (.ishr, 1) := by decide +kernel
theorem dX10_drawn_31 : decode cX10_drawn 31 = .ok (.sipush 32767, 3) := by decide +kernel
theorem dX10_drawn_34 : decode cX10_drawn 34 = .ok (.iand, 1) := by decide +kernel
theorem dX10_drawn_35 : decode cX10_drawn 35 = .ok (.iload_n 1, 1) := by decide +kernel
theorem dX10_drawn_36 : decode cX10_drawn 36 = .ok (.irem, 1) := by decide +kernel
theorem dX10_drawn_37 : decode cX10_drawn 37 = .ok (.ireturn, 1) := by decide +kernel
noncomputable def fX10_drawn (V : VT) (x1 : Int32) : Option (Int32 × VT) := rd_ (9 : Int32) 1988 (rd_ (9 : Int32) 1988 (lt_ (va_up V 76 (upd (V 76) (9 : Int32).toNatClampNeg (((1103515245 : Int32) * (V 76 (9 : Int32).toNatClampNeg)) + (12345 : Int32)))) fun V3 => rd_ (9 : Int32) 1988 (nz_ x1 (some (((((V3 76 (9 : Int32).toNatClampNeg) >>> ((16 : Int32) &&& 31)) &&& (32767 : Int32)) - (((V3 76 (9 : Int32).toNatClampNeg) >>> ((16 : Int32) &&& 31)) &&& (32767 : Int32)) / x1 * x1), V3)))))
set_option maxHeartbeats 4000000 in
set_option maxRecDepth 100000 in
theorem kX10_drawn {l : Launch} {G : GT} {B : BGt} (hB : BGok B) {V : VT} {x1 : Int32} {r : (Int32 × VT)} (h : fX10_drawn V x1 = some r) : CI l G B yX10_drawn (.code yX10_drawn cX10_drawn 2 (some .int)) 2 [.ref (G.2.2 22), .int x1] V r.1 r.2 := by
  intro sz
  refine met_of (Qs := fun sz => QI G sz (r.1) (r.2)) hB (by decide) (Nat.le_of_ble_eq_true rfl) ?_ sz
  intro p e s m args below meth c ls E hw hl
  have hx := en_x E
  have hb := en_b E
  generalize hQ : MQ _ _ _ _ _ _ _ = Q
  have kr : Q = MQ below (QI G s.heap.size r.1 r.2) args s 0 0 (gA G s.heap.size) := hQ.symm
  have hl : lv_has ls 2 [(0, .ref (G.2.2 22)), (1, .int x1)] := hl
  obtain ⟨H, eH⟩ : ∃ H, H = s.heap := ⟨_, rfl⟩
  obtain ⟨locs, elocs⟩ : ∃ z : List Loc, z = [] := ⟨_, rfl⟩
  have hw : HW G s.heap V H locs := by rw [eH, elocs]; exact hw
  show W p l e _ s m args below meth c s.heap [] 0 0 Q (F0 m 0 ls [])
  rw [← eH, ← elocs]
  unfold fX10_drawn at h
  refine lv_aload_n hx hb dX10_drawn_0 rfl (lv_at hl 0 rfl) ?_
  refine r_gr E hw 22 1 76 (N := 29) (C := RX10) (T := TX10) (by decide) rfl rfl (by decide) rfl iw_10 rfl lf_RX10_13 dX10_drawn_1 ?_
  refine lv_bipush (v := (9 : Int32)) hx hb dX10_drawn_4 (by decide) ?_
  refine lv_ldc (own := RX10) (v := (1103515245 : Int32)) hx hb E.2.2.2.1 (en_w E kn_RX10_83 rfl) dX10_drawn_6 ?_
  refine lv_aload_n hx hb dX10_drawn_8 rfl (lv_at hl 0 rfl) ?_
  refine r_gr E hw 22 1 76 (N := 29) (C := RX10) (T := TX10) (by decide) rfl rfl (by decide) rfl iw_10 rfl lf_RX10_13 dX10_drawn_9 ?_
  refine lv_bipush (v := (9 : Int32)) hx hb dX10_drawn_12 (by decide) ?_
  obtain ⟨b1, h⟩ := rd_some h
  refine r_ia E hw 76 1988 (by decide) (by decide) (by decide) rfl rfl b1 dX10_drawn_14 ?_
  refine lv_imul hx hb dX10_drawn_15 ?_
  refine lv_sipush (v := (12345 : Int32)) hx hb dX10_drawn_16 (by decide) ?_
  refine lv_iadd hx hb dX10_drawn_19 ?_
  obtain ⟨b2, h⟩ := rd_some h
  obtain ⟨V3, eV3, h⟩ := lt_some h
  refine r_is E hw 76 1988 (by decide) (by decide) (by decide) rfl rfl b2 eV3 dX10_drawn_20 (fun H locs hw => ?_)
  refine lv_aload_n hx hb dX10_drawn_21 rfl (lv_at hl 0 rfl) ?_
  refine r_gr E hw 22 1 76 (N := 29) (C := RX10) (T := TX10) (by decide) rfl rfl (by decide) rfl iw_10 rfl lf_RX10_13 dX10_drawn_22 ?_
  refine lv_bipush (v := (9 : Int32)) hx hb dX10_drawn_25 (by decide) ?_
  obtain ⟨b4, h⟩ := rd_some h
  refine r_ia E hw 76 1988 (by decide) (by decide) (by decide) rfl rfl b4 dX10_drawn_27 ?_
  refine lv_bipush (v := (16 : Int32)) hx hb dX10_drawn_28 (by decide) ?_
  refine lv_ishr hx hb dX10_drawn_30 ?_
  refine lv_sipush (v := (32767 : Int32)) hx hb dX10_drawn_31 (by decide) ?_
  refine lv_iand hx hb dX10_drawn_34 ?_
  refine lv_iload_n hx hb dX10_drawn_35 rfl (lv_at hl 1 rfl) ?_
  obtain ⟨z5, h⟩ := nz_some h
  refine lv_irem hx hb dX10_drawn_36 z5 ?_
  have h := Option.some.inj h
  subst h
  rw [kr]
  exact r_ri E hw dX10_drawn_37
/-! ===== AllSawItModel.feed(IIIII)I ===== -/
theorem dX10_feed_0 : decode cX10_feed 0 = .ok (.aload_n 0, 1) := by decide +kernel
theorem dX10_feed_1 : decode cX10_feed 1 = .ok (.iconst 0, 1) := by decide +kernel
theorem dX10_feed_2 : decode cX10_feed 2 = .ok (.putfield 3, 3) := by decide +kernel
theorem dX10_feed_5 : decode cX10_feed 5 = .ok (.aload_n 0, 1) := by decide +kernel
theorem dX10_feed_6 : decode cX10_feed 6 = .ok (.getfield 84, 3) := by decide +kernel
theorem dX10_feed_9 : decode cX10_feed 9 = .ok (.bipush 20, 2) := by decide +kernel
theorem dX10_feed_11 : decode cX10_feed 11 = .ok (.iadd, 1) := by decide +kernel
theorem dX10_feed_12 : decode cX10_feed 12 = .ok (.sipush 400, 3) := by decide +kernel
theorem dX10_feed_15 : decode cX10_feed 15 = .ok (.if_icmp .le 5, 3) := by decide +kernel
theorem dX10_feed_18 : decode cX10_feed 18 = .ok (.iconst (-1), 1) := by decide +kernel
theorem dX10_feed_19 : decode cX10_feed 19 = .ok (.ireturn, 1) := by decide +kernel
theorem dX10_feed_20 : decode cX10_feed 20 = .ok (.aload_n 0, 1) := by decide +kernel
theorem dX10_feed_21 : decode cX10_feed 21 = .ok (.getfield 36, 3) := by decide +kernel
theorem dX10_feed_24 : decode cX10_feed 24 = .ok (.iconst 0, 1) := by decide +kernel
theorem dX10_feed_25 : decode cX10_feed 25 = .ok (.iload_n 1, 1) := by decide +kernel
theorem dX10_feed_26 : decode cX10_feed 26 = .ok (.iastore, 1) := by decide +kernel
theorem dX10_feed_27 : decode cX10_feed 27 = .ok (.aload_n 0, 1) := by decide +kernel
theorem dX10_feed_28 : decode cX10_feed 28 = .ok (.getfield 36, 3) := by decide +kernel
theorem dX10_feed_31 : decode cX10_feed 31 = .ok (.iconst 1, 1) := by decide +kernel
theorem dX10_feed_32 : decode cX10_feed 32 = .ok (.iload_n 2, 1) := by decide +kernel
theorem dX10_feed_33 : decode cX10_feed 33 = .ok (.iastore, 1) := by decide +kernel
theorem dX10_feed_34 : decode cX10_feed 34 = .ok (.aload_n 0, 1) := by decide +kernel
theorem dX10_feed_35 : decode cX10_feed 35 = .ok (.getfield 36, 3) := by decide +kernel
theorem dX10_feed_38 : decode cX10_feed 38 = .ok (.iconst 2, 1) := by decide +kernel
theorem dX10_feed_39 : decode cX10_feed 39 = .ok (.iload_n 3, 1) := by decide +kernel
theorem dX10_feed_40 : decode cX10_feed 40 = .ok (.iastore, 1) := by decide +kernel
theorem dX10_feed_41 : decode cX10_feed 41 = .ok (.aload_n 0, 1) := by decide +kernel
theorem dX10_feed_42 : decode cX10_feed 42 = .ok (.getfield 36, 3) := by decide +kernel
theorem dX10_feed_45 : decode cX10_feed 45 = .ok (.iconst 3, 1) := by decide +kernel
theorem dX10_feed_46 : decode cX10_feed 46 = .ok (.iload 4, 2) := by decide +kernel
theorem dX10_feed_48 : decode cX10_feed 48 = .ok (.iastore, 1) := by decide +kernel
theorem dX10_feed_49 : decode cX10_feed 49 = .ok (.aload_n 0, 1) := by decide +kernel
theorem dX10_feed_50 : decode cX10_feed 50 = .ok (.getfield 36, 3) := by decide +kernel
theorem dX10_feed_53 : decode cX10_feed 53 = .ok (.iconst 4, 1) := by decide +kernel
theorem dX10_feed_54 : decode cX10_feed 54 = .ok (.iload 5, 2) := by decide +kernel
theorem dX10_feed_56 : decode cX10_feed 56 = .ok (.iastore, 1) := by decide +kernel
theorem dX10_feed_57 : decode cX10_feed 57 = .ok (.iconst 0, 1) := by decide +kernel
theorem dX10_feed_58 : decode cX10_feed 58 = .ok (.istore 6, 2) := by decide +kernel
theorem dX10_feed_60 : decode cX10_feed 60 = .ok (.iload 6, 2) := by decide +kernel
theorem dX10_feed_62 : decode cX10_feed 62 = .ok (.bipush 20, 2) := by decide +kernel
theorem dX10_feed_64 : decode cX10_feed 64 = .ok (.if_icmp .ge 42, 3) := by decide +kernel
theorem dX10_feed_67 : decode cX10_feed 67 = .ok (.aload_n 0, 1) := by decide +kernel
theorem dX10_feed_68 : decode cX10_feed 68 = .ok (.getfield 29, 3) := by decide +kernel
theorem dX10_feed_71 : decode cX10_feed 71 = .ok (.aload_n 0, 1) := by decide +kernel
theorem dX10_feed_72 : decode cX10_feed 72 = .ok (.getfield 84, 3) := by decide +kernel
theorem dX10_feed_75 : decode cX10_feed 75 = .ok (.iload 6, 2) := by decide +kernel
theorem dX10_feed_77 : decode cX10_feed 77 = .ok (.iadd, 1) := by decide +kernel
theorem dX10_feed_78 : decode cX10_feed 78 = .ok (.aload_n 0, 1) := by decide +kernel
theorem dX10_feed_79 : decode cX10_feed 79 = .ok (.getfield 36, 3) := by decide +kernel
theorem dX10_feed_82 : decode cX10_feed 82 = .ok (.iload 6, 2) := by decide +kernel
theorem dX10_feed_84 : decode cX10_feed 84 = .ok (.iconst 4, 1) := by decide +kernel
theorem dX10_feed_85 : decode cX10_feed 85 = .ok (.idiv, 1) := by decide +kernel
theorem dX10_feed_86 : decode cX10_feed 86 = .ok (.iaload, 1) := by decide +kernel
theorem dX10_feed_87 : decode cX10_feed 87 = .ok (.bipush 24, 2) := by decide +kernel
theorem dX10_feed_89 : decode cX10_feed 89 = .ok (.bipush 8, 2) := by decide +kernel
theorem dX10_feed_91 : decode cX10_feed 91 = .ok (.iload 6, 2) := by decide +kernel
theorem dX10_feed_93 : decode cX10_feed 93 = .ok (.iconst 4, 1) := by decide +kernel
theorem dX10_feed_94 : decode cX10_feed 94 = .ok (.irem, 1) := by decide +kernel
theorem dX10_feed_95 : decode cX10_feed 95 = .ok (.imul, 1) := by decide +kernel
theorem dX10_feed_96 : decode cX10_feed 96 = .ok (.isub, 1) := by decide +kernel
theorem dX10_feed_97 : decode cX10_feed 97 = .ok (.ishr, 1) := by decide +kernel
theorem dX10_feed_98 : decode cX10_feed 98 = .ok (.i2b, 1) := by decide +kernel
theorem dX10_feed_99 : decode cX10_feed 99 = .ok (.bastore, 1) := by decide +kernel
theorem dX10_feed_100 : decode cX10_feed 100 = .ok (.iinc 6 1, 3) := by decide +kernel
theorem dX10_feed_103 : decode cX10_feed 103 = .ok (.goto (-43), 3) := by decide +kernel
theorem dX10_feed_106 : decode cX10_feed 106 = .ok (.aload_n 0, 1) := by decide +kernel
theorem dX10_feed_107 : decode cX10_feed 107 = .ok (.dup, 1) := by decide +kernel
theorem dX10_feed_108 : decode cX10_feed 108 = .ok (.getfield 84, 3) := by decide +kernel
theorem dX10_feed_111 : decode cX10_feed 111 = .ok (.bipush 20, 2) := by decide +kernel
theorem dX10_feed_113 : decode cX10_feed 113 = .ok (.iadd, 1) := by decide +kernel
theorem dX10_feed_114 : decode cX10_feed 114 = .ok (.putfield 84, 3) := by decide +kernel
theorem dX10_feed_117 : decode cX10_feed 117 = .ok (.aload_n 0, 1) := by decide +kernel
theorem dX10_feed_118 : decode cX10_feed 118 = .ok (.getfield 84, 3) := by decide +kernel
theorem dX10_feed_121 : decode cX10_feed 121 = .ok (.ireturn, 1) := by decide +kernel
noncomputable def fX10_feed_L60 (V : VT) (u6 : Int32) : Option ((VT × Int32) ⊕ (Int32 × VT)) := if (20 : Int32) ≤ u6 then (lt_ (va_up V 22 (upd (V 22) 9 ((V 22 9) + (20 : Int32)))) fun V12 => some (.inr (((V12 22 9), V12)))) else (rd_ (u6 / (4 : Int32)) 5 (rd_ ((V 22 9) + u6) 400 (lt_ (va_up V 81 (upd (V 81) ((V 22 9) + u6).toNatClampNeg (vp_nar .byte ((V 82 (u6 / (4 : Int32)).toNatClampNeg) >>> (((24 : Int32) - ((8 : Int32) * (u6 - u6 / (4 : Int32) * (4 : Int32)))) &&& 31)).toInt8.toInt32))) fun V15 => lt_ (u6 + (1 : Int32)) fun y16 => some (.inl (V15, y16)))))
noncomputable def iX10_feed_L60 : (VT × Int32) → Option ((VT × Int32) ⊕ (Int32 × VT)) := fun q => fX10_feed_L60 (q.1) (q.2)
noncomputable def fX10_feed (V : VT) (x1 : Int32) (x2 : Int32) (x3 : Int32) (x4 : Int32) (x5 : Int32) : Option (Int32 × VT) := lt_ (va_up V 22 (upd (V 22) 0 (0 : Int32))) fun V1 => if ((V1 22 9) + (20 : Int32)) ≤ (400 : Int32) then (rd_ (0 : Int32) 5 (lt_ (va_up V1 82 (upd (V1 82) (0 : Int32).toNatClampNeg x1)) fun V3 => rd_ (1 : Int32) 5 (lt_ (va_up V3 82 (upd (V3 82) (1 : Int32).toNatClampNeg x2)) fun V5 => rd_ (2 : Int32) 5 (lt_ (va_up V5 82 (upd (V5 82) (2 : Int32).toNatClampNeg x3)) fun V7 => rd_ (3 : Int32) 5 (lt_ (va_up V7 82 (upd (V7 82) (3 : Int32).toNatClampNeg x4)) fun V9 => rd_ (4 : Int32) 5 (lt_ (va_up V9 82 (upd (V9 82) (4 : Int32).toNatClampNeg x5)) fun V11 => ob_R (it_ (iX10_feed_L60) FV (V11, (0 : Int32))) fun x19 => some x19)))))) else (some ((-1 : Int32), V1))
set_option maxHeartbeats 4000000 in
set_option maxRecDepth 100000 in
theorem wX10_feed_L60 {p : Program} {l : Launch} {e : Env} {s : State} {m : MethodId} {args : Array Value} {below : List Frame} {meth : Method} {c : Code} {G : GT} {B : BGt} {Q : State → Prop} (E : En p s m args c meth cX10_feed 7 RX10 (some .int) G B) {x : (Int32 × VT)} (kr : ∀ q : (Int32 × VT), x = q → Q = MQ below (QI G s.heap.size q.1 q.2) args s 0 0 (gA G s.heap.size)) : ∀ (n : Nat) (q : (VT × Int32)), it_ (iX10_feed_L60) n q = some x → ∀ (H : Heap) (locs : List Loc) (ls : Array Slot), HW G s.heap (q.1) H locs → lv_has ls 7 [(0, .ref (G.2.2 22)), (6, .int (q.2))] → W p l e (rmD 2) s m args below meth c H locs 0 0 Q (F0 m 60 ls []) := by
  have hx := en_x E
  have hb := en_b E
  have hB := en_B E
  refine it_W (fun q : (VT × Int32) => ∀ (H : Heap) (locs : List Loc) (ls : Array Slot), HW G s.heap (q.1) H locs → lv_has ls 7 [(0, .ref (G.2.2 22)), (6, .int (q.2))] → W p l e (rmD 2) s m args below meth c H locs 0 0 Q (F0 m 60 ls [])) x ?_
  intro q r h kc kx
  obtain ⟨V, u6⟩ := q
  intro H locs ls hw hl
  have h : fX10_feed_L60 V u6 = some r := h
  have hw : HW G s.heap V H locs := hw
  have hl : lv_has ls 7 [(0, .ref (G.2.2 22)), (6, .int u6)] := hl
  have kr : ∀ q : (Int32 × VT), r = .inr (q) → Q = MQ below (QI G s.heap.size q.1 q.2) args s 0 0 (gA G s.heap.size) := fun q e => kr q (kx _ e).symm
  unfold fX10_feed_L60 at h
  refine lv_iload hx hb dX10_feed_60 (lv_at hl 1 rfl) ?_
  refine lv_bipush (v := (20 : Int32)) hx hb dX10_feed_62 (by decide) ?_
  refine lv_icmp_ge (tgt := 106) hx hb dX10_feed_64 (by decide) (fun c17 => ?_) (fun c17 => ?_)
  · rw [if_pos c17] at h
    refine lv_aload_n hx hb dX10_feed_106 rfl (lv_at hl 0 rfl) ?_
    refine lv_dup hx hb dX10_feed_107 rfl ?_
    refine r_gi E hw 22 9 (N := 29) (C := RX10) (T := TX10) (by decide) rfl rfl (by decide) rfl iw_10 rfl lf_RX10_84 dX10_feed_108 ?_
    refine lv_bipush (v := (20 : Int32)) hx hb dX10_feed_111 (by decide) ?_
    refine lv_iadd hx hb dX10_feed_113 ?_
    obtain ⟨V12, eV12, h⟩ := lt_some h
    refine r_pi E hw 22 9 (N := 29) (C := RX10) (T := TX10) (ty0 := tyX10) (ty := .int) (by decide) rfl rfl (by decide) rfl iw_10 rfl tyX10_ok nmX10 rfl rfl (vp_nar_int _) rfl lf_RX10_84 eV12 dX10_feed_114 (fun H locs hw => ?_)
    refine lv_aload_n hx hb dX10_feed_117 rfl (lv_at hl 0 rfl) ?_
    refine r_gi E hw 22 9 (N := 29) (C := RX10) (T := TX10) (by decide) rfl rfl (by decide) rfl iw_10 rfl lf_RX10_84 dX10_feed_118 ?_
    rw [kr ((V12 22 9), V12) (Option.some.inj h).symm]
    exact r_ri E hw dX10_feed_121
  · rw [if_neg c17] at h
    refine lv_aload_n hx hb dX10_feed_67 rfl (lv_at hl 0 rfl) ?_
    refine r_gr E hw 22 8 81 (N := 29) (C := RX10) (T := TX10) (by decide) rfl rfl (by decide) rfl iw_10 rfl lf_RX10_29 dX10_feed_68 ?_
    refine lv_aload_n hx hb dX10_feed_71 rfl (lv_at hl 0 rfl) ?_
    refine r_gi E hw 22 9 (N := 29) (C := RX10) (T := TX10) (by decide) rfl rfl (by decide) rfl iw_10 rfl lf_RX10_84 dX10_feed_72 ?_
    refine lv_iload hx hb dX10_feed_75 (lv_at hl 1 rfl) ?_
    refine lv_iadd hx hb dX10_feed_77 ?_
    refine lv_aload_n hx hb dX10_feed_78 rfl (lv_at hl 0 rfl) ?_
    refine r_gr E hw 22 15 82 (N := 29) (C := RX10) (T := TX10) (by decide) rfl rfl (by decide) rfl iw_10 rfl lf_RX10_36 dX10_feed_79 ?_
    refine lv_iload hx hb dX10_feed_82 (lv_at hl 1 rfl) ?_
    refine lv_iconst (v := (4 : Int32)) hx hb dX10_feed_84 (by decide) ?_
    refine lv_idiv hx hb dX10_feed_85 (by decide) ?_
    obtain ⟨b13, h⟩ := rd_some h
    refine r_ia E hw 82 5 (by decide) (by decide) (by decide) rfl rfl b13 dX10_feed_86 ?_
    refine lv_bipush (v := (24 : Int32)) hx hb dX10_feed_87 (by decide) ?_
    refine lv_bipush (v := (8 : Int32)) hx hb dX10_feed_89 (by decide) ?_
    refine lv_iload hx hb dX10_feed_91 (lv_at hl 1 rfl) ?_
    refine lv_iconst (v := (4 : Int32)) hx hb dX10_feed_93 (by decide) ?_
    refine lv_irem hx hb dX10_feed_94 (by decide) ?_
    refine lv_imul hx hb dX10_feed_95 ?_
    refine lv_isub hx hb dX10_feed_96 ?_
    refine lv_ishr hx hb dX10_feed_97 ?_
    refine lv_i2b hx hb dX10_feed_98 rfl ?_
    obtain ⟨b14, h⟩ := rd_some h
    obtain ⟨V15, eV15, h⟩ := lt_some h
    refine r_bs E hw 81 400 (by decide) (by decide) (by decide) rfl rfl b14 eV15 dX10_feed_99 (fun H locs hw => ?_)
    obtain ⟨y16, ey16, h⟩ := lt_some h
    refine lv_iinc (v := y16) (lv' := [(6, .int y16), (0, .ref (G.2.2 22))]) hx hb dX10_feed_100 hl (k := 1) rfl (by rw [ey16]; rfl) (by decide) rfl (fun ls hl => ?_)
    refine lv_goto (tgt := 60) hx hb dX10_feed_103 (by decide) ?_
    exact kc (V15, y16) (Option.some.inj h).symm H locs ls hw (lv_sub hl [1, 0] rfl)
set_option maxHeartbeats 4000000 in
set_option maxRecDepth 100000 in
theorem kX10_feed {l : Launch} {G : GT} {B : BGt} (hB : BGok B) {V : VT} {x1 : Int32} {x2 : Int32} {x3 : Int32} {x4 : Int32} {x5 : Int32} {r : (Int32 × VT)} (h : fX10_feed V x1 x2 x3 x4 x5 = some r) : CI l G B yX10_feed (.code yX10_feed cX10_feed 7 (some .int)) 2 [.ref (G.2.2 22), .int x1, .int x2, .int x3, .int x4, .int x5] V r.1 r.2 := by
  intro sz
  refine met_of (Qs := fun sz => QI G sz (r.1) (r.2)) hB (by decide) (Nat.le_of_ble_eq_true rfl) ?_ sz
  intro p e s m args below meth c ls E hw hl
  have hx := en_x E
  have hb := en_b E
  generalize hQ : MQ _ _ _ _ _ _ _ = Q
  have kr : Q = MQ below (QI G s.heap.size r.1 r.2) args s 0 0 (gA G s.heap.size) := hQ.symm
  have hl : lv_has ls 7 [(0, .ref (G.2.2 22)), (1, .int x1), (2, .int x2), (3, .int x3), (4, .int x4), (5, .int x5)] := hl
  obtain ⟨H, eH⟩ : ∃ H, H = s.heap := ⟨_, rfl⟩
  obtain ⟨locs, elocs⟩ : ∃ z : List Loc, z = [] := ⟨_, rfl⟩
  have hw : HW G s.heap V H locs := by rw [eH, elocs]; exact hw
  show W p l e _ s m args below meth c s.heap [] 0 0 Q (F0 m 0 ls [])
  rw [← eH, ← elocs]
  unfold fX10_feed at h
  refine lv_aload_n hx hb dX10_feed_0 rfl (lv_at hl 0 rfl) ?_
  refine lv_iconst (v := (0 : Int32)) hx hb dX10_feed_1 (by decide) ?_
  obtain ⟨V1, eV1, h⟩ := lt_some h
  refine r_pi E hw 22 0 (N := 29) (C := RX10) (T := TX10) (ty0 := tyX10) (ty := .int) (by decide) rfl rfl (by decide) rfl iw_10 rfl tyX10_ok nmX10 rfl rfl (vp_nar_int _) rfl lf_RX10_3 eV1 dX10_feed_2 (fun H locs hw => ?_)
  refine lv_aload_n hx hb dX10_feed_5 rfl (lv_at hl 0 rfl) ?_
  refine r_gi E hw 22 9 (N := 29) (C := RX10) (T := TX10) (by decide) rfl rfl (by decide) rfl iw_10 rfl lf_RX10_84 dX10_feed_6 ?_
  refine lv_bipush (v := (20 : Int32)) hx hb dX10_feed_9 (by decide) ?_
  refine lv_iadd hx hb dX10_feed_11 ?_
  refine lv_sipush (v := (400 : Int32)) hx hb dX10_feed_12 (by decide) ?_
  refine lv_icmp_le (tgt := 20) hx hb dX10_feed_15 (by decide) (fun c20 => ?_) (fun c20 => ?_)
  · rw [if_pos c20] at h
    refine lv_aload_n hx hb dX10_feed_20 rfl (lv_at hl 0 rfl) ?_
    refine r_gr E hw 22 15 82 (N := 29) (C := RX10) (T := TX10) (by decide) rfl rfl (by decide) rfl iw_10 rfl lf_RX10_36 dX10_feed_21 ?_
    refine lv_iconst (v := (0 : Int32)) hx hb dX10_feed_24 (by decide) ?_
    refine lv_iload_n hx hb dX10_feed_25 rfl (lv_at hl 1 rfl) ?_
    obtain ⟨b2, h⟩ := rd_some h
    obtain ⟨V3, eV3, h⟩ := lt_some h
    refine r_is E hw 82 5 (by decide) (by decide) (by decide) rfl rfl b2 eV3 dX10_feed_26 (fun H locs hw => ?_)
    refine lv_aload_n hx hb dX10_feed_27 rfl (lv_at hl 0 rfl) ?_
    refine r_gr E hw 22 15 82 (N := 29) (C := RX10) (T := TX10) (by decide) rfl rfl (by decide) rfl iw_10 rfl lf_RX10_36 dX10_feed_28 ?_
    refine lv_iconst (v := (1 : Int32)) hx hb dX10_feed_31 (by decide) ?_
    refine lv_iload_n hx hb dX10_feed_32 rfl (lv_at hl 2 rfl) ?_
    obtain ⟨b4, h⟩ := rd_some h
    obtain ⟨V5, eV5, h⟩ := lt_some h
    refine r_is E hw 82 5 (by decide) (by decide) (by decide) rfl rfl b4 eV5 dX10_feed_33 (fun H locs hw => ?_)
    refine lv_aload_n hx hb dX10_feed_34 rfl (lv_at hl 0 rfl) ?_
    refine r_gr E hw 22 15 82 (N := 29) (C := RX10) (T := TX10) (by decide) rfl rfl (by decide) rfl iw_10 rfl lf_RX10_36 dX10_feed_35 ?_
    refine lv_iconst (v := (2 : Int32)) hx hb dX10_feed_38 (by decide) ?_
    refine lv_iload_n hx hb dX10_feed_39 rfl (lv_at hl 3 rfl) ?_
    obtain ⟨b6, h⟩ := rd_some h
    obtain ⟨V7, eV7, h⟩ := lt_some h
    refine r_is E hw 82 5 (by decide) (by decide) (by decide) rfl rfl b6 eV7 dX10_feed_40 (fun H locs hw => ?_)
    refine lv_aload_n hx hb dX10_feed_41 rfl (lv_at hl 0 rfl) ?_
    refine r_gr E hw 22 15 82 (N := 29) (C := RX10) (T := TX10) (by decide) rfl rfl (by decide) rfl iw_10 rfl lf_RX10_36 dX10_feed_42 ?_
    refine lv_iconst (v := (3 : Int32)) hx hb dX10_feed_45 (by decide) ?_
    refine lv_iload hx hb dX10_feed_46 (lv_at hl 4 rfl) ?_
    obtain ⟨b8, h⟩ := rd_some h
    obtain ⟨V9, eV9, h⟩ := lt_some h
    refine r_is E hw 82 5 (by decide) (by decide) (by decide) rfl rfl b8 eV9 dX10_feed_48 (fun H locs hw => ?_)
    refine lv_aload_n hx hb dX10_feed_49 rfl (lv_at hl 0 rfl) ?_
    refine r_gr E hw 22 15 82 (N := 29) (C := RX10) (T := TX10) (by decide) rfl rfl (by decide) rfl iw_10 rfl lf_RX10_36 dX10_feed_50 ?_
    refine lv_iconst (v := (4 : Int32)) hx hb dX10_feed_53 (by decide) ?_
    refine lv_iload hx hb dX10_feed_54 (lv_at hl 5 rfl) ?_
    obtain ⟨b10, h⟩ := rd_some h
    obtain ⟨V11, eV11, h⟩ := lt_some h
    refine r_is E hw 82 5 (by decide) (by decide) (by decide) rfl rfl b10 eV11 dX10_feed_56 (fun H locs hw => ?_)
    refine lv_iconst (v := (0 : Int32)) hx hb dX10_feed_57 (by decide) ?_
    refine lv_istore (lv' := [(6, .int (0 : Int32)), (0, .ref (G.2.2 22)), (1, .int x1), (2, .int x2), (3, .int x3), (4, .int x4), (5, .int x5)]) hx hb dX10_feed_58 hl (by decide) rfl (fun ls hl => ?_)
    obtain ⟨x19, h18, h⟩ := ob_R_some h
    have h := Option.some.inj h
    subst h
    exact wX10_feed_L60 E (fun q e => by subst e; exact kr) FV (V11, (0 : Int32)) h18 H locs ls hw (lv_sub hl [1, 0] rfl)
  · rw [if_neg c20] at h
    refine lv_iconst (v := (-1 : Int32)) hx hb dX10_feed_18 (by decide) ?_
    have h := Option.some.inj h
    subst h
    rw [kr]
    exact r_ri E hw dX10_feed_19
/-! ===== AllSawItModel.end(I)Z ===== -/
theorem dX10_end_0 : decode cX10_end 0 = .ok (.aload_n 0, 1) := by decide +kernel
theorem dX10_end_1 : decode cX10_end 1 = .ok (.iconst 0, 1) := by decide +kernel
theorem dX10_end_2 : decode cX10_end 2 = .ok (.putfield 3, 3) := by decide +kernel
theorem dX10_end_5 : decode cX10_end 5 = .ok (.iload_n 1, 1) := by decide +kernel
theorem dX10_end_6 : decode cX10_end 6 = .ok (.ifCond .lt 11, 3) := by decide +kernel
theorem dX10_end_9 : decode cX10_end 9 = .ok (.iload_n 1, 1) := by decide +kernel
theorem dX10_end_10 : decode cX10_end 10 = .ok (.aload_n 0, 1) := by decide +kernel
theorem dX10_end_11 : decode cX10_end 11 = .ok (.getfield 84, 3) := by decide +kernel
theorem dX10_end_14 : decode cX10_end 14 = .ok (.if_icmp .le 5, 3) := by decide +kernel
theorem dX10_end_17 : decode cX10_end 17 = .ok (.iconst 0, 1) := by decide +kernel
theorem dX10_end_18 : decode cX10_end 18 = .ok (.ireturn, 1) := by decide +kernel
theorem dX10_end_19 : decode cX10_end 19 = .ok (.aload_n 0, 1) := by decide +kernel
theorem dX10_end_20 : decode cX10_end 20 = .ok (.iload_n 1, 1) := by decide +kernel
theorem dX10_end_21 : decode cX10_end 21 = .ok (.putfield 84, 3) := by decide +kernel
theorem dX10_end_24 : decode cX10_end 24 = .ok (.iconst 1, 1) := by decide +kernel
theorem dX10_end_25 : decode cX10_end 25 = .ok (.ireturn, 1) := by decide +kernel
noncomputable def fX10_end (V : VT) (x1 : Int32) : Option (Int32 × VT) := lt_ (va_up V 22 (upd (V 22) 0 (0 : Int32))) fun V1 => if x1 < 0 then (zo_ (0 : Int32) (some ((0 : Int32), V1))) else (if x1 ≤ (V1 22 9) then (lt_ (va_up V1 22 (upd (V1 22) 9 x1)) fun V3 => zo_ (1 : Int32) (some ((1 : Int32), V3))) else (zo_ (0 : Int32) (some ((0 : Int32), V1))))
set_option maxHeartbeats 4000000 in
set_option maxRecDepth 100000 in
theorem kX10_end {l : Launch} {G : GT} {B : BGt} (hB : BGok B) {V : VT} {x1 : Int32} {r : (Int32 × VT)} (h : fX10_end V x1 = some r) : CI l G B yX10_end (.code yX10_end cX10_end 2 (some .boolean)) 2 [.ref (G.2.2 22), .int x1] V r.1 r.2 := by
  intro sz
  refine met_of (Qs := fun sz => QI G sz (r.1) (r.2)) hB (by decide) (Nat.le_of_ble_eq_true rfl) ?_ sz
  intro p e s m args below meth c ls E hw hl
  have hx := en_x E
  have hb := en_b E
  generalize hQ : MQ _ _ _ _ _ _ _ = Q
  have kr : Q = MQ below (QI G s.heap.size r.1 r.2) args s 0 0 (gA G s.heap.size) := hQ.symm
  have hl : lv_has ls 2 [(0, .ref (G.2.2 22)), (1, .int x1)] := hl
  obtain ⟨H, eH⟩ : ∃ H, H = s.heap := ⟨_, rfl⟩
  obtain ⟨locs, elocs⟩ : ∃ z : List Loc, z = [] := ⟨_, rfl⟩
  have hw : HW G s.heap V H locs := by rw [eH, elocs]; exact hw
  show W p l e _ s m args below meth c s.heap [] 0 0 Q (F0 m 0 ls [])
  rw [← eH, ← elocs]
  unfold fX10_end at h
  refine lv_aload_n hx hb dX10_end_0 rfl (lv_at hl 0 rfl) ?_
  refine lv_iconst (v := (0 : Int32)) hx hb dX10_end_1 (by decide) ?_
  obtain ⟨V1, eV1, h⟩ := lt_some h
  refine r_pi E hw 22 0 (N := 29) (C := RX10) (T := TX10) (ty0 := tyX10) (ty := .int) (by decide) rfl rfl (by decide) rfl iw_10 rfl tyX10_ok nmX10 rfl rfl (vp_nar_int _) rfl lf_RX10_3 eV1 dX10_end_2 (fun H locs hw => ?_)
  refine lv_iload_n hx hb dX10_end_5 rfl (lv_at hl 1 rfl) ?_
  refine lv_if_lt (tgt := 17) hx hb dX10_end_6 (by decide) (fun c7 => ?_) (fun c7 => ?_)
  · rw [if_pos c7] at h
    refine lv_iconst (v := (0 : Int32)) hx hb dX10_end_17 (by decide) ?_
    obtain ⟨z2, h⟩ := zo_some h
    have h := Option.some.inj h
    subst h
    rw [kr]
    exact r_rz E hw z2 dX10_end_18
  · rw [if_neg c7] at h
    refine lv_iload_n hx hb dX10_end_9 rfl (lv_at hl 1 rfl) ?_
    refine lv_aload_n hx hb dX10_end_10 rfl (lv_at hl 0 rfl) ?_
    refine r_gi E hw 22 9 (N := 29) (C := RX10) (T := TX10) (by decide) rfl rfl (by decide) rfl iw_10 rfl lf_RX10_84 dX10_end_11 ?_
    refine lv_icmp_le (tgt := 19) hx hb dX10_end_14 (by decide) (fun c6 => ?_) (fun c6 => ?_)
    · rw [if_pos c6] at h
      refine lv_aload_n hx hb dX10_end_19 rfl (lv_at hl 0 rfl) ?_
      refine lv_iload_n hx hb dX10_end_20 rfl (lv_at hl 1 rfl) ?_
      obtain ⟨V3, eV3, h⟩ := lt_some h
      refine r_pi E hw 22 9 (N := 29) (C := RX10) (T := TX10) (ty0 := tyX10) (ty := .int) (by decide) rfl rfl (by decide) rfl iw_10 rfl tyX10_ok nmX10 rfl rfl (vp_nar_int _) rfl lf_RX10_84 eV3 dX10_end_21 (fun H locs hw => ?_)
      refine lv_iconst (v := (1 : Int32)) hx hb dX10_end_24 (by decide) ?_
      obtain ⟨z4, h⟩ := zo_some h
      have h := Option.some.inj h
      subst h
      rw [kr]
      exact r_rz E hw z4 dX10_end_25
    · rw [if_neg c6] at h
      refine lv_iconst (v := (0 : Int32)) hx hb dX10_end_17 (by decide) ?_
      obtain ⟨z5, h⟩ := zo_some h
      have h := Option.some.inj h
      subst h
      rw [kr]
      exact r_rz E hw z5 dX10_end_18
/-! ===== AllSawItModel.isAt(II)Z ===== -/
theorem dX10_isAt_0 : decode cX10_isAt 0 = .ok (.aload_n 0, 1) := by decide +kernel
theorem dX10_isAt_1 : decode cX10_isAt 1 = .ok (.getfield 87, 3) := by decide +kernel
theorem dX10_isAt_4 : decode cX10_isAt 4 = .ok (.aload_n 0, 1) := by decide +kernel
theorem dX10_isAt_5 : decode cX10_isAt 5 = .ok (.getfield 90, 3) := by decide +kernel
theorem dX10_isAt_8 : decode cX10_isAt 8 = .ok (.if_icmp .ge 33, 3) := by decide +kernel
theorem dX10_isAt_11 : decode cX10_isAt 11 = .ok (.aload_n 0, 1) := by decide +kernel
theorem dX10_isAt_12 : decode cX10_isAt 12 = .ok (.getfield 29, 3) := by decide +kernel
theorem dX10_isAt_15 : decode cX10_isAt 15 = .ok (.aload_n 0, 1) := by decide +kernel
theorem dX10_isAt_16 : decode cX10_isAt 16 = .ok (.getfield 87, 3) := by decide +kernel
theorem dX10_isAt_19 : decode cX10_isAt 19 = .ok (.baload, 1) := by decide +kernel
theorem dX10_isAt_20 : decode cX10_isAt 20 = .ok (.iload_n 1, 1) := by decide +kernel
theorem dX10_isAt_21 : decode cX10_isAt 21 = .ok (.if_icmp .lt 20, 3) := by decide +kernel
theorem dX10_isAt_24 : decode cX10_isAt 24 = .ok (.aload_n 0, 1) := by decide +kernel
theorem dX10_isAt_25 : decode cX10_isAt 25 = .ok (.getfield 29, 3) := by decide +kernel
theorem dX10_isAt_28 : decode cX10_isAt 28 = .ok (.aload_n 0, 1) := by decide +kernel
theorem dX10_isAt_29 : decode cX10_isAt 29 = .ok (.getfield 87, 3) := by decide +kernel
theorem dX10_isAt_32 : decode cX10_isAt 32 = .ok (.baload, 1) := by decide +kernel
theorem dX10_isAt_33 : decode cX10_isAt 33 = .ok (.iload_n 2, 1) := by decide +kernel
theorem dX10_isAt_34 : decode cX10_isAt 34 = .ok (.if_icmp .gt 7, 3) := by decide +kernel
theorem dX10_isAt_37 : decode cX10_isAt 37 = .ok (.iconst 1, 1) := by decide +kernel
theorem dX10_isAt_38 : decode cX10_isAt 38 = .ok (.goto 4, 3) := by decide +kernel
theorem dX10_isAt_41 : decode cX10_isAt 41 = .ok (.iconst 0, 1) := by decide +kernel
theorem dX10_isAt_42 : decode cX10_isAt 42 = .ok (.ireturn, 1) := by decide +kernel
noncomputable def fX10_isAt (V : VT) (x1 : Int32) (x2 : Int32) : Option Int32 := if (V 22 11) ≤ (V 22 10) then (zo_ (0 : Int32) (some (0 : Int32))) else (rd_ (V 22 10) 400 (if (V 81 (V 22 10).toNatClampNeg) < x1 then (zo_ (0 : Int32) (some (0 : Int32))) else (rd_ (V 22 10) 400 (if x2 < (V 81 (V 22 10).toNatClampNeg) then (zo_ (0 : Int32) (some (0 : Int32))) else (zo_ (1 : Int32) (some (1 : Int32)))))))
set_option maxHeartbeats 4000000 in
set_option maxRecDepth 100000 in
theorem kX10_isAt {l : Launch} {G : GT} {B : BGt} (hB : BGok B) {V : VT} {x1 : Int32} {x2 : Int32} {r : Int32} (h : fX10_isAt V x1 x2 = some r) : CI l G B yX10_isAt (.code yX10_isAt cX10_isAt 3 (some .boolean)) 2 [.ref (G.2.2 22), .int x1, .int x2] V r V := by
  intro sz
  refine met_of (Qs := fun sz => QI G sz r V) hB (by decide) (Nat.le_of_ble_eq_true rfl) ?_ sz
  intro p e s m args below meth c ls E hw hl
  have hx := en_x E
  have hb := en_b E
  generalize hQ : MQ _ _ _ _ _ _ _ = Q
  have kr : Q = MQ below (QI G s.heap.size r V) args s 0 0 (gA G s.heap.size) := hQ.symm
  have hl : lv_has ls 3 [(0, .ref (G.2.2 22)), (1, .int x1), (2, .int x2)] := hl
  obtain ⟨H, eH⟩ : ∃ H, H = s.heap := ⟨_, rfl⟩
  obtain ⟨locs, elocs⟩ : ∃ z : List Loc, z = [] := ⟨_, rfl⟩
  have hw : HW G s.heap V H locs := by rw [eH, elocs]; exact hw
  show W p l e _ s m args below meth c s.heap [] 0 0 Q (F0 m 0 ls [])
  rw [← eH, ← elocs]
  unfold fX10_isAt at h
  refine lv_aload_n hx hb dX10_isAt_0 rfl (lv_at hl 0 rfl) ?_
  refine r_gi E hw 22 10 (N := 29) (C := RX10) (T := TX10) (by decide) rfl rfl (by decide) rfl iw_10 rfl lf_RX10_87 dX10_isAt_1 ?_
  refine lv_aload_n hx hb dX10_isAt_4 rfl (lv_at hl 0 rfl) ?_
  refine r_gi E hw 22 11 (N := 29) (C := RX10) (T := TX10) (by decide) rfl rfl (by decide) rfl iw_10 rfl lf_RX10_90 dX10_isAt_5 ?_
  refine lv_icmp_ge (tgt := 41) hx hb dX10_isAt_8 (by decide) (fun c9 => ?_) (fun c9 => ?_)
  · rw [if_pos c9] at h
    refine lv_iconst (v := (0 : Int32)) hx hb dX10_isAt_41 (by decide) ?_
    obtain ⟨z1, h⟩ := zo_some h
    have h := Option.some.inj h
    subst h
    rw [kr]
    exact r_rz E hw z1 dX10_isAt_42
  · rw [if_neg c9] at h
    refine lv_aload_n hx hb dX10_isAt_11 rfl (lv_at hl 0 rfl) ?_
    refine r_gr E hw 22 8 81 (N := 29) (C := RX10) (T := TX10) (by decide) rfl rfl (by decide) rfl iw_10 rfl lf_RX10_29 dX10_isAt_12 ?_
    refine lv_aload_n hx hb dX10_isAt_15 rfl (lv_at hl 0 rfl) ?_
    refine r_gi E hw 22 10 (N := 29) (C := RX10) (T := TX10) (by decide) rfl rfl (by decide) rfl iw_10 rfl lf_RX10_87 dX10_isAt_16 ?_
    obtain ⟨b2, h⟩ := rd_some h
    refine r_ba E hw 81 400 (by decide) (by decide) (by decide) rfl rfl b2 dX10_isAt_19 ?_
    refine lv_iload_n hx hb dX10_isAt_20 rfl (lv_at hl 1 rfl) ?_
    refine lv_icmp_lt (tgt := 41) hx hb dX10_isAt_21 (by decide) (fun c8 => ?_) (fun c8 => ?_)
    · rw [if_pos c8] at h
      refine lv_iconst (v := (0 : Int32)) hx hb dX10_isAt_41 (by decide) ?_
      obtain ⟨z3, h⟩ := zo_some h
      have h := Option.some.inj h
      subst h
      rw [kr]
      exact r_rz E hw z3 dX10_isAt_42
    · rw [if_neg c8] at h
      refine lv_aload_n hx hb dX10_isAt_24 rfl (lv_at hl 0 rfl) ?_
      refine r_gr E hw 22 8 81 (N := 29) (C := RX10) (T := TX10) (by decide) rfl rfl (by decide) rfl iw_10 rfl lf_RX10_29 dX10_isAt_25 ?_
      refine lv_aload_n hx hb dX10_isAt_28 rfl (lv_at hl 0 rfl) ?_
      refine r_gi E hw 22 10 (N := 29) (C := RX10) (T := TX10) (by decide) rfl rfl (by decide) rfl iw_10 rfl lf_RX10_87 dX10_isAt_29 ?_
      obtain ⟨b4, h⟩ := rd_some h
      refine r_ba E hw 81 400 (by decide) (by decide) (by decide) rfl rfl b4 dX10_isAt_32 ?_
      refine lv_iload_n hx hb dX10_isAt_33 rfl (lv_at hl 2 rfl) ?_
      refine lv_icmp_gt (tgt := 41) hx hb dX10_isAt_34 (by decide) (fun c7 => ?_) (fun c7 => ?_)
      · rw [if_pos c7] at h
        refine lv_iconst (v := (0 : Int32)) hx hb dX10_isAt_41 (by decide) ?_
        obtain ⟨z5, h⟩ := zo_some h
        have h := Option.some.inj h
        subst h
        rw [kr]
        exact r_rz E hw z5 dX10_isAt_42
      · rw [if_neg c7] at h
        refine lv_iconst (v := (1 : Int32)) hx hb dX10_isAt_37 (by decide) ?_
        refine lv_goto (tgt := 42) hx hb dX10_isAt_38 (by decide) ?_
        obtain ⟨z6, h⟩ := zo_some h
        have h := Option.some.inj h
        subst h
        rw [kr]
        exact r_rz E hw z6 dX10_isAt_42
/-! ===== AllSawItModel.blanks()V ===== -/
theorem dX10_blanks_0 : decode cX10_blanks 0 = .ok (.aload_n 0, 1) := by decide +kernel
theorem dX10_blanks_1 : decode cX10_blanks 1 = .ok (.bipush 32, 2) := by decide +kernel
theorem dX10_blanks_3 : decode cX10_blanks 3 = .ok (.bipush 32, 2) := by decide +kernel
theorem dX10_blanks_5 : decode cX10_blanks 5 = .ok (.invokevirtual 93, 3) := by decide +kernel
theorem dX10_blanks_8 : decode cX10_blanks 8 = .ok (.ifCond .eq 16, 3) := by decide +kernel
theorem dX10_blanks_11 : decode cX10_blanks 11 = .ok (.aload_n 0, 1) := by decide +kernel
theorem dX10_blanks_12 : decode cX10_blanks 12 = .ok (.dup, 1) := by decide +kernel
theorem dX10_blanks_13 : decode cX10_blanks 13 = .ok (.getfield 87, 3) := by decide +kernel
theorem dX10_blanks_16 : decode cX10_blanks 16 = .ok (.iconst 1, 1) := by decide +kernel
theorem dX10_blanks_17 : decode cX10_blanks 17 = .ok (.iadd, 1) := by decide +kernel
theorem dX10_blanks_18 : decode cX10_blanks 18 = .ok (.putfield 87, 3) := by decide +kernel
theorem dX10_blanks_21 : decode cX10_blanks 21 = .ok (.goto (-21), 3) := by decide +kernel
theorem dX10_blanks_24 : decode cX10_blanks 24 = .ok (.aload_n 0, 1) := by decide +kernel
theorem dX10_blanks_25 : decode cX10_blanks 25 = .ok (.aload_n 0, 1) := by decide +kernel
theorem dX10_blanks_26 : decode cX10_blanks 26 = .ok (.getfield 87, 3) := by decide +kernel
theorem dX10_blanks_29 : decode cX10_blanks 29 = .ok (.putfield 97, 3) := by decide +kernel
theorem dX10_blanks_32 : decode cX10_blanks 32 = .ok (.return_, 1) := by decide +kernel
noncomputable def fX10_blanks_L0 (V : VT) : Option (VT ⊕ VT) := ob_R (fX10_isAt V (32 : Int32) (32 : Int32)) fun y2 => if y2 = 0 then (lt_ (va_up V 22 (upd (V 22) 12 (V 22 10))) fun V3 => some (.inr (V3))) else (lt_ (va_up V 22 (upd (V 22) 10 ((V 22 10) + (1 : Int32)))) fun V4 => some (.inl V4))
noncomputable def iX10_blanks_L0 : VT → Option (VT ⊕ VT) := fun q => fX10_blanks_L0 (q)
noncomputable def fX10_blanks (V : VT) : Option VT := ob_R (it_ (iX10_blanks_L0) FV V) fun x7 => some x7
set_option maxHeartbeats 4000000 in
set_option maxRecDepth 100000 in
theorem wX10_blanks_L0 {p : Program} {l : Launch} {e : Env} {s : State} {m : MethodId} {args : Array Value} {below : List Frame} {meth : Method} {c : Code} {G : GT} {B : BGt} {Q : State → Prop} (E : En p s m args c meth cX10_blanks 1 RX10 none G B) {x : VT} (kr : ∀ q : VT, x = q → Q = MQ below (QV G s.heap.size q) args s 0 0 (gA G s.heap.size)) : ∀ (n : Nat) (q : VT), it_ (iX10_blanks_L0) n q = some x → ∀ (H : Heap) (locs : List Loc) (ls : Array Slot), HW G s.heap q H locs → lv_has ls 1 [(0, .ref (G.2.2 22))] → W p l e (rmD 3) s m args below meth c H locs 0 0 Q (F0 m 0 ls []) := by
  have hx := en_x E
  have hb := en_b E
  have hB := en_B E
  refine it_W (fun q : VT => ∀ (H : Heap) (locs : List Loc) (ls : Array Slot), HW G s.heap q H locs → lv_has ls 1 [(0, .ref (G.2.2 22))] → W p l e (rmD 3) s m args below meth c H locs 0 0 Q (F0 m 0 ls [])) x ?_
  intro q r h kc kx
  obtain ⟨V, rfl⟩ : ∃ z, z = q := ⟨_, rfl⟩
  intro H locs ls hw hl
  have h : fX10_blanks_L0 V = some r := h
  have hw : HW G s.heap V H locs := hw
  have hl : lv_has ls 1 [(0, .ref (G.2.2 22))] := hl
  have kr : ∀ q : VT, r = .inr (q) → Q = MQ below (QV G s.heap.size q) args s 0 0 (gA G s.heap.size) := fun q e => kr q (kx _ e).symm
  unfold fX10_blanks_L0 at h
  refine lv_aload_n hx hb dX10_blanks_0 rfl (lv_at hl 0 rfl) ?_
  refine lv_bipush (v := (32 : Int32)) hx hb dX10_blanks_1 (by decide) ?_
  refine lv_bipush (v := (32 : Int32)) hx hb dX10_blanks_3 (by decide) ?_
  obtain ⟨y2, h1, h⟩ := ob_R_some h
  refine c_VI E hw (kX10_isAt (l := l) (G := G) hB  h1) yy_X10_isAt lm_RX10_93 rfl (by decide) rfl rfl hl.1 (by decide) (by decide) rfl (Nat.le_of_ble_eq_true rfl) dX10_blanks_5 (fun H locs hw => ?_)
  refine lv_if_eq (tgt := 24) hx hb dX10_blanks_8 (by decide) (fun c5 => ?_) (fun c5 => ?_)
  · rw [if_pos c5] at h
    refine lv_aload_n hx hb dX10_blanks_24 rfl (lv_at hl 0 rfl) ?_
    refine lv_aload_n hx hb dX10_blanks_25 rfl (lv_at hl 0 rfl) ?_
    refine r_gi E hw 22 10 (N := 29) (C := RX10) (T := TX10) (by decide) rfl rfl (by decide) rfl iw_10 rfl lf_RX10_87 dX10_blanks_26 ?_
    obtain ⟨V3, eV3, h⟩ := lt_some h
    refine r_pi E hw 22 12 (N := 29) (C := RX10) (T := TX10) (ty0 := tyX10) (ty := .int) (by decide) rfl rfl (by decide) rfl iw_10 rfl tyX10_ok nmX10 rfl rfl (vp_nar_int _) rfl lf_RX10_97 eV3 dX10_blanks_29 (fun H locs hw => ?_)
    rw [kr V3 (Option.some.inj h).symm]
    exact r_rv E hw dX10_blanks_32
  · rw [if_neg c5] at h
    refine lv_aload_n hx hb dX10_blanks_11 rfl (lv_at hl 0 rfl) ?_
    refine lv_dup hx hb dX10_blanks_12 rfl ?_
    refine r_gi E hw 22 10 (N := 29) (C := RX10) (T := TX10) (by decide) rfl rfl (by decide) rfl iw_10 rfl lf_RX10_87 dX10_blanks_13 ?_
    refine lv_iconst (v := (1 : Int32)) hx hb dX10_blanks_16 (by decide) ?_
    refine lv_iadd hx hb dX10_blanks_17 ?_
    obtain ⟨V4, eV4, h⟩ := lt_some h
    refine r_pi E hw 22 10 (N := 29) (C := RX10) (T := TX10) (ty0 := tyX10) (ty := .int) (by decide) rfl rfl (by decide) rfl iw_10 rfl tyX10_ok nmX10 rfl rfl (vp_nar_int _) rfl lf_RX10_87 eV4 dX10_blanks_18 (fun H locs hw => ?_)
    refine lv_goto (tgt := 0) hx hb dX10_blanks_21 (by decide) ?_
    exact kc V4 (Option.some.inj h).symm H locs ls hw (lv_sub hl [0] rfl)
set_option maxHeartbeats 4000000 in
set_option maxRecDepth 100000 in
theorem kX10_blanks {l : Launch} {G : GT} {B : BGt} (hB : BGok B) {V : VT} {r : VT} (h : fX10_blanks V = some r) : CV l G B yX10_blanks (.code yX10_blanks cX10_blanks 1 none) 3 [.ref (G.2.2 22)] V r := by
  intro sz
  refine met_of (Qs := fun sz => QV G sz r) hB (by decide) (Nat.le_of_ble_eq_true rfl) ?_ sz
  intro p e s m args below meth c ls E hw hl
  have hx := en_x E
  have hb := en_b E
  generalize hQ : MQ _ _ _ _ _ _ _ = Q
  have kr : Q = MQ below (QV G s.heap.size r) args s 0 0 (gA G s.heap.size) := hQ.symm
  have hl : lv_has ls 1 [(0, .ref (G.2.2 22))] := hl
  obtain ⟨H, eH⟩ : ∃ H, H = s.heap := ⟨_, rfl⟩
  obtain ⟨locs, elocs⟩ : ∃ z : List Loc, z = [] := ⟨_, rfl⟩
  have hw : HW G s.heap V H locs := by rw [eH, elocs]; exact hw
  show W p l e _ s m args below meth c s.heap [] 0 0 Q (F0 m 0 ls [])
  rw [← eH, ← elocs]
  unfold fX10_blanks at h
  obtain ⟨x7, h6, h⟩ := ob_R_some h
  have h := Option.some.inj h
  subst h
  exact wX10_blanks_L0 E (fun q e => by subst e; exact kr) FV V h6 H locs ls hw (lv_sub hl [0] rfl)
/-! ===== AllSawItModel.letters()V ===== -/
theorem dX10_letters_0 : decode cX10_letters 0 = .ok (.aload_n 0, 1) := by decide +kernel
theorem dX10_letters_1 : decode cX10_letters 1 = .ok (.invokevirtual 100, 3) := by decide +kernel
theorem dX10_letters_4 : decode cX10_letters 4 = .ok (.aload_n 0, 1) := by decide +kernel
theorem dX10_letters_5 : decode cX10_letters 5 = .ok (.bipush 97, 2) := by decide +kernel
theorem dX10_letters_7 : decode cX10_letters 7 = .ok (.bipush 122, 2) := by decide +kernel
theorem dX10_letters_9 : decode cX10_letters 9 = .ok (.invokevirtual 93, 3) := by decide +kernel
theorem dX10_letters_12 : decode cX10_letters 12 = .ok (.ifCond .eq 16, 3) := by decide +kernel
theorem dX10_letters_15 : decode cX10_letters 15 = .ok (.aload_n 0, 1) := by decide +kernel
theorem dX10_letters_16 : decode cX10_letters 16 = .ok (.dup, 1) := by decide +kernel
theorem dX10_letters_17 : decode cX10_letters 17 = .ok (.getfield 87, 3) := by decide +kernel
theorem dX10_letters_20 : decode cX10_letters 20 = .ok (.iconst 1, 1) := by decide +kernel
theorem dX10_letters_21 : decode cX10_letters 21 = .ok (.iadd, 1) := by decide +kernel
theorem dX10_letters_22 : decode cX10_letters 22 = .ok (.putfield 87, 3) := by decide +kernel
theorem dX10_letters_25 : decode cX10_letters 25 = .ok (.goto (-21), 3) := by decide +kernel
theorem dX10_letters_28 : decode cX10_letters 28 = .ok (.return_, 1) := by decide +kernel
noncomputable def fX10_letters_L4 (V : VT) : Option (VT ⊕ VT) := ob_R (fX10_isAt V (97 : Int32) (122 : Int32)) fun y4 => if y4 = 0 then (some (.inr (V))) else (lt_ (va_up V 22 (upd (V 22) 10 ((V 22 10) + (1 : Int32)))) fun V5 => some (.inl V5))
noncomputable def iX10_letters_L4 : VT → Option (VT ⊕ VT) := fun q => fX10_letters_L4 (q)
noncomputable def fX10_letters (V : VT) : Option VT := ob_R (fX10_blanks V ) fun V2 => ob_R (it_ (iX10_letters_L4) FV V2) fun x8 => some x8
set_option maxHeartbeats 4000000 in
set_option maxRecDepth 100000 in
theorem wX10_letters_L4 {p : Program} {l : Launch} {e : Env} {s : State} {m : MethodId} {args : Array Value} {below : List Frame} {meth : Method} {c : Code} {G : GT} {B : BGt} {Q : State → Prop} (E : En p s m args c meth cX10_letters 1 RX10 none G B) {x : VT} (kr : ∀ q : VT, x = q → Q = MQ below (QV G s.heap.size q) args s 0 0 (gA G s.heap.size)) : ∀ (n : Nat) (q : VT), it_ (iX10_letters_L4) n q = some x → ∀ (H : Heap) (locs : List Loc) (ls : Array Slot), HW G s.heap q H locs → lv_has ls 1 [(0, .ref (G.2.2 22))] → W p l e (rmD 4) s m args below meth c H locs 0 0 Q (F0 m 4 ls []) := by
  have hx := en_x E
  have hb := en_b E
  have hB := en_B E
  refine it_W (fun q : VT => ∀ (H : Heap) (locs : List Loc) (ls : Array Slot), HW G s.heap q H locs → lv_has ls 1 [(0, .ref (G.2.2 22))] → W p l e (rmD 4) s m args below meth c H locs 0 0 Q (F0 m 4 ls [])) x ?_
  intro q r h kc kx
  obtain ⟨V, rfl⟩ : ∃ z, z = q := ⟨_, rfl⟩
  intro H locs ls hw hl
  have h : fX10_letters_L4 V = some r := h
  have hw : HW G s.heap V H locs := hw
  have hl : lv_has ls 1 [(0, .ref (G.2.2 22))] := hl
  have kr : ∀ q : VT, r = .inr (q) → Q = MQ below (QV G s.heap.size q) args s 0 0 (gA G s.heap.size) := fun q e => kr q (kx _ e).symm
  unfold fX10_letters_L4 at h
  refine lv_aload_n hx hb dX10_letters_4 rfl (lv_at hl 0 rfl) ?_
  refine lv_bipush (v := (97 : Int32)) hx hb dX10_letters_5 (by decide) ?_
  refine lv_bipush (v := (122 : Int32)) hx hb dX10_letters_7 (by decide) ?_
  obtain ⟨y4, h3, h⟩ := ob_R_some h
  refine c_VI E hw (kX10_isAt (l := l) (G := G) hB  h3) yy_X10_isAt lm_RX10_93 rfl (by decide) rfl rfl hl.1 (by decide) (by decide) rfl (Nat.le_of_ble_eq_true rfl) dX10_letters_9 (fun H locs hw => ?_)
  refine lv_if_eq (tgt := 28) hx hb dX10_letters_12 (by decide) (fun c6 => ?_) (fun c6 => ?_)
  · rw [if_pos c6] at h
    rw [kr V (Option.some.inj h).symm]
    exact r_rv E hw dX10_letters_28
  · rw [if_neg c6] at h
    refine lv_aload_n hx hb dX10_letters_15 rfl (lv_at hl 0 rfl) ?_
    refine lv_dup hx hb dX10_letters_16 rfl ?_
    refine r_gi E hw 22 10 (N := 29) (C := RX10) (T := TX10) (by decide) rfl rfl (by decide) rfl iw_10 rfl lf_RX10_87 dX10_letters_17 ?_
    refine lv_iconst (v := (1 : Int32)) hx hb dX10_letters_20 (by decide) ?_
    refine lv_iadd hx hb dX10_letters_21 ?_
    obtain ⟨V5, eV5, h⟩ := lt_some h
    refine r_pi E hw 22 10 (N := 29) (C := RX10) (T := TX10) (ty0 := tyX10) (ty := .int) (by decide) rfl rfl (by decide) rfl iw_10 rfl tyX10_ok nmX10 rfl rfl (vp_nar_int _) rfl lf_RX10_87 eV5 dX10_letters_22 (fun H locs hw => ?_)
    refine lv_goto (tgt := 4) hx hb dX10_letters_25 (by decide) ?_
    exact kc V5 (Option.some.inj h).symm H locs ls hw (lv_sub hl [0] rfl)
set_option maxHeartbeats 4000000 in
set_option maxRecDepth 100000 in
theorem kX10_letters {l : Launch} {G : GT} {B : BGt} (hB : BGok B) {V : VT} {r : VT} (h : fX10_letters V = some r) : CV l G B yX10_letters (.code yX10_letters cX10_letters 1 none) 4 [.ref (G.2.2 22)] V r := by
  intro sz
  refine met_of (Qs := fun sz => QV G sz r) hB (by decide) (Nat.le_of_ble_eq_true rfl) ?_ sz
  intro p e s m args below meth c ls E hw hl
  have hx := en_x E
  have hb := en_b E
  generalize hQ : MQ _ _ _ _ _ _ _ = Q
  have kr : Q = MQ below (QV G s.heap.size r) args s 0 0 (gA G s.heap.size) := hQ.symm
  have hl : lv_has ls 1 [(0, .ref (G.2.2 22))] := hl
  obtain ⟨H, eH⟩ : ∃ H, H = s.heap := ⟨_, rfl⟩
  obtain ⟨locs, elocs⟩ : ∃ z : List Loc, z = [] := ⟨_, rfl⟩
  have hw : HW G s.heap V H locs := by rw [eH, elocs]; exact hw
  show W p l e _ s m args below meth c s.heap [] 0 0 Q (F0 m 0 ls [])
  rw [← eH, ← elocs]
  unfold fX10_letters at h
  refine lv_aload_n hx hb dX10_letters_0 rfl (lv_at hl 0 rfl) ?_
  obtain ⟨V2, h1, h⟩ := ob_R_some h
  refine c_VV E hw (kX10_blanks (l := l) (G := G) hB  h1) yy_X10_blanks lm_RX10_100 rfl (by decide) rfl rfl hl.1 (by decide) (by decide) rfl (Nat.le_of_ble_eq_true rfl) dX10_letters_1 (fun H locs hw => ?_)
  obtain ⟨x8, h7, h⟩ := ob_R_some h
  have h := Option.some.inj h
  subst h
  exact wX10_letters_L4 E (fun q e => by subst e; exact kr) FV V2 h7 H locs ls hw (lv_sub hl [0] rfl)
/-! ===== AllSawItModel.sign(I)Z ===== -/
theorem dX10_sign_0 : decode cX10_sign 0 = .ok (.aload_n 0, 1) := by decide +kernel
theorem dX10_sign_1 : decode cX10_sign 1 = .ok (.invokevirtual 100, 3) := by decide +kernel
theorem dX10_sign_4 : decode cX10_sign 4 = .ok (.aload_n 0, 1) := by decide +kernel
theorem dX10_sign_5 : decode cX10_sign 5 = .ok (.iload_n 1, 1) := by decide +kernel
theorem dX10_sign_6 : decode cX10_sign 6 = .ok (.iload_n 1, 1) := by decide +kernel
theorem dX10_sign_7 : decode cX10_sign 7 = .ok (.invokevirtual 93, 3) := by decide +kernel
theorem dX10_sign_10 : decode cX10_sign 10 = .ok (.ifCond .ne 5, 3) := by decide +kernel
theorem dX10_sign_13 : decode cX10_sign 13 = .ok (.iconst 0, 1) := by decide +kernel
theorem dX10_sign_14 : decode cX10_sign 14 = .ok (.ireturn, 1) := by decide +kernel
theorem dX10_sign_15 : decode cX10_sign 15 = .ok (.aload_n 0, 1) := by decide +kernel
theorem dX10_sign_16 : decode cX10_sign 16 = .ok (.dup, 1) := by decide +kernel
theorem dX10_sign_17 : decode cX10_sign 17 = .ok (.getfield 87, 3) := by decide +kernel
theorem dX10_sign_20 : decode cX10_sign 20 = .ok (.iconst 1, 1) := by decide +kernel
theorem dX10_sign_21 : decode cX10_sign 21 = .ok (.iadd, 1) := by decide +kernel
theorem dX10_sign_22 : decode cX10_sign 22 = .ok (.putfield 87, 3) := by decide +kernel
theorem dX10_sign_25 : decode cX10_sign 25 = .ok (.iconst 1, 1) := by decide +kernel
theorem dX10_sign_26 : decode cX10_sign 26 = .ok (.ireturn, 1) := by decide +kernel
noncomputable def fX10_sign (V : VT) (x1 : Int32) : Option (Int32 × VT) := ob_R (fX10_blanks V ) fun V2 => ob_R (fX10_isAt V2 x1 x1) fun y4 => if y4 = 0 then (zo_ (0 : Int32) (some ((0 : Int32), V2))) else (lt_ (va_up V2 22 (upd (V2 22) 10 ((V2 22 10) + (1 : Int32)))) fun V5 => zo_ (1 : Int32) (some ((1 : Int32), V5)))
set_option maxHeartbeats 4000000 in
set_option maxRecDepth 100000 in
theorem kX10_sign {l : Launch} {G : GT} {B : BGt} (hB : BGok B) {V : VT} {x1 : Int32} {r : (Int32 × VT)} (h : fX10_sign V x1 = some r) : CI l G B yX10_sign (.code yX10_sign cX10_sign 2 (some .boolean)) 4 [.ref (G.2.2 22), .int x1] V r.1 r.2 := by
  intro sz
  refine met_of (Qs := fun sz => QI G sz (r.1) (r.2)) hB (by decide) (Nat.le_of_ble_eq_true rfl) ?_ sz
  intro p e s m args below meth c ls E hw hl
  have hx := en_x E
  have hb := en_b E
  generalize hQ : MQ _ _ _ _ _ _ _ = Q
  have kr : Q = MQ below (QI G s.heap.size r.1 r.2) args s 0 0 (gA G s.heap.size) := hQ.symm
  have hl : lv_has ls 2 [(0, .ref (G.2.2 22)), (1, .int x1)] := hl
  obtain ⟨H, eH⟩ : ∃ H, H = s.heap := ⟨_, rfl⟩
  obtain ⟨locs, elocs⟩ : ∃ z : List Loc, z = [] := ⟨_, rfl⟩
  have hw : HW G s.heap V H locs := by rw [eH, elocs]; exact hw
  show W p l e _ s m args below meth c s.heap [] 0 0 Q (F0 m 0 ls [])
  rw [← eH, ← elocs]
  unfold fX10_sign at h
  refine lv_aload_n hx hb dX10_sign_0 rfl (lv_at hl 0 rfl) ?_
  obtain ⟨V2, h1, h⟩ := ob_R_some h
  refine c_VV E hw (kX10_blanks (l := l) (G := G) hB  h1) yy_X10_blanks lm_RX10_100 rfl (by decide) rfl rfl hl.1 (by decide) (by decide) rfl (Nat.le_of_ble_eq_true rfl) dX10_sign_1 (fun H locs hw => ?_)
  refine lv_aload_n hx hb dX10_sign_4 rfl (lv_at hl 0 rfl) ?_
  refine lv_iload_n hx hb dX10_sign_5 rfl (lv_at hl 1 rfl) ?_
  refine lv_iload_n hx hb dX10_sign_6 rfl (lv_at hl 1 rfl) ?_
  obtain ⟨y4, h3, h⟩ := ob_R_some h
  refine c_VI E hw (kX10_isAt (l := l) (G := G) hB  h3) yy_X10_isAt lm_RX10_93 rfl (by decide) rfl rfl hl.1 (by decide) (by decide) rfl (Nat.le_of_ble_eq_true rfl) dX10_sign_7 (fun H locs hw => ?_)
  refine lv_if_ne (tgt := 15) hx hb dX10_sign_10 (by decide) (fun c8 => ?_) (fun c8 => ?_)
  · rw [if_neg c8] at h
    refine lv_aload_n hx hb dX10_sign_15 rfl (lv_at hl 0 rfl) ?_
    refine lv_dup hx hb dX10_sign_16 rfl ?_
    refine r_gi E hw 22 10 (N := 29) (C := RX10) (T := TX10) (by decide) rfl rfl (by decide) rfl iw_10 rfl lf_RX10_87 dX10_sign_17 ?_
    refine lv_iconst (v := (1 : Int32)) hx hb dX10_sign_20 (by decide) ?_
    refine lv_iadd hx hb dX10_sign_21 ?_
    obtain ⟨V5, eV5, h⟩ := lt_some h
    refine r_pi E hw 22 10 (N := 29) (C := RX10) (T := TX10) (ty0 := tyX10) (ty := .int) (by decide) rfl rfl (by decide) rfl iw_10 rfl tyX10_ok nmX10 rfl rfl (vp_nar_int _) rfl lf_RX10_87 eV5 dX10_sign_22 (fun H locs hw => ?_)
    refine lv_iconst (v := (1 : Int32)) hx hb dX10_sign_25 (by decide) ?_
    obtain ⟨z6, h⟩ := zo_some h
    have h := Option.some.inj h
    subst h
    rw [kr]
    exact r_rz E hw z6 dX10_sign_26
  · rw [if_pos c8] at h
    refine lv_iconst (v := (0 : Int32)) hx hb dX10_sign_13 (by decide) ?_
    obtain ⟨z7, h⟩ := zo_some h
    have h := Option.some.inj h
    subst h
    rw [kr]
    exact r_rz E hw z7 dX10_sign_14
/-! ===== AllSawItModel.number(II)I ===== -/
theorem dX10_number_0 : decode cX10_number 0 = .ok (.aload_n 0, 1) := by decide +kernel
theorem dX10_number_1 : decode cX10_number 1 = .ok (.invokevirtual 100, 3) := by decide +kernel
theorem dX10_number_4 : decode cX10_number 4 = .ok (.iconst 0, 1) := by decide +kernel
theorem dX10_number_5 : decode cX10_number 5 = .ok (.istore_n 3, 1) := by decide +kernel
theorem dX10_number_6 : decode cX10_number 6 = .ok (.aload_n 0, 1) := by decide +kernel
theorem dX10_number_7 : decode cX10_number 7 = .ok (.bipush 48, 2) := by decide +kernel
theorem dX10_number_9 : decode cX10_number 9 = .ok (.bipush 57, 2) := by decide +kernel
theorem dX10_number_11 : decode cX10_number 11 = .ok (.invokevirtual 93, 3) := by decide +kernel
theorem dX10_number_14 : decode cX10_number 14 = .ok (.ifCond .eq 51, 3) := by decide +kernel
theorem dX10_number_17 : decode cX10_number 17 = .ok (.aload_n 0, 1) := by decide +kernel
theorem dX10_number_18 : decode cX10_number 18 = .ok (.getfield 87, 3) := by decide +kernel
theorem dX10_number_21 : decode cX10_number 21 = .ok (.aload_n 0, 1) := by decide +kernel
theorem dX10_number_22 : decode cX10_number 22 = .ok (.getfield 97, 3) := by decide +kernel
theorem dX10_number_25 : decode cX10_number 25 = .ok (.isub, 1) := by decide +kernel
theorem dX10_number_26 : decode cX10_number 26 = .ok (.iconst 3, 1) := by decide +kernel
theorem dX10_number_27 : decode cX10_number 27 = .ok (.if_icmp .ge 23, 3) := by decide +kernel
theorem dX10_number_30 : decode cX10_number 30 = .ok (.bipush 10, 2) := by decide +kernel
theorem dX10_number_32 : decode cX10_number 32 = .ok (.iload_n 3, 1) := by decide +kernel
theorem dX10_number_33 : decode cX10_number 33 = .ok (.imul, 1) := by decide +kernel
theorem dX10_number_34 : decode cX10_number 34 = .ok (.aload_n 0, 1) := by decide +kernel
theorem dX10_number_35 : decode cX10_number 35 = .ok (.getfield 29, 3) := by decide +kernel
theorem dX10_number_38 : decode cX10_number 38 = .ok (.aload_n 0, 1) := by decide +kernel
theorem dX10_number_39 : decode cX10_number 39 = .ok (.getfield 87, 3) := by decide +kernel
theorem dX10_number_42 : decode cX10_number 42 = .ok (.baload, 1) := by decide +kernel
theorem dX10_number_43 : decode cX10_number 43 = .ok (.iadd, 1) := by decide +kernel
theorem dX10_number_44 : decode cX10_number 44 = .ok (.bipush 48, 2) := by decide +kernel
theorem dX10_number_46 : decode cX10_number 46 = .ok (.isub, 1) := by decide +kernel
theorem dX10_number_47 : decode cX10_number 47 = .ok (.goto 4, 3) := by decide +kernel
theorem dX10_number_50 : decode cX10_number 50 = .ok (.iload_n 3, 1) := by decide +kernel
theorem dX10_number_51 : decode cX10_number 51 = .ok (.istore_n 3, 1) := by decide +kernel
theorem dX10_number_52 : decode cX10_number 52 = .ok (.aload_n 0, 1) := by decide +kernel
theorem dX10_number_53 : decode cX10_number 53 = .ok (.dup, 1) := by decide +kernel
theorem dX10_number_54 : decode cX10_number 54 = .ok (.getfield 87, 3) := by decide +kernel
theorem dX10_number_57 : decode cX10_number 57 = .ok (.iconst 1, 1) := by decide +kernel
theorem dX10_number_58 : decode cX10_number 58 = .ok (.iadd, 1) := by decide +kernel
theorem dX10_number_59 : decode cX10_number 59 = .ok (.putfield 87, 3) := by decide +kernel
theorem dX10_number_62 : decode cX10_number 62 = .ok (.goto (-56), 3) := by decide +kernel
theorem dX10_number_65 : decode cX10_number 65 = .ok (.aload_n 0, 1) := by decide +kernel
theorem dX10_number_66 : decode cX10_number 66 = .ok (.getfield 87, 3) := by decide +kernel
theorem dX10_number_69 : decode cX10_number 69 = .ok (.aload_n 0, 1) := by decide +kernel
theorem dX10_number_70 : decode cX10_number 70 = .ok (.getfield 97, 3) := by decide +kernel
theorem dX10_number_73 : decode cX10_number 73 = .ok (.if_icmp .eq 26, 3) := by decide +kernel
theorem dX10_number_76 : decode cX10_number 76 = .ok (.aload_n 0, 1) := by decide +kernel
theorem dX10_number_77 : decode cX10_number 77 = .ok (.getfield 87, 3) := by decide +kernel
theorem dX10_number_80 : decode cX10_number 80 = .ok (.aload_n 0, 1) := by decide +kernel
theorem dX10_number_81 : decode cX10_number 81 = .ok (.getfield 97, 3) := by decide +kernel
theorem dX10_number_84 : decode cX10_number 84 = .ok (.isub, 1) := by decide +kernel
theorem dX10_number_85 : decode cX10_number 85 = .ok (.iconst 3, 1) := by decide +kernel
theorem dX10_number_86 : decode cX10_number 86 = .ok (.if_icmp .gt 13, 3) := by decide +kernel
theorem dX10_number_89 : decode cX10_number 89 = .ok (.iload_n 3, 1) := by decide +kernel
theorem dX10_number_90 : decode cX10_number 90 = .ok (.iload_n 1, 1) := by decide +kernel
theorem dX10_number_91 : decode cX10_number 91 = .ok (.if_icmp .lt 8, 3) := by decide +kernel
theorem dX10_number_94 : decode cX10_number 94 = .ok (.iload_n 3, 1) := by decide +kernel
theorem dX10_number_95 : decode cX10_number 95 = .ok (.iload_n 2, 1) := by decide +kernel
theorem dX10_number_96 : decode cX10_number 96 = .ok (.if_icmp .le 7, 3) := by decide +kernel
theorem dX10_number_99 : decode cX10_number 99 = .ok (.iconst (-1), 1) := by decide +kernel
theorem dX10_number_100 : decode cX10_number 100 = .ok (.goto 4, 3) := by decide +kernel
theorem dX10_number_103 : decode cX10_number 103 = .ok (.iload_n 3, 1) := by decide +kernel
theorem dX10_number_104 : decode cX10_number 104 = .ok (.ireturn, 1) := by decide +kernel
noncomputable def fX10_number_j51_6 (V : VT) (u1 : Int32) (u2 : Int32) (t0 : Int32) : Option ((VT × Int32 × Int32 × Int32) ⊕ (VT × Int32 × Int32 × Int32)) := lt_ (va_up V 22 (upd (V 22) 10 ((V 22 10) + (1 : Int32)))) fun V5 => some (.inl (V5, u1, u2, t0))
noncomputable def fX10_number_L6 (V : VT) (u1 : Int32) (u2 : Int32) (u3 : Int32) : Option ((VT × Int32 × Int32 × Int32) ⊕ (VT × Int32 × Int32 × Int32)) := ob_R (fX10_isAt V (48 : Int32) (57 : Int32)) fun y4 => if y4 = 0 then (some (.inr ((V, u1, u2, u3)))) else (if (3 : Int32) ≤ ((V 22 10) - (V 22 12)) then (fX10_number_j51_6 V u1 u2 u3) else (rd_ (V 22 10) 400 (fX10_number_j51_6 V u1 u2 ((((10 : Int32) * u3) + (V 81 (V 22 10).toNatClampNeg)) - (48 : Int32)))))
noncomputable def iX10_number_L6 : (VT × Int32 × Int32 × Int32) → Option ((VT × Int32 × Int32 × Int32) ⊕ (VT × Int32 × Int32 × Int32)) := fun q => fX10_number_L6 (q.1) (q.2.1) (q.2.2.1) (q.2.2.2)
noncomputable def fX10_number (V : VT) (x1 : Int32) (x2 : Int32) : Option (Int32 × VT) := ob_R (fX10_blanks V ) fun V2 => ob_R (it_ (iX10_number_L6) FV (V2, x1, x2, (0 : Int32))) fun x10 => (dt4_ x10 fun V14 y11 y12 y13 => if (V14 22 10) = (V14 22 12) then (some ((-1 : Int32), V14)) else (if (3 : Int32) < ((V14 22 10) - (V14 22 12)) then (some ((-1 : Int32), V14)) else (if y13 < y11 then (some ((-1 : Int32), V14)) else (if y13 ≤ y12 then (some (y13, V14)) else (some ((-1 : Int32), V14))))))
set_option maxHeartbeats 4000000 in
set_option maxRecDepth 100000 in
theorem wX10_number_j51_6 {p : Program} {l : Launch} {e : Env} {s : State} {m : MethodId} {args : Array Value} {below : List Frame} {meth : Method} {c : Code} {G : GT} {B : BGt} {Q : State → Prop} (E : En p s m args c meth cX10_number 4 RX10 (some .int) G B) {V : VT} {u1 : Int32} {u2 : Int32} {t0 : Int32} {r : ((VT × Int32 × Int32 × Int32) ⊕ (VT × Int32 × Int32 × Int32))} (h : fX10_number_j51_6 V u1 u2 t0 = some r) (kc : ∀ q : (VT × Int32 × Int32 × Int32), r = .inl q → ∀ (H : Heap) (locs : List Loc) (ls : Array Slot), HW G s.heap (q.1) H locs → lv_has ls 4 [(0, .ref (G.2.2 22)), (1, .int (q.2.1)), (2, .int (q.2.2.1)), (3, .int (q.2.2.2))] → W p l e (rmD 4) s m args below meth c H locs 0 0 Q (F0 m 6 ls [])) (ke : ∀ q : (VT × Int32 × Int32 × Int32), r = .inr (q) → ∀ (H : Heap) (locs : List Loc) (ls : Array Slot), HW G s.heap (q.1) H locs → lv_has ls 4 [(0, .ref (G.2.2 22)), (1, .int (q.2.1)), (2, .int (q.2.2.1)), (3, .int (q.2.2.2))] → W p l e (rmD 4) s m args below meth c H locs 0 0 Q (F0 m 65 ls [])) {H : Heap} {locs : List Loc} {ls : Array Slot} (hw : HW G s.heap V H locs) (hl : lv_has ls 4 [(0, .ref (G.2.2 22)), (1, .int u1), (2, .int u2)]) : W p l e (rmD 4) s m args below meth c H locs 0 0 Q (F0 m 51 ls [.int t0]) := by
  have hx := en_x E
  have hb := en_b E
  have hB := en_B E
  unfold fX10_number_j51_6 at h
  refine lv_istore_n (lv' := [(3, .int t0), (0, .ref (G.2.2 22)), (1, .int u1), (2, .int u2)]) hx hb dX10_number_51 rfl hl (by decide) rfl (fun ls hl => ?_)
  refine lv_aload_n hx hb dX10_number_52 rfl (lv_at hl 1 rfl) ?_
  refine lv_dup hx hb dX10_number_53 rfl ?_
  refine r_gi E hw 22 10 (N := 29) (C := RX10) (T := TX10) (by decide) rfl rfl (by decide) rfl iw_10 rfl lf_RX10_87 dX10_number_54 ?_
  refine lv_iconst (v := (1 : Int32)) hx hb dX10_number_57 (by decide) ?_
  refine lv_iadd hx hb dX10_number_58 ?_
  obtain ⟨V5, eV5, h⟩ := lt_some h
  refine r_pi E hw 22 10 (N := 29) (C := RX10) (T := TX10) (ty0 := tyX10) (ty := .int) (by decide) rfl rfl (by decide) rfl iw_10 rfl tyX10_ok nmX10 rfl rfl (vp_nar_int _) rfl lf_RX10_87 eV5 dX10_number_59 (fun H locs hw => ?_)
  refine lv_goto (tgt := 6) hx hb dX10_number_62 (by decide) ?_
  exact kc (V5, u1, u2, t0) (Option.some.inj h).symm H locs ls hw (lv_sub hl [1, 2, 3, 0] rfl)
set_option maxHeartbeats 4000000 in
set_option maxRecDepth 100000 in
theorem wX10_number_L6 {p : Program} {l : Launch} {e : Env} {s : State} {m : MethodId} {args : Array Value} {below : List Frame} {meth : Method} {c : Code} {G : GT} {B : BGt} {Q : State → Prop} (E : En p s m args c meth cX10_number 4 RX10 (some .int) G B) {x : (VT × Int32 × Int32 × Int32)} (ke : ∀ q : (VT × Int32 × Int32 × Int32), x = q → ∀ (H : Heap) (locs : List Loc) (ls : Array Slot), HW G s.heap (q.1) H locs → lv_has ls 4 [(0, .ref (G.2.2 22)), (1, .int (q.2.1)), (2, .int (q.2.2.1)), (3, .int (q.2.2.2))] → W p l e (rmD 4) s m args below meth c H locs 0 0 Q (F0 m 65 ls [])) : ∀ (n : Nat) (q : (VT × Int32 × Int32 × Int32)), it_ (iX10_number_L6) n q = some x → ∀ (H : Heap) (locs : List Loc) (ls : Array Slot), HW G s.heap (q.1) H locs → lv_has ls 4 [(0, .ref (G.2.2 22)), (1, .int (q.2.1)), (2, .int (q.2.2.1)), (3, .int (q.2.2.2))] → W p l e (rmD 4) s m args below meth c H locs 0 0 Q (F0 m 6 ls []) := by
  have hx := en_x E
  have hb := en_b E
  have hB := en_B E
  refine it_W (fun q : (VT × Int32 × Int32 × Int32) => ∀ (H : Heap) (locs : List Loc) (ls : Array Slot), HW G s.heap (q.1) H locs → lv_has ls 4 [(0, .ref (G.2.2 22)), (1, .int (q.2.1)), (2, .int (q.2.2.1)), (3, .int (q.2.2.2))] → W p l e (rmD 4) s m args below meth c H locs 0 0 Q (F0 m 6 ls [])) x ?_
  intro q r h kc kx
  obtain ⟨V, u1, u2, u3⟩ := q
  intro H locs ls hw hl
  have h : fX10_number_L6 V u1 u2 u3 = some r := h
  have hw : HW G s.heap V H locs := hw
  have hl : lv_has ls 4 [(0, .ref (G.2.2 22)), (1, .int u1), (2, .int u2), (3, .int u3)] := hl
  have ke : ∀ q : (VT × Int32 × Int32 × Int32), r = .inr (q) → ∀ (H : Heap) (locs : List Loc) (ls : Array Slot), HW G s.heap (q.1) H locs → lv_has ls 4 [(0, .ref (G.2.2 22)), (1, .int (q.2.1)), (2, .int (q.2.2.1)), (3, .int (q.2.2.2))] → W p l e (rmD 4) s m args below meth c H locs 0 0 Q (F0 m 65 ls []) := fun q e => ke q (kx _ e).symm
  unfold fX10_number_L6 at h
  refine lv_aload_n hx hb dX10_number_6 rfl (lv_at hl 0 rfl) ?_
  refine lv_bipush (v := (48 : Int32)) hx hb dX10_number_7 (by decide) ?_
  refine lv_bipush (v := (57 : Int32)) hx hb dX10_number_9 (by decide) ?_
  obtain ⟨y4, h3, h⟩ := ob_R_some h
  refine c_VI E hw (kX10_isAt (l := l) (G := G) hB  h3) yy_X10_isAt lm_RX10_93 rfl (by decide) rfl rfl hl.1 (by decide) (by decide) rfl (Nat.le_of_ble_eq_true rfl) dX10_number_11 (fun H locs hw => ?_)
  refine lv_if_eq (tgt := 65) hx hb dX10_number_14 (by decide) (fun c8 => ?_) (fun c8 => ?_)
  · rw [if_pos c8] at h
    exact ke (V, u1, u2, u3) (Option.some.inj h).symm H locs ls hw (lv_sub hl [0, 1, 2, 3] rfl)
  · rw [if_neg c8] at h
    refine lv_aload_n hx hb dX10_number_17 rfl (lv_at hl 0 rfl) ?_
    refine r_gi E hw 22 10 (N := 29) (C := RX10) (T := TX10) (by decide) rfl rfl (by decide) rfl iw_10 rfl lf_RX10_87 dX10_number_18 ?_
    refine lv_aload_n hx hb dX10_number_21 rfl (lv_at hl 0 rfl) ?_
    refine r_gi E hw 22 12 (N := 29) (C := RX10) (T := TX10) (by decide) rfl rfl (by decide) rfl iw_10 rfl lf_RX10_97 dX10_number_22 ?_
    refine lv_isub hx hb dX10_number_25 ?_
    refine lv_iconst (v := (3 : Int32)) hx hb dX10_number_26 (by decide) ?_
    refine lv_icmp_ge (tgt := 50) hx hb dX10_number_27 (by decide) (fun c7 => ?_) (fun c7 => ?_)
    · rw [if_pos c7] at h
      refine lv_iload_n hx hb dX10_number_50 rfl (lv_at hl 3 rfl) ?_
      exact wX10_number_j51_6 E h kc ke hw (lv_sub hl [0, 1, 2] rfl)
    · rw [if_neg c7] at h
      refine lv_bipush (v := (10 : Int32)) hx hb dX10_number_30 (by decide) ?_
      refine lv_iload_n hx hb dX10_number_32 rfl (lv_at hl 3 rfl) ?_
      refine lv_imul hx hb dX10_number_33 ?_
      refine lv_aload_n hx hb dX10_number_34 rfl (lv_at hl 0 rfl) ?_
      refine r_gr E hw 22 8 81 (N := 29) (C := RX10) (T := TX10) (by decide) rfl rfl (by decide) rfl iw_10 rfl lf_RX10_29 dX10_number_35 ?_
      refine lv_aload_n hx hb dX10_number_38 rfl (lv_at hl 0 rfl) ?_
      refine r_gi E hw 22 10 (N := 29) (C := RX10) (T := TX10) (by decide) rfl rfl (by decide) rfl iw_10 rfl lf_RX10_87 dX10_number_39 ?_
      obtain ⟨b6, h⟩ := rd_some h
      refine r_ba E hw 81 400 (by decide) (by decide) (by decide) rfl rfl b6 dX10_number_42 ?_
      refine lv_iadd hx hb dX10_number_43 ?_
      refine lv_bipush (v := (48 : Int32)) hx hb dX10_number_44 (by decide) ?_
      refine lv_isub hx hb dX10_number_46 ?_
      refine lv_goto (tgt := 51) hx hb dX10_number_47 (by decide) ?_
      exact wX10_number_j51_6 E h kc ke hw (lv_sub hl [0, 1, 2] rfl)
set_option maxHeartbeats 4000000 in
set_option maxRecDepth 100000 in
theorem kX10_number {l : Launch} {G : GT} {B : BGt} (hB : BGok B) {V : VT} {x1 : Int32} {x2 : Int32} {r : (Int32 × VT)} (h : fX10_number V x1 x2 = some r) : CI l G B yX10_number (.code yX10_number cX10_number 4 (some .int)) 4 [.ref (G.2.2 22), .int x1, .int x2] V r.1 r.2 := by
  intro sz
  refine met_of (Qs := fun sz => QI G sz (r.1) (r.2)) hB (by decide) (Nat.le_of_ble_eq_true rfl) ?_ sz
  intro p e s m args below meth c ls E hw hl
  have hx := en_x E
  have hb := en_b E
  generalize hQ : MQ _ _ _ _ _ _ _ = Q
  have kr : Q = MQ below (QI G s.heap.size r.1 r.2) args s 0 0 (gA G s.heap.size) := hQ.symm
  have hl : lv_has ls 4 [(0, .ref (G.2.2 22)), (1, .int x1), (2, .int x2)] := hl
  obtain ⟨H, eH⟩ : ∃ H, H = s.heap := ⟨_, rfl⟩
  obtain ⟨locs, elocs⟩ : ∃ z : List Loc, z = [] := ⟨_, rfl⟩
  have hw : HW G s.heap V H locs := by rw [eH, elocs]; exact hw
  show W p l e _ s m args below meth c s.heap [] 0 0 Q (F0 m 0 ls [])
  rw [← eH, ← elocs]
  unfold fX10_number at h
  refine lv_aload_n hx hb dX10_number_0 rfl (lv_at hl 0 rfl) ?_
  obtain ⟨V2, h1, h⟩ := ob_R_some h
  refine c_VV E hw (kX10_blanks (l := l) (G := G) hB  h1) yy_X10_blanks lm_RX10_100 rfl (by decide) rfl rfl hl.1 (by decide) (by decide) rfl (Nat.le_of_ble_eq_true rfl) dX10_number_1 (fun H locs hw => ?_)
  refine lv_iconst (v := (0 : Int32)) hx hb dX10_number_4 (by decide) ?_
  refine lv_istore_n (lv' := [(3, .int (0 : Int32)), (0, .ref (G.2.2 22)), (1, .int x1), (2, .int x2)]) hx hb dX10_number_5 rfl hl (by decide) rfl (fun ls hl => ?_)
  obtain ⟨x10, h9, h⟩ := ob_R_some h
  obtain ⟨V14, y11, y12, y13⟩ := x10
  refine wX10_number_L6 E (fun q e H locs ls hw hl => ?_) FV (V2, x1, x2, (0 : Int32)) h9 H locs ls hw (lv_sub hl [1, 2, 3, 0] rfl)
  subst e
  have hw : HW G s.heap V14 H locs := hw
  have hl : lv_has ls 4 [(0, .ref (G.2.2 22)), (1, .int y11), (2, .int y12), (3, .int y13)] := hl
  have h := dt4_eq h
  refine lv_aload_n hx hb dX10_number_65 rfl (lv_at hl 0 rfl) ?_
  refine r_gi E hw 22 10 (N := 29) (C := RX10) (T := TX10) (by decide) rfl rfl (by decide) rfl iw_10 rfl lf_RX10_87 dX10_number_66 ?_
  refine lv_aload_n hx hb dX10_number_69 rfl (lv_at hl 0 rfl) ?_
  refine r_gi E hw 22 12 (N := 29) (C := RX10) (T := TX10) (by decide) rfl rfl (by decide) rfl iw_10 rfl lf_RX10_97 dX10_number_70 ?_
  refine lv_icmp_eq (tgt := 99) hx hb dX10_number_73 (by decide) (fun c18 => ?_) (fun c18 => ?_)
  · rw [if_pos c18] at h
    refine lv_iconst (v := (-1 : Int32)) hx hb dX10_number_99 (by decide) ?_
    refine lv_goto (tgt := 104) hx hb dX10_number_100 (by decide) ?_
    have h := Option.some.inj h
    subst h
    rw [kr]
    exact r_ri E hw dX10_number_104
  · rw [if_neg c18] at h
    refine lv_aload_n hx hb dX10_number_76 rfl (lv_at hl 0 rfl) ?_
    refine r_gi E hw 22 10 (N := 29) (C := RX10) (T := TX10) (by decide) rfl rfl (by decide) rfl iw_10 rfl lf_RX10_87 dX10_number_77 ?_
    refine lv_aload_n hx hb dX10_number_80 rfl (lv_at hl 0 rfl) ?_
    refine r_gi E hw 22 12 (N := 29) (C := RX10) (T := TX10) (by decide) rfl rfl (by decide) rfl iw_10 rfl lf_RX10_97 dX10_number_81 ?_
    refine lv_isub hx hb dX10_number_84 ?_
    refine lv_iconst (v := (3 : Int32)) hx hb dX10_number_85 (by decide) ?_
    refine lv_icmp_gt (tgt := 99) hx hb dX10_number_86 (by decide) (fun c17 => ?_) (fun c17 => ?_)
    · rw [if_pos c17] at h
      refine lv_iconst (v := (-1 : Int32)) hx hb dX10_number_99 (by decide) ?_
      refine lv_goto (tgt := 104) hx hb dX10_number_100 (by decide) ?_
      have h := Option.some.inj h
      subst h
      rw [kr]
      exact r_ri E hw dX10_number_104
    · rw [if_neg c17] at h
      refine lv_iload_n hx hb dX10_number_89 rfl (lv_at hl 3 rfl) ?_
      refine lv_iload_n hx hb dX10_number_90 rfl (lv_at hl 1 rfl) ?_
      refine lv_icmp_lt (tgt := 99) hx hb dX10_number_91 (by decide) (fun c16 => ?_) (fun c16 => ?_)
      · rw [if_pos c16] at h
        refine lv_iconst (v := (-1 : Int32)) hx hb dX10_number_99 (by decide) ?_
        refine lv_goto (tgt := 104) hx hb dX10_number_100 (by decide) ?_
        have h := Option.some.inj h
        subst h
        rw [kr]
        exact r_ri E hw dX10_number_104
      · rw [if_neg c16] at h
        refine lv_iload_n hx hb dX10_number_94 rfl (lv_at hl 3 rfl) ?_
        refine lv_iload_n hx hb dX10_number_95 rfl (lv_at hl 2 rfl) ?_
        refine lv_icmp_le (tgt := 103) hx hb dX10_number_96 (by decide) (fun c15 => ?_) (fun c15 => ?_)
        · rw [if_pos c15] at h
          refine lv_iload_n hx hb dX10_number_103 rfl (lv_at hl 3 rfl) ?_
          have h := Option.some.inj h
          subst h
          rw [kr]
          exact r_ri E hw dX10_number_104
        · rw [if_neg c15] at h
          refine lv_iconst (v := (-1 : Int32)) hx hb dX10_number_99 (by decide) ?_
          refine lv_goto (tgt := 104) hx hb dX10_number_100 (by decide) ?_
          have h := Option.some.inj h
          subst h
          rw [kr]
          exact r_ri E hw dX10_number_104
/-! ===== AllSawItModel.fault()I ===== -/
theorem dX10_fault_0 : decode cX10_fault 0 = .ok (.aload_n 0, 1) := by decide +kernel
theorem dX10_fault_1 : decode cX10_fault 1 = .ok (.iconst 0, 1) := by decide +kernel
theorem dX10_fault_2 : decode cX10_fault 2 = .ok (.putfield 3, 3) := by decide +kernel
theorem dX10_fault_5 : decode cX10_fault 5 = .ok (.aload_n 0, 1) := by decide +kernel
theorem dX10_fault_6 : decode cX10_fault 6 = .ok (.getfield 33, 3) := by decide +kernel
theorem dX10_fault_9 : decode cX10_fault 9 = .ok (.ireturn, 1) := by decide +kernel
noncomputable def fX10_fault (V : VT) : Option (Int32 × VT) := lt_ (va_up V 22 (upd (V 22) 0 (0 : Int32))) fun V1 => some ((V1 22 14), V1)
set_option maxHeartbeats 4000000 in
set_option maxRecDepth 100000 in
theorem kX10_fault {l : Launch} {G : GT} {B : BGt} (hB : BGok B) {V : VT} {r : (Int32 × VT)} (h : fX10_fault V = some r) : CI l G B yX10_fault (.code yX10_fault cX10_fault 1 (some .int)) 2 [.ref (G.2.2 22)] V r.1 r.2 := by
  intro sz
  refine met_of (Qs := fun sz => QI G sz (r.1) (r.2)) hB (by decide) (Nat.le_of_ble_eq_true rfl) ?_ sz
  intro p e s m args below meth c ls E hw hl
  have hx := en_x E
  have hb := en_b E
  generalize hQ : MQ _ _ _ _ _ _ _ = Q
  have kr : Q = MQ below (QI G s.heap.size r.1 r.2) args s 0 0 (gA G s.heap.size) := hQ.symm
  have hl : lv_has ls 1 [(0, .ref (G.2.2 22))] := hl
  obtain ⟨H, eH⟩ : ∃ H, H = s.heap := ⟨_, rfl⟩
  obtain ⟨locs, elocs⟩ : ∃ z : List Loc, z = [] := ⟨_, rfl⟩
  have hw : HW G s.heap V H locs := by rw [eH, elocs]; exact hw
  show W p l e _ s m args below meth c s.heap [] 0 0 Q (F0 m 0 ls [])
  rw [← eH, ← elocs]
  unfold fX10_fault at h
  refine lv_aload_n hx hb dX10_fault_0 rfl (lv_at hl 0 rfl) ?_
  refine lv_iconst (v := (0 : Int32)) hx hb dX10_fault_1 (by decide) ?_
  obtain ⟨V1, eV1, h⟩ := lt_some h
  refine r_pi E hw 22 0 (N := 29) (C := RX10) (T := TX10) (ty0 := tyX10) (ty := .int) (by decide) rfl rfl (by decide) rfl iw_10 rfl tyX10_ok nmX10 rfl rfl (vp_nar_int _) rfl lf_RX10_3 eV1 dX10_fault_2 (fun H locs hw => ?_)
  refine lv_aload_n hx hb dX10_fault_5 rfl (lv_at hl 0 rfl) ?_
  refine r_gi E hw 22 14 (N := 29) (C := RX10) (T := TX10) (by decide) rfl rfl (by decide) rfl iw_10 rfl lf_RX10_33 dX10_fault_6 ?_
  have h := Option.some.inj h
  subst h
  rw [kr]
  exact r_ri E hw dX10_fault_9
/-! ===== AllSawItModel.uses()V ===== -/
theorem dX10_uses_0 : decode cX10_uses 0 = .ok (.aload_n 0, 1) := by decide +kernel
theorem dX10_uses_1 : decode cX10_uses 1 = .ok (.iconst 0, 1) := by decide +kernel
theorem dX10_uses_2 : decode cX10_uses 2 = .ok (.putfield 3, 3) := by decide +kernel
theorem dX10_uses_5 : decode cX10_uses 5 = .ok (.aload_n 0, 1) := by decide +kernel
theorem dX10_uses_6 : decode cX10_uses 6 = .ok (.aload_n 0, 1) := by decide +kernel
theorem dX10_uses_7 : decode cX10_uses 7 = .ok (.getfield 84, 3) := by decide +kernel
theorem dX10_uses_10 : decode cX10_uses 10 = .ok (.putfield 90, 3) := by decide +kernel
theorem dX10_uses_13 : decode cX10_uses 13 = .ok (.aload_n 0, 1) := by decide +kernel
theorem dX10_uses_14 : decode cX10_uses 14 = .ok (.iconst 0, 1) := by decide +kernel
theorem dX10_uses_15 : decode cX10_uses 15 = .ok (.putfield 84, 3) := by decide +kernel
theorem dX10_uses_18 : decode cX10_uses 18 = .ok (.aload_n 0, 1) := by decide +kernel
theorem dX10_uses_19 : decode cX10_uses 19 = .ok (.iconst 0, 1) := by decide +kernel
theorem dX10_uses_20 : decode cX10_uses 20 = .ok (.putfield 87, 3) := by decide +kernel
theorem dX10_uses_23 : decode cX10_uses 23 = .ok (.return_, 1) := by decide +kernel
noncomputable def fX10_uses (V : VT) : Option VT := lt_ (va_up V 22 (upd (V 22) 0 (0 : Int32))) fun V1 => lt_ (va_up V1 22 (upd (V1 22) 11 (V1 22 9))) fun V2 => lt_ (va_up V2 22 (upd (V2 22) 9 (0 : Int32))) fun V3 => lt_ (va_up V3 22 (upd (V3 22) 10 (0 : Int32))) fun V4 => some V4
set_option maxHeartbeats 4000000 in
set_option maxRecDepth 100000 in
theorem kX10_uses {l : Launch} {G : GT} {B : BGt} (hB : BGok B) {V : VT} {r : VT} (h : fX10_uses V = some r) : CV l G B yX10_uses (.code yX10_uses cX10_uses 1 none) 2 [.ref (G.2.2 22)] V r := by
  intro sz
  refine met_of (Qs := fun sz => QV G sz r) hB (by decide) (Nat.le_of_ble_eq_true rfl) ?_ sz
  intro p e s m args below meth c ls E hw hl
  have hx := en_x E
  have hb := en_b E
  generalize hQ : MQ _ _ _ _ _ _ _ = Q
  have kr : Q = MQ below (QV G s.heap.size r) args s 0 0 (gA G s.heap.size) := hQ.symm
  have hl : lv_has ls 1 [(0, .ref (G.2.2 22))] := hl
  obtain ⟨H, eH⟩ : ∃ H, H = s.heap := ⟨_, rfl⟩
  obtain ⟨locs, elocs⟩ : ∃ z : List Loc, z = [] := ⟨_, rfl⟩
  have hw : HW G s.heap V H locs := by rw [eH, elocs]; exact hw
  show W p l e _ s m args below meth c s.heap [] 0 0 Q (F0 m 0 ls [])
  rw [← eH, ← elocs]
  unfold fX10_uses at h
  refine lv_aload_n hx hb dX10_uses_0 rfl (lv_at hl 0 rfl) ?_
  refine lv_iconst (v := (0 : Int32)) hx hb dX10_uses_1 (by decide) ?_
  obtain ⟨V1, eV1, h⟩ := lt_some h
  refine r_pi E hw 22 0 (N := 29) (C := RX10) (T := TX10) (ty0 := tyX10) (ty := .int) (by decide) rfl rfl (by decide) rfl iw_10 rfl tyX10_ok nmX10 rfl rfl (vp_nar_int _) rfl lf_RX10_3 eV1 dX10_uses_2 (fun H locs hw => ?_)
  refine lv_aload_n hx hb dX10_uses_5 rfl (lv_at hl 0 rfl) ?_
  refine lv_aload_n hx hb dX10_uses_6 rfl (lv_at hl 0 rfl) ?_
  refine r_gi E hw 22 9 (N := 29) (C := RX10) (T := TX10) (by decide) rfl rfl (by decide) rfl iw_10 rfl lf_RX10_84 dX10_uses_7 ?_
  obtain ⟨V2, eV2, h⟩ := lt_some h
  refine r_pi E hw 22 11 (N := 29) (C := RX10) (T := TX10) (ty0 := tyX10) (ty := .int) (by decide) rfl rfl (by decide) rfl iw_10 rfl tyX10_ok nmX10 rfl rfl (vp_nar_int _) rfl lf_RX10_90 eV2 dX10_uses_10 (fun H locs hw => ?_)
  refine lv_aload_n hx hb dX10_uses_13 rfl (lv_at hl 0 rfl) ?_
  refine lv_iconst (v := (0 : Int32)) hx hb dX10_uses_14 (by decide) ?_
  obtain ⟨V3, eV3, h⟩ := lt_some h
  refine r_pi E hw 22 9 (N := 29) (C := RX10) (T := TX10) (ty0 := tyX10) (ty := .int) (by decide) rfl rfl (by decide) rfl iw_10 rfl tyX10_ok nmX10 rfl rfl (vp_nar_int _) rfl lf_RX10_84 eV3 dX10_uses_15 (fun H locs hw => ?_)
  refine lv_aload_n hx hb dX10_uses_18 rfl (lv_at hl 0 rfl) ?_
  refine lv_iconst (v := (0 : Int32)) hx hb dX10_uses_19 (by decide) ?_
  obtain ⟨V4, eV4, h⟩ := lt_some h
  refine r_pi E hw 22 10 (N := 29) (C := RX10) (T := TX10) (ty0 := tyX10) (ty := .int) (by decide) rfl rfl (by decide) rfl iw_10 rfl tyX10_ok nmX10 rfl rfl (vp_nar_int _) rfl lf_RX10_87 eV4 dX10_uses_20 (fun H locs hw => ?_)
  have h := Option.some.inj h
  subst h
  rw [kr]
  exact r_rv E hw dX10_uses_23
/-! ===== AllSawItModel.readAway()Z ===== -/
theorem dX10_readAway_0 : decode cX10_readAway 0 = .ok (.aload_n 0, 1) := by decide +kernel
theorem dX10_readAway_1 : decode cX10_readAway 1 = .ok (.iconst 0, 1) := by decide +kernel
theorem dX10_readAway_2 : decode cX10_readAway 2 = .ok (.aload_n 0, 1) := by decide +kernel
theorem dX10_readAway_3 : decode cX10_readAway 3 = .ok (.invokevirtual 62, 3) := by decide +kernel
theorem dX10_readAway_6 : decode cX10_readAway 6 = .ok (.iconst 1, 1) := by decide +kernel
theorem dX10_readAway_7 : decode cX10_readAway 7 = .ok (.isub, 1) := by decide +kernel
theorem dX10_readAway_8 : decode cX10_readAway 8 = .ok (.invokevirtual 119, 3) := by decide +kernel
theorem dX10_readAway_11 : decode cX10_readAway 11 = .ok (.istore_n 1, 1) := by decide +kernel
theorem dX10_readAway_12 : decode cX10_readAway 12 = .ok (.iload_n 1, 1) := by decide +kernel
theorem dX10_readAway_13 : decode cX10_readAway 13 = .ok (.ifCond .lt 15, 3) := by decide +kernel
theorem dX10_readAway_16 : decode cX10_readAway 16 = .ok (.aload_n 0, 1) := by decide +kernel
theorem dX10_readAway_17 : decode cX10_readAway 17 = .ok (.getfield 13, 3) := by decide +kernel
theorem dX10_readAway_20 : decode cX10_readAway 20 = .ok (.iload_n 1, 1) := by decide +kernel
theorem dX10_readAway_21 : decode cX10_readAway 21 = .ok (.bipush 7, 2) := by decide +kernel
theorem dX10_readAway_23 : decode cX10_readAway 23 = .ok (.invokestatic 66, 3) := by decide +kernel
theorem dX10_readAway_26 : decode cX10_readAway 26 = .ok (.iconst 1, 1) := by decide +kernel
theorem dX10_readAway_27 : decode cX10_readAway 27 = .ok (.iastore, 1) := by decide +kernel
theorem dX10_readAway_28 : decode cX10_readAway 28 = .ok (.iload_n 1, 1) := by decide +kernel
theorem dX10_readAway_29 : decode cX10_readAway 29 = .ok (.ifCond .lt 7, 3) := by decide +kernel
theorem dX10_readAway_32 : decode cX10_readAway 32 = .ok (.iconst 1, 1) := by decide +kernel
theorem dX10_readAway_33 : decode cX10_readAway 33 = .ok (.goto 4, 3) := by decide +kernel
theorem dX10_readAway_36 : decode cX10_readAway 36 = .ok (.iconst 0, 1) := by decide +kernel
theorem dX10_readAway_37 : decode cX10_readAway 37 = .ok (.ireturn, 1) := by decide +kernel
noncomputable def fX10_readAway_j28 (V : VT) (u1 : Int32) : Option (Int32 × VT) := if u1 < 0 then (zo_ (0 : Int32) (some ((0 : Int32), V))) else (zo_ (1 : Int32) (some ((1 : Int32), V)))
noncomputable def fX10_readAway (V : VT) : Option (Int32 × VT) := ob_R (fX10_houses V ) fun y2 => ob_I (fX10_number V (0 : Int32) (y2 - (1 : Int32))) fun y4 V5 => if y4 < 0 then (fX10_readAway_j28 V5 y4) else (ob_R (fX10_at V5 y4 (7 : Int32)) fun y10 => rd_ y10 1988 (lt_ (va_up V5 76 (upd (V5 76) y10.toNatClampNeg (1 : Int32))) fun V12 => fX10_readAway_j28 V12 y4))
set_option maxHeartbeats 4000000 in
set_option maxRecDepth 100000 in
theorem wX10_readAway_j28 {p : Program} {l : Launch} {e : Env} {s : State} {m : MethodId} {args : Array Value} {below : List Frame} {meth : Method} {c : Code} {G : GT} {B : BGt} {Q : State → Prop} (E : En p s m args c meth cX10_readAway 2 RX10 (some .boolean) G B) {V : VT} {u1 : Int32} {r : (Int32 × VT)} (h : fX10_readAway_j28 V u1 = some r) (kr : Q = MQ below (QI G s.heap.size r.1 r.2) args s 0 0 (gA G s.heap.size)) {H : Heap} {locs : List Loc} {ls : Array Slot} (hw : HW G s.heap V H locs) (hl : lv_has ls 2 [(1, .int u1)]) : W p l e (rmD 5) s m args below meth c H locs 0 0 Q (F0 m 28 ls []) := by
  have hx := en_x E
  have hb := en_b E
  have hB := en_B E
  unfold fX10_readAway_j28 at h
  refine lv_iload_n hx hb dX10_readAway_28 rfl (lv_at hl 0 rfl) ?_
  refine lv_if_lt (tgt := 36) hx hb dX10_readAway_29 (by decide) (fun c8 => ?_) (fun c8 => ?_)
  · rw [if_pos c8] at h
    refine lv_iconst (v := (0 : Int32)) hx hb dX10_readAway_36 (by decide) ?_
    obtain ⟨z6, h⟩ := zo_some h
    have h := Option.some.inj h
    subst h
    rw [kr]
    exact r_rz E hw z6 dX10_readAway_37
  · rw [if_neg c8] at h
    refine lv_iconst (v := (1 : Int32)) hx hb dX10_readAway_32 (by decide) ?_
    refine lv_goto (tgt := 37) hx hb dX10_readAway_33 (by decide) ?_
    obtain ⟨z7, h⟩ := zo_some h
    have h := Option.some.inj h
    subst h
    rw [kr]
    exact r_rz E hw z7 dX10_readAway_37
set_option maxHeartbeats 4000000 in
set_option maxRecDepth 100000 in
theorem kX10_readAway {l : Launch} {G : GT} {B : BGt} (hB : BGok B) {V : VT} {r : (Int32 × VT)} (h : fX10_readAway V = some r) : CI l G B yX10_readAway (.code yX10_readAway cX10_readAway 2 (some .boolean)) 5 [.ref (G.2.2 22)] V r.1 r.2 := by
  intro sz
  refine met_of (Qs := fun sz => QI G sz (r.1) (r.2)) hB (by decide) (Nat.le_of_ble_eq_true rfl) ?_ sz
  intro p e s m args below meth c ls E hw hl
  have hx := en_x E
  have hb := en_b E
  generalize hQ : MQ _ _ _ _ _ _ _ = Q
  have kr : Q = MQ below (QI G s.heap.size r.1 r.2) args s 0 0 (gA G s.heap.size) := hQ.symm
  have hl : lv_has ls 2 [(0, .ref (G.2.2 22))] := hl
  obtain ⟨H, eH⟩ : ∃ H, H = s.heap := ⟨_, rfl⟩
  obtain ⟨locs, elocs⟩ : ∃ z : List Loc, z = [] := ⟨_, rfl⟩
  have hw : HW G s.heap V H locs := by rw [eH, elocs]; exact hw
  show W p l e _ s m args below meth c s.heap [] 0 0 Q (F0 m 0 ls [])
  rw [← eH, ← elocs]
  unfold fX10_readAway at h
  refine lv_aload_n hx hb dX10_readAway_0 rfl (lv_at hl 0 rfl) ?_
  refine lv_iconst (v := (0 : Int32)) hx hb dX10_readAway_1 (by decide) ?_
  refine lv_aload_n hx hb dX10_readAway_2 rfl (lv_at hl 0 rfl) ?_
  obtain ⟨y2, h1, h⟩ := ob_R_some h
  refine c_VI E hw (kX10_houses (l := l) (G := G) hB  h1) yy_X10_houses lm_RX10_62 rfl (by decide) rfl rfl hl.1 (by decide) (by decide) rfl (Nat.le_of_ble_eq_true rfl) dX10_readAway_3 (fun H locs hw => ?_)
  refine lv_iconst (v := (1 : Int32)) hx hb dX10_readAway_6 (by decide) ?_
  refine lv_isub hx hb dX10_readAway_7 ?_
  obtain ⟨y4, V5, h3, h⟩ := ob_I_some h
  refine c_VI E hw (kX10_number (l := l) (G := G) hB  h3) yy_X10_number lm_RX10_119 rfl (by decide) rfl rfl hl.1 (by decide) (by decide) rfl (Nat.le_of_ble_eq_true rfl) dX10_readAway_8 (fun H locs hw => ?_)
  refine lv_istore_n (lv' := [(1, .int y4), (0, .ref (G.2.2 22))]) hx hb dX10_readAway_11 rfl hl (by decide) rfl (fun ls hl => ?_)
  refine lv_iload_n hx hb dX10_readAway_12 rfl (lv_at hl 0 rfl) ?_
  refine lv_if_lt (tgt := 28) hx hb dX10_readAway_13 (by decide) (fun c13 => ?_) (fun c13 => ?_)
  · rw [if_pos c13] at h
    exact wX10_readAway_j28 E h kr hw (lv_sub hl [0] rfl)
  · rw [if_neg c13] at h
    refine lv_aload_n hx hb dX10_readAway_16 rfl (lv_at hl 1 rfl) ?_
    refine r_gr E hw 22 1 76 (N := 29) (C := RX10) (T := TX10) (by decide) rfl rfl (by decide) rfl iw_10 rfl lf_RX10_13 dX10_readAway_17 ?_
    refine lv_iload_n hx hb dX10_readAway_20 rfl (lv_at hl 0 rfl) ?_
    refine lv_bipush (v := (7 : Int32)) hx hb dX10_readAway_21 (by decide) ?_
    obtain ⟨y10, h9, h⟩ := ob_R_some h
    refine c_SI E hw (kX10_at (l := l) (G := G) hB  h9) yy_X10_at lm_RX10_66 rfl hl.1 (by decide) (by decide) rfl (Nat.le_of_ble_eq_true rfl) dX10_readAway_23 (fun H locs hw => ?_)
    refine lv_iconst (v := (1 : Int32)) hx hb dX10_readAway_26 (by decide) ?_
    obtain ⟨b11, h⟩ := rd_some h
    obtain ⟨V12, eV12, h⟩ := lt_some h
    refine r_is E hw 76 1988 (by decide) (by decide) (by decide) rfl rfl b11 eV12 dX10_readAway_27 (fun H locs hw => ?_)
    exact wX10_readAway_j28 E h kr hw (lv_sub hl [0] rfl)
/-! ===== AllSawItModel.emits(II)V ===== -/
theorem dX10_emits_0 : decode cX10_emits 0 = .ok (.aload_n 0, 1) := by decide +kernel
theorem dX10_emits_1 : decode cX10_emits 1 = .ok (.getfield 13, 3) := by decide +kernel
theorem dX10_emits_4 : decode cX10_emits 4 = .ok (.sipush 1188, 3) := by decide +kernel
theorem dX10_emits_7 : decode cX10_emits 7 = .ok (.iconst 2, 1) := by decide +kernel
theorem dX10_emits_8 : decode cX10_emits 8 = .ok (.aload_n 0, 1) := by decide +kernel
theorem dX10_emits_9 : decode cX10_emits 9 = .ok (.getfield 160, 3) := by decide +kernel
theorem dX10_emits_12 : decode cX10_emits 12 = .ok (.imul, 1) := by decide +kernel
theorem dX10_emits_13 : decode cX10_emits 13 = .ok (.iadd, 1) := by decide +kernel
theorem dX10_emits_14 : decode cX10_emits 14 = .ok (.iload_n 1, 1) := by decide +kernel
theorem dX10_emits_15 : decode cX10_emits 15 = .ok (.iastore, 1) := by decide +kernel
theorem dX10_emits_16 : decode cX10_emits 16 = .ok (.aload_n 0, 1) := by decide +kernel
theorem dX10_emits_17 : decode cX10_emits 17 = .ok (.getfield 13, 3) := by decide +kernel
theorem dX10_emits_20 : decode cX10_emits 20 = .ok (.sipush 1188, 3) := by decide +kernel
theorem dX10_emits_23 : decode cX10_emits 23 = .ok (.iconst 2, 1) := by decide +kernel
theorem dX10_emits_24 : decode cX10_emits 24 = .ok (.aload_n 0, 1) := by decide +kernel
theorem dX10_emits_25 : decode cX10_emits 25 = .ok (.getfield 160, 3) := by decide +kernel
theorem dX10_emits_28 : decode cX10_emits 28 = .ok (.imul, 1) := by decide +kernel
theorem dX10_emits_29 : decode cX10_emits 29 = .ok (.iadd, 1) := by decide +kernel
theorem dX10_emits_30 : decode cX10_emits 30 = .ok (.iconst 1, 1) := by decide +kernel
theorem dX10_emits_31 : decode cX10_emits 31 = .ok (.iadd, 1) := by decide +kernel
theorem dX10_emits_32 : decode cX10_emits 32 = .ok (.iload_n 2, 1) := by decide +kernel
theorem dX10_emits_33 : decode cX10_emits 33 = .ok (.iastore, 1) := by decide +kernel
theorem dX10_emits_34 : decode cX10_emits 34 = .ok (.aload_n 0, 1) := by decide +kernel
theorem dX10_emits_35 : decode cX10_emits 35 = .ok (.dup, 1) := by decide +kernel
theorem dX10_emits_36 : decode cX10_emits 36 = .ok (.getfield 160, 3) := by decide +kernel
theorem dX10_emits_39 : decode cX10_emits 39 = .ok (.iconst 1, 1) := by decide +kernel
theorem dX10_emits_40 : decode cX10_emits 40 = .ok (.iadd, 1) := by decide +kernel
theorem dX10_emits_41 : decode cX10_emits 41 = .ok (.putfield 160, 3) := by decide +kernel
theorem dX10_emits_44 : decode cX10_emits 44 = .ok (.return_, 1) := by decide +kernel
noncomputable def fX10_emits (V : VT) (x1 : Int32) (x2 : Int32) : Option VT := rd_ ((1188 : Int32) + ((2 : Int32) * (V 22 16))) 1988 (lt_ (va_up V 76 (upd (V 76) ((1188 : Int32) + ((2 : Int32) * (V 22 16))).toNatClampNeg x1)) fun V2 => rd_ (((1188 : Int32) + ((2 : Int32) * (V2 22 16))) + (1 : Int32)) 1988 (lt_ (va_up V2 76 (upd (V2 76) (((1188 : Int32) + ((2 : Int32) * (V2 22 16))) + (1 : Int32)).toNatClampNeg x2)) fun V4 => lt_ (va_up V4 22 (upd (V4 22) 16 ((V4 22 16) + (1 : Int32)))) fun V5 => some V5))
set_option maxHeartbeats 4000000 in
set_option maxRecDepth 100000 in
theorem kX10_emits {l : Launch} {G : GT} {B : BGt} (hB : BGok B) {V : VT} {x1 : Int32} {x2 : Int32} {r : VT} (h : fX10_emits V x1 x2 = some r) : CV l G B yX10_emits (.code yX10_emits cX10_emits 3 none) 2 [.ref (G.2.2 22), .int x1, .int x2] V r := by
  intro sz
  refine met_of (Qs := fun sz => QV G sz r) hB (by decide) (Nat.le_of_ble_eq_true rfl) ?_ sz
  intro p e s m args below meth c ls E hw hl
  have hx := en_x E
  have hb := en_b E
  generalize hQ : MQ _ _ _ _ _ _ _ = Q
  have kr : Q = MQ below (QV G s.heap.size r) args s 0 0 (gA G s.heap.size) := hQ.symm
  have hl : lv_has ls 3 [(0, .ref (G.2.2 22)), (1, .int x1), (2, .int x2)] := hl
  obtain ⟨H, eH⟩ : ∃ H, H = s.heap := ⟨_, rfl⟩
  obtain ⟨locs, elocs⟩ : ∃ z : List Loc, z = [] := ⟨_, rfl⟩
  have hw : HW G s.heap V H locs := by rw [eH, elocs]; exact hw
  show W p l e _ s m args below meth c s.heap [] 0 0 Q (F0 m 0 ls [])
  rw [← eH, ← elocs]
  unfold fX10_emits at h
  refine lv_aload_n hx hb dX10_emits_0 rfl (lv_at hl 0 rfl) ?_
  refine r_gr E hw 22 1 76 (N := 29) (C := RX10) (T := TX10) (by decide) rfl rfl (by decide) rfl iw_10 rfl lf_RX10_13 dX10_emits_1 ?_
  refine lv_sipush (v := (1188 : Int32)) hx hb dX10_emits_4 (by decide) ?_
  refine lv_iconst (v := (2 : Int32)) hx hb dX10_emits_7 (by decide) ?_
  refine lv_aload_n hx hb dX10_emits_8 rfl (lv_at hl 0 rfl) ?_
  refine r_gi E hw 22 16 (N := 29) (C := RX10) (T := TX10) (by decide) rfl rfl (by decide) rfl iw_10 rfl lf_RX10_160 dX10_emits_9 ?_
  refine lv_imul hx hb dX10_emits_12 ?_
  refine lv_iadd hx hb dX10_emits_13 ?_
  refine lv_iload_n hx hb dX10_emits_14 rfl (lv_at hl 1 rfl) ?_
  obtain ⟨b1, h⟩ := rd_some h
  obtain ⟨V2, eV2, h⟩ := lt_some h
  refine r_is E hw 76 1988 (by decide) (by decide) (by decide) rfl rfl b1 eV2 dX10_emits_15 (fun H locs hw => ?_)
  refine lv_aload_n hx hb dX10_emits_16 rfl (lv_at hl 0 rfl) ?_
  refine r_gr E hw 22 1 76 (N := 29) (C := RX10) (T := TX10) (by decide) rfl rfl (by decide) rfl iw_10 rfl lf_RX10_13 dX10_emits_17 ?_
  refine lv_sipush (v := (1188 : Int32)) hx hb dX10_emits_20 (by decide) ?_
  refine lv_iconst (v := (2 : Int32)) hx hb dX10_emits_23 (by decide) ?_
  refine lv_aload_n hx hb dX10_emits_24 rfl (lv_at hl 0 rfl) ?_
  refine r_gi E hw 22 16 (N := 29) (C := RX10) (T := TX10) (by decide) rfl rfl (by decide) rfl iw_10 rfl lf_RX10_160 dX10_emits_25 ?_
  refine lv_imul hx hb dX10_emits_28 ?_
  refine lv_iadd hx hb dX10_emits_29 ?_
  refine lv_iconst (v := (1 : Int32)) hx hb dX10_emits_30 (by decide) ?_
  refine lv_iadd hx hb dX10_emits_31 ?_
  refine lv_iload_n hx hb dX10_emits_32 rfl (lv_at hl 2 rfl) ?_
  obtain ⟨b3, h⟩ := rd_some h
  obtain ⟨V4, eV4, h⟩ := lt_some h
  refine r_is E hw 76 1988 (by decide) (by decide) (by decide) rfl rfl b3 eV4 dX10_emits_33 (fun H locs hw => ?_)
  refine lv_aload_n hx hb dX10_emits_34 rfl (lv_at hl 0 rfl) ?_
  refine lv_dup hx hb dX10_emits_35 rfl ?_
  refine r_gi E hw 22 16 (N := 29) (C := RX10) (T := TX10) (by decide) rfl rfl (by decide) rfl iw_10 rfl lf_RX10_160 dX10_emits_36 ?_
  refine lv_iconst (v := (1 : Int32)) hx hb dX10_emits_39 (by decide) ?_
  refine lv_iadd hx hb dX10_emits_40 ?_
  obtain ⟨V5, eV5, h⟩ := lt_some h
  refine r_pi E hw 22 16 (N := 29) (C := RX10) (T := TX10) (ty0 := tyX10) (ty := .int) (by decide) rfl rfl (by decide) rfl iw_10 rfl tyX10_ok nmX10 rfl rfl (vp_nar_int _) rfl lf_RX10_160 eV5 dX10_emits_41 (fun H locs hw => ?_)
  have h := Option.some.inj h
  subst h
  rw [kr]
  exact r_rv E hw dX10_emits_44
/-! ===== AllSawItModel.lowOf(II)I ===== -/
theorem dX10_lowOf_0 : decode cX10_lowOf 0 = .ok (.iconst 0, 1) := by decide +kernel
theorem dX10_lowOf_1 : decode cX10_lowOf 1 = .ok (.aload_n 0, 1) := by decide +kernel
theorem dX10_lowOf_2 : decode cX10_lowOf 2 = .ok (.iload_n 1, 1) := by decide +kernel
theorem dX10_lowOf_3 : decode cX10_lowOf 3 = .ok (.iconst 1, 1) := by decide +kernel
theorem dX10_lowOf_4 : decode cX10_lowOf 4 = .ok (.invokevirtual 236, 3) := by decide +kernel
theorem dX10_lowOf_7 : decode cX10_lowOf 7 = .ok (.iload_n 2, 1) := by decide +kernel
theorem dX10_lowOf_8 : decode cX10_lowOf 8 = .ok (.isub, 1) := by decide +kernel
theorem dX10_lowOf_9 : decode cX10_lowOf 9 = .ok (.invokestatic 239, 3) := by decide +kernel
theorem dX10_lowOf_12 : decode cX10_lowOf 12 = .ok (.ireturn, 1) := by decide +kernel
noncomputable def fX10_lowOf (V : VT) (x1 : Int32) (x2 : Int32) : Option Int32 := ob_R (fX10_of V x1 (1 : Int32)) fun y2 => some (if (0 : Int32) < (y2 - x2) then (y2 - x2) else (0 : Int32))
set_option maxHeartbeats 4000000 in
set_option maxRecDepth 100000 in
theorem kX10_lowOf {l : Launch} {G : GT} {B : BGt} (hB : BGok B) {V : VT} {x1 : Int32} {x2 : Int32} {r : Int32} (h : fX10_lowOf V x1 x2 = some r) : CI l G B yX10_lowOf (.code yX10_lowOf cX10_lowOf 3 (some .int)) 4 [.ref (G.2.2 22), .int x1, .int x2] V r V := by
  intro sz
  refine met_of (Qs := fun sz => QI G sz r V) hB (by decide) (Nat.le_of_ble_eq_true rfl) ?_ sz
  intro p e s m args below meth c ls E hw hl
  have hx := en_x E
  have hb := en_b E
  generalize hQ : MQ _ _ _ _ _ _ _ = Q
  have kr : Q = MQ below (QI G s.heap.size r V) args s 0 0 (gA G s.heap.size) := hQ.symm
  have hl : lv_has ls 3 [(0, .ref (G.2.2 22)), (1, .int x1), (2, .int x2)] := hl
  obtain ⟨H, eH⟩ : ∃ H, H = s.heap := ⟨_, rfl⟩
  obtain ⟨locs, elocs⟩ : ∃ z : List Loc, z = [] := ⟨_, rfl⟩
  have hw : HW G s.heap V H locs := by rw [eH, elocs]; exact hw
  show W p l e _ s m args below meth c s.heap [] 0 0 Q (F0 m 0 ls [])
  rw [← eH, ← elocs]
  unfold fX10_lowOf at h
  refine lv_iconst (v := (0 : Int32)) hx hb dX10_lowOf_0 (by decide) ?_
  refine lv_aload_n hx hb dX10_lowOf_1 rfl (lv_at hl 0 rfl) ?_
  refine lv_iload_n hx hb dX10_lowOf_2 rfl (lv_at hl 1 rfl) ?_
  refine lv_iconst (v := (1 : Int32)) hx hb dX10_lowOf_3 (by decide) ?_
  obtain ⟨y2, h1, h⟩ := ob_R_some h
  refine c_VI E hw (kX10_of (l := l) (G := G) hB  h1) yy_X10_of lm_RX10_236 rfl (by decide) rfl rfl hl.1 (by decide) (by decide) rfl (Nat.le_of_ble_eq_true rfl) dX10_lowOf_4 (fun H locs hw => ?_)
  refine lv_iload_n hx hb dX10_lowOf_7 rfl (lv_at hl 2 rfl) ?_
  refine lv_isub hx hb dX10_lowOf_8 ?_
  refine r_max E hl.1 lm_RX10_239 (by decide) (Nat.le_of_ble_eq_true rfl) dX10_lowOf_9 ?_
  have h := Option.some.inj h
  subst h
  rw [kr]
  exact r_ri E hw dX10_lowOf_12
/-! ===== AllSawItModel.highOf(II)I ===== -/
theorem dX10_highOf_0 : decode cX10_highOf 0 = .ok (.bipush 23, 2) := by decide +kernel
theorem dX10_highOf_2 : decode cX10_highOf 2 = .ok (.aload_n 0, 1) := by decide +kernel
theorem dX10_highOf_3 : decode cX10_highOf 3 = .ok (.iload_n 1, 1) := by decide +kernel
theorem dX10_highOf_4 : decode cX10_highOf 4 = .ok (.iconst 2, 1) := by decide +kernel
theorem dX10_highOf_5 : decode cX10_highOf 5 = .ok (.invokevirtual 236, 3) := by decide +kernel
theorem dX10_highOf_8 : decode cX10_highOf 8 = .ok (.iload_n 2, 1) := by decide +kernel
theorem dX10_highOf_9 : decode cX10_highOf 9 = .ok (.iadd, 1) := by decide +kernel
theorem dX10_highOf_10 : decode cX10_highOf 10 = .ok (.invokestatic 244, 3) := by decide +kernel
theorem dX10_highOf_13 : decode cX10_highOf 13 = .ok (.ireturn, 1) := by decide +kernel
noncomputable def fX10_highOf (V : VT) (x1 : Int32) (x2 : Int32) : Option Int32 := ob_R (fX10_of V x1 (2 : Int32)) fun y2 => some (if (y2 + x2) < (23 : Int32) then (y2 + x2) else (23 : Int32))
set_option maxHeartbeats 4000000 in
set_option maxRecDepth 100000 in
theorem kX10_highOf {l : Launch} {G : GT} {B : BGt} (hB : BGok B) {V : VT} {x1 : Int32} {x2 : Int32} {r : Int32} (h : fX10_highOf V x1 x2 = some r) : CI l G B yX10_highOf (.code yX10_highOf cX10_highOf 3 (some .int)) 4 [.ref (G.2.2 22), .int x1, .int x2] V r V := by
  intro sz
  refine met_of (Qs := fun sz => QI G sz r V) hB (by decide) (Nat.le_of_ble_eq_true rfl) ?_ sz
  intro p e s m args below meth c ls E hw hl
  have hx := en_x E
  have hb := en_b E
  generalize hQ : MQ _ _ _ _ _ _ _ = Q
  have kr : Q = MQ below (QI G s.heap.size r V) args s 0 0 (gA G s.heap.size) := hQ.symm
  have hl : lv_has ls 3 [(0, .ref (G.2.2 22)), (1, .int x1), (2, .int x2)] := hl
  obtain ⟨H, eH⟩ : ∃ H, H = s.heap := ⟨_, rfl⟩
  obtain ⟨locs, elocs⟩ : ∃ z : List Loc, z = [] := ⟨_, rfl⟩
  have hw : HW G s.heap V H locs := by rw [eH, elocs]; exact hw
  show W p l e _ s m args below meth c s.heap [] 0 0 Q (F0 m 0 ls [])
  rw [← eH, ← elocs]
  unfold fX10_highOf at h
  refine lv_bipush (v := (23 : Int32)) hx hb dX10_highOf_0 (by decide) ?_
  refine lv_aload_n hx hb dX10_highOf_2 rfl (lv_at hl 0 rfl) ?_
  refine lv_iload_n hx hb dX10_highOf_3 rfl (lv_at hl 1 rfl) ?_
  refine lv_iconst (v := (2 : Int32)) hx hb dX10_highOf_4 (by decide) ?_
  obtain ⟨y2, h1, h⟩ := ob_R_some h
  refine c_VI E hw (kX10_of (l := l) (G := G) hB  h1) yy_X10_of lm_RX10_236 rfl (by decide) rfl rfl hl.1 (by decide) (by decide) rfl (Nat.le_of_ble_eq_true rfl) dX10_highOf_5 (fun H locs hw => ?_)
  refine lv_iload_n hx hb dX10_highOf_8 rfl (lv_at hl 2 rfl) ?_
  refine lv_iadd hx hb dX10_highOf_9 ?_
  refine r_min E hl.1 lm_RX10_244 (by decide) (Nat.le_of_ble_eq_true rfl) dX10_highOf_10 ?_
  have h := Option.some.inj h
  subst h
  rw [kr]
  exact r_ri E hw dX10_highOf_13
/-! ===== AllSawItModel.isInWindow()Z ===== -/
theorem dX10_isInWindow_0 : decode cX10_isInWindow 0 = .ok (.aload_n 0, 1) := by decide +kernel
theorem dX10_isInWindow_1 : decode cX10_isInWindow 1 = .ok (.getfield 247, 3) := by decide +kernel
theorem dX10_isInWindow_4 : decode cX10_isInWindow 4 = .ok (.aload_n 0, 1) := by decide +kernel
theorem dX10_isInWindow_5 : decode cX10_isInWindow 5 = .ok (.aload_n 0, 1) := by decide +kernel
theorem dX10_isInWindow_6 : decode cX10_isInWindow 6 = .ok (.getfield 250, 3) := by decide +kernel
theorem dX10_isInWindow_9 : decode cX10_isInWindow 9 = .ok (.aload_n 0, 1) := by decide +kernel
theorem dX10_isInWindow_10 : decode cX10_isInWindow 10 = .ok (.getfield 253, 3) := by decide +kernel
theorem dX10_isInWindow_13 : decode cX10_isInWindow 13 = .ok (.invokevirtual 256, 3) := by decide +kernel
theorem dX10_isInWindow_16 : decode cX10_isInWindow 16 = .ok (.aload_n 0, 1) := by decide +kernel
theorem dX10_isInWindow_17 : decode cX10_isInWindow 17 = .ok (.aload_n 0, 1) := by decide +kernel
theorem dX10_isInWindow_18 : decode cX10_isInWindow 18 = .ok (.getfield 250, 3) := by decide +kernel
theorem dX10_isInWindow_21 : decode cX10_isInWindow 21 = .ok (.aload_n 0, 1) := by decide +kernel
theorem dX10_isInWindow_22 : decode cX10_isInWindow 22 = .ok (.getfield 253, 3) := by decide +kernel
theorem dX10_isInWindow_25 : decode cX10_isInWindow 25 = .ok (.invokevirtual 259, 3) := by decide +kernel
theorem dX10_isInWindow_28 : decode cX10_isInWindow 28 = .ok (.invokestatic 76, 3) := by decide +kernel
theorem dX10_isInWindow_31 : decode cX10_isInWindow 31 = .ok (.ireturn, 1) := by decide +kernel
noncomputable def fX10_isInWindow (V : VT) : Option Int32 := ob_R (fX10_lowOf V (V 22 18) (V 22 22)) fun y2 => ob_R (fX10_highOf V (V 22 18) (V 22 22)) fun y4 => ob_R (fX10_in V (V 22 19) y2 y4) fun y6 => zo_ y6 (some y6)
set_option maxHeartbeats 4000000 in
set_option maxRecDepth 100000 in
theorem kX10_isInWindow {l : Launch} {G : GT} {B : BGt} (hB : BGok B) {V : VT} {r : Int32} (h : fX10_isInWindow V = some r) : CI l G B yX10_isInWindow (.code yX10_isInWindow cX10_isInWindow 1 (some .boolean)) 5 [.ref (G.2.2 22)] V r V := by
  intro sz
  refine met_of (Qs := fun sz => QI G sz r V) hB (by decide) (Nat.le_of_ble_eq_true rfl) ?_ sz
  intro p e s m args below meth c ls E hw hl
  have hx := en_x E
  have hb := en_b E
  generalize hQ : MQ _ _ _ _ _ _ _ = Q
  have kr : Q = MQ below (QI G s.heap.size r V) args s 0 0 (gA G s.heap.size) := hQ.symm
  have hl : lv_has ls 1 [(0, .ref (G.2.2 22))] := hl
  obtain ⟨H, eH⟩ : ∃ H, H = s.heap := ⟨_, rfl⟩
  obtain ⟨locs, elocs⟩ : ∃ z : List Loc, z = [] := ⟨_, rfl⟩
  have hw : HW G s.heap V H locs := by rw [eH, elocs]; exact hw
  show W p l e _ s m args below meth c s.heap [] 0 0 Q (F0 m 0 ls [])
  rw [← eH, ← elocs]
  unfold fX10_isInWindow at h
  refine lv_aload_n hx hb dX10_isInWindow_0 rfl (lv_at hl 0 rfl) ?_
  refine r_gi E hw 22 19 (N := 29) (C := RX10) (T := TX10) (by decide) rfl rfl (by decide) rfl iw_10 rfl lf_RX10_247 dX10_isInWindow_1 ?_
  refine lv_aload_n hx hb dX10_isInWindow_4 rfl (lv_at hl 0 rfl) ?_
  refine lv_aload_n hx hb dX10_isInWindow_5 rfl (lv_at hl 0 rfl) ?_
  refine r_gi E hw 22 18 (N := 29) (C := RX10) (T := TX10) (by decide) rfl rfl (by decide) rfl iw_10 rfl lf_RX10_250 dX10_isInWindow_6 ?_
  refine lv_aload_n hx hb dX10_isInWindow_9 rfl (lv_at hl 0 rfl) ?_
  refine r_gi E hw 22 22 (N := 29) (C := RX10) (T := TX10) (by decide) rfl rfl (by decide) rfl iw_10 rfl lf_RX10_253 dX10_isInWindow_10 ?_
  obtain ⟨y2, h1, h⟩ := ob_R_some h
  refine c_VI E hw (kX10_lowOf (l := l) (G := G) hB  h1) yy_X10_lowOf lm_RX10_256 rfl (by decide) rfl rfl hl.1 (by decide) (by decide) rfl (Nat.le_of_ble_eq_true rfl) dX10_isInWindow_13 (fun H locs hw => ?_)
  refine lv_aload_n hx hb dX10_isInWindow_16 rfl (lv_at hl 0 rfl) ?_
  refine lv_aload_n hx hb dX10_isInWindow_17 rfl (lv_at hl 0 rfl) ?_
  refine r_gi E hw 22 18 (N := 29) (C := RX10) (T := TX10) (by decide) rfl rfl (by decide) rfl iw_10 rfl lf_RX10_250 dX10_isInWindow_18 ?_
  refine lv_aload_n hx hb dX10_isInWindow_21 rfl (lv_at hl 0 rfl) ?_
  refine r_gi E hw 22 22 (N := 29) (C := RX10) (T := TX10) (by decide) rfl rfl (by decide) rfl iw_10 rfl lf_RX10_253 dX10_isInWindow_22 ?_
  obtain ⟨y4, h3, h⟩ := ob_R_some h
  refine c_VI E hw (kX10_highOf (l := l) (G := G) hB  h3) yy_X10_highOf lm_RX10_259 rfl (by decide) rfl rfl hl.1 (by decide) (by decide) rfl (Nat.le_of_ble_eq_true rfl) dX10_isInWindow_25 (fun H locs hw => ?_)
  obtain ⟨y6, h5, h⟩ := ob_R_some h
  refine c_SI E hw (kX10_in (l := l) (G := G) hB  h5) yy_X10_in lm_RX10_76 rfl hl.1 (by decide) (by decide) rfl (Nat.le_of_ble_eq_true rfl) dX10_isInWindow_28 (fun H locs hw => ?_)
  obtain ⟨z7, h⟩ := zo_some h
  have h := Option.some.inj h
  subst h
  rw [kr]
  exact r_rz E hw z7 dX10_isInWindow_31
/-! ===== AllSawItModel.factOf(II)I ===== -/
theorem dX10_factOf_0 : decode cX10_factOf 0 = .ok (.iload_n 1, 1) := by decide +kernel
theorem dX10_factOf_1 : decode cX10_factOf 1 = .ok (.tableswitch 135 0 8 #[51, 56, 61, 66, 84, 89, 96, 109, 122], 51) := by decide +kernel
theorem dX10_factOf_52 : decode cX10_factOf 52 = .ok (.aload_n 0, 1) := by decide +kernel
theorem dX10_factOf_53 : decode cX10_factOf 53 = .ok (.getfield 250, 3) := by decide +kernel
theorem dX10_factOf_56 : decode cX10_factOf 56 = .ok (.ireturn, 1) := by decide +kernel
theorem dX10_factOf_57 : decode cX10_factOf 57 = .ok (.aload_n 0, 1) := by decide +kernel
theorem dX10_factOf_58 : decode cX10_factOf 58 = .ok (.getfield 247, 3) := by decide +kernel
theorem dX10_factOf_61 : decode cX10_factOf 61 = .ok (.ireturn, 1) := by decide +kernel
theorem dX10_factOf_62 : decode cX10_factOf 62 = .ok (.aload_n 0, 1) := by decide +kernel
theorem dX10_factOf_63 : decode cX10_factOf 63 = .ok (.getfield 262, 3) := by decide +kernel
theorem dX10_factOf_66 : decode cX10_factOf 66 = .ok (.ireturn, 1) := by decide +kernel
theorem dX10_factOf_67 : decode cX10_factOf 67 = .ok (.aload_n 0, 1) := by decide +kernel
theorem dX10_factOf_68 : decode cX10_factOf 68 = .ok (.getfield 247, 3) := by decide +kernel
theorem dX10_factOf_71 : decode cX10_factOf 71 = .ok (.aload_n 0, 1) := by decide +kernel
theorem dX10_factOf_72 : decode cX10_factOf 72 = .ok (.aload_n 0, 1) := by decide +kernel
theorem dX10_factOf_73 : decode cX10_factOf 73 = .ok (.getfield 250, 3) := by decide +kernel
theorem dX10_factOf_76 : decode cX10_factOf 76 = .ok (.iconst 0, 1) := by decide +kernel
theorem dX10_factOf_77 : decode cX10_factOf 77 = .ok (.invokevirtual 236, 3) := by decide +kernel
theorem dX10_factOf_80 : decode cX10_factOf 80 = .ok (.isub, 1) := by decide +kernel
theorem dX10_factOf_81 : decode cX10_factOf 81 = .ok (.invokestatic 265, 3) := by decide +kernel
theorem dX10_factOf_84 : decode cX10_factOf 84 = .ok (.ireturn, 1) := by decide +kernel
theorem dX10_factOf_85 : decode cX10_factOf 85 = .ok (.aload_n 0, 1) := by decide +kernel
theorem dX10_factOf_86 : decode cX10_factOf 86 = .ok (.getfield 269, 3) := by decide +kernel
theorem dX10_factOf_89 : decode cX10_factOf 89 = .ok (.ireturn, 1) := by decide +kernel
theorem dX10_factOf_90 : decode cX10_factOf 90 = .ok (.aload_n 0, 1) := by decide +kernel
theorem dX10_factOf_91 : decode cX10_factOf 91 = .ok (.getfield 13, 3) := by decide +kernel
theorem dX10_factOf_94 : decode cX10_factOf 94 = .ok (.iconst 4, 1) := by decide +kernel
theorem dX10_factOf_95 : decode cX10_factOf 95 = .ok (.iaload, 1) := by decide +kernel
theorem dX10_factOf_96 : decode cX10_factOf 96 = .ok (.ireturn, 1) := by decide +kernel
theorem dX10_factOf_97 : decode cX10_factOf 97 = .ok (.aload_n 0, 1) := by decide +kernel
theorem dX10_factOf_98 : decode cX10_factOf 98 = .ok (.getfield 272, 3) := by decide +kernel
theorem dX10_factOf_101 : decode cX10_factOf 101 = .ok (.ifCond .eq 7, 3) := by decide +kernel
theorem dX10_factOf_104 : decode cX10_factOf 104 = .ok (.iconst 1, 1) := by decide +kernel
theorem dX10_factOf_105 : decode cX10_factOf 105 = .ok (.goto 4, 3) := by decide +kernel
theorem dX10_factOf_108 : decode cX10_factOf 108 = .ok (.iconst 0, 1) := by decide +kernel
theorem dX10_factOf_109 : decode cX10_factOf 109 = .ok (.ireturn, 1) := by decide +kernel
theorem dX10_factOf_110 : decode cX10_factOf 110 = .ok (.aload_n 0, 1) := by decide +kernel
theorem dX10_factOf_111 : decode cX10_factOf 111 = .ok (.getfield 275, 3) := by decide +kernel
theorem dX10_factOf_114 : decode cX10_factOf 114 = .ok (.ifCond .eq 7, 3) := by decide +kernel
theorem dX10_factOf_117 : decode cX10_factOf 117 = .ok (.iconst 1, 1) := by decide +kernel
theorem dX10_factOf_118 : decode cX10_factOf 118 = .ok (.goto 4, 3) := by decide +kernel
theorem dX10_factOf_121 : decode cX10_factOf 121 = .ok (.iconst 0, 1) := by decide +kernel
theorem dX10_factOf_122 : decode cX10_factOf 122 = .ok (.ireturn, 1) := by decide +kernel
theorem dX10_factOf_123 : decode cX10_factOf 123 = .ok (.aload_n 0, 1) := by decide +kernel
theorem dX10_factOf_124 : decode cX10_factOf 124 = .ok (.invokevirtual 278, 3) := by decide +kernel
theorem dX10_factOf_127 : decode cX10_factOf 127 = .ok (.ifCond .eq 7, 3) := by decide +kernel
theorem dX10_factOf_130 : decode cX10_factOf 130 = .ok (.iconst 1, 1) := by decide +kernel
theorem dX10_factOf_131 : decode cX10_factOf 131 = .ok (.goto 4, 3) := by decide +kernel
theorem dX10_factOf_134 : decode cX10_factOf 134 = .ok (.iconst 0, 1) := by decide +kernel
theorem dX10_factOf_135 : decode cX10_factOf 135 = .ok (.ireturn, 1) := by decide +kernel
theorem dX10_factOf_136 : decode cX10_factOf 136 = .ok (.iload_n 2, 1) := by decide +kernel
theorem dX10_factOf_137 : decode cX10_factOf 137 = .ok (.ireturn, 1) := by decide +kernel
noncomputable def fX10_factOf (V : VT) (x1 : Int32) (x2 : Int32) : Option Int32 := if x1 = (0 : Int32) then (some (V 22 18)) else if x1 = (1 : Int32) then (some (V 22 19)) else if x1 = (2 : Int32) then (some (V 22 20)) else if x1 = (3 : Int32) then (ob_R (fX10_of V (V 22 18) (0 : Int32)) fun y5 => some (if 0 ≤ ((V 22 19) - y5) then ((V 22 19) - y5) else 0 - ((V 22 19) - y5))) else if x1 = (4 : Int32) then (some (V 22 21)) else if x1 = (5 : Int32) then (rd_ (4 : Int32) 1988 (some (V 76 (4 : Int32).toNatClampNeg))) else if x1 = (6 : Int32) then (if (V 22 23) = 0 then (some (0 : Int32)) else (some (1 : Int32))) else if x1 = (7 : Int32) then (if (V 22 24) = 0 then (some (0 : Int32)) else (some (1 : Int32))) else if x1 = (8 : Int32) then (ob_R (fX10_isInWindow V ) fun y15 => if y15 = 0 then (some (0 : Int32)) else (some (1 : Int32))) else (some x2)
set_option maxHeartbeats 4000000 in
set_option maxRecDepth 100000 in
theorem kX10_factOf {l : Launch} {G : GT} {B : BGt} (hB : BGok B) {V : VT} {x1 : Int32} {x2 : Int32} {r : Int32} (h : fX10_factOf V x1 x2 = some r) : CI l G B yX10_factOf (.code yX10_factOf cX10_factOf 3 (some .int)) 6 [.ref (G.2.2 22), .int x1, .int x2] V r V := by
  intro sz
  refine met_of (Qs := fun sz => QI G sz r V) hB (by decide) (Nat.le_of_ble_eq_true rfl) ?_ sz
  intro p e s m args below meth c ls E hw hl
  have hx := en_x E
  have hb := en_b E
  generalize hQ : MQ _ _ _ _ _ _ _ = Q
  have kr : Q = MQ below (QI G s.heap.size r V) args s 0 0 (gA G s.heap.size) := hQ.symm
  have hl : lv_has ls 3 [(0, .ref (G.2.2 22)), (1, .int x1), (2, .int x2)] := hl
  obtain ⟨H, eH⟩ : ∃ H, H = s.heap := ⟨_, rfl⟩
  obtain ⟨locs, elocs⟩ : ∃ z : List Loc, z = [] := ⟨_, rfl⟩
  have hw : HW G s.heap V H locs := by rw [eH, elocs]; exact hw
  show W p l e _ s m args below meth c s.heap [] 0 0 Q (F0 m 0 ls [])
  rw [← eH, ← elocs]
  unfold fX10_factOf at h
  refine lv_iload_n hx hb dX10_factOf_0 rfl (lv_at hl 1 rfl) ?_
  by_cases c1 : x1 = (0 : Int32)
  · rw [if_pos c1] at h
    refine lv_tableIn (tgt := 52) hx hb dX10_factOf_1 (by rw [c1]; decide) (by rw [c1]; decide) (by rw [c1]; rfl) (by decide) ?_
    refine lv_aload_n hx hb dX10_factOf_52 rfl (lv_at hl 0 rfl) ?_
    refine r_gi E hw 22 18 (N := 29) (C := RX10) (T := TX10) (by decide) rfl rfl (by decide) rfl iw_10 rfl lf_RX10_250 dX10_factOf_53 ?_
    have h := Option.some.inj h
    subst h
    rw [kr]
    exact r_ri E hw dX10_factOf_56
  · rw [if_neg c1] at h
    by_cases c2 : x1 = (1 : Int32)
    · rw [if_pos c2] at h
      refine lv_tableIn (tgt := 57) hx hb dX10_factOf_1 (by rw [c2]; decide) (by rw [c2]; decide) (by rw [c2]; rfl) (by decide) ?_
      refine lv_aload_n hx hb dX10_factOf_57 rfl (lv_at hl 0 rfl) ?_
      refine r_gi E hw 22 19 (N := 29) (C := RX10) (T := TX10) (by decide) rfl rfl (by decide) rfl iw_10 rfl lf_RX10_247 dX10_factOf_58 ?_
      have h := Option.some.inj h
      subst h
      rw [kr]
      exact r_ri E hw dX10_factOf_61
    · rw [if_neg c2] at h
      by_cases c3 : x1 = (2 : Int32)
      · rw [if_pos c3] at h
        refine lv_tableIn (tgt := 62) hx hb dX10_factOf_1 (by rw [c3]; decide) (by rw [c3]; decide) (by rw [c3]; rfl) (by decide) ?_
        refine lv_aload_n hx hb dX10_factOf_62 rfl (lv_at hl 0 rfl) ?_
        refine r_gi E hw 22 20 (N := 29) (C := RX10) (T := TX10) (by decide) rfl rfl (by decide) rfl iw_10 rfl lf_RX10_262 dX10_factOf_63 ?_
        have h := Option.some.inj h
        subst h
        rw [kr]
        exact r_ri E hw dX10_factOf_66
      · rw [if_neg c3] at h
        by_cases c6 : x1 = (3 : Int32)
        · rw [if_pos c6] at h
          refine lv_tableIn (tgt := 67) hx hb dX10_factOf_1 (by rw [c6]; decide) (by rw [c6]; decide) (by rw [c6]; rfl) (by decide) ?_
          refine lv_aload_n hx hb dX10_factOf_67 rfl (lv_at hl 0 rfl) ?_
          refine r_gi E hw 22 19 (N := 29) (C := RX10) (T := TX10) (by decide) rfl rfl (by decide) rfl iw_10 rfl lf_RX10_247 dX10_factOf_68 ?_
          refine lv_aload_n hx hb dX10_factOf_71 rfl (lv_at hl 0 rfl) ?_
          refine lv_aload_n hx hb dX10_factOf_72 rfl (lv_at hl 0 rfl) ?_
          refine r_gi E hw 22 18 (N := 29) (C := RX10) (T := TX10) (by decide) rfl rfl (by decide) rfl iw_10 rfl lf_RX10_250 dX10_factOf_73 ?_
          refine lv_iconst (v := (0 : Int32)) hx hb dX10_factOf_76 (by decide) ?_
          obtain ⟨y5, h4, h⟩ := ob_R_some h
          refine c_VI E hw (kX10_of (l := l) (G := G) hB  h4) yy_X10_of lm_RX10_236 rfl (by decide) rfl rfl hl.1 (by decide) (by decide) rfl (Nat.le_of_ble_eq_true rfl) dX10_factOf_77 (fun H locs hw => ?_)
          refine lv_isub hx hb dX10_factOf_80 ?_
          refine r_abs E hl.1 lm_RX10_265 (by decide) (Nat.le_of_ble_eq_true rfl) dX10_factOf_81 ?_
          have h := Option.some.inj h
          subst h
          rw [kr]
          exact r_ri E hw dX10_factOf_84
        · rw [if_neg c6] at h
          by_cases c7 : x1 = (4 : Int32)
          · rw [if_pos c7] at h
            refine lv_tableIn (tgt := 85) hx hb dX10_factOf_1 (by rw [c7]; decide) (by rw [c7]; decide) (by rw [c7]; rfl) (by decide) ?_
            refine lv_aload_n hx hb dX10_factOf_85 rfl (lv_at hl 0 rfl) ?_
            refine r_gi E hw 22 21 (N := 29) (C := RX10) (T := TX10) (by decide) rfl rfl (by decide) rfl iw_10 rfl lf_RX10_269 dX10_factOf_86 ?_
            have h := Option.some.inj h
            subst h
            rw [kr]
            exact r_ri E hw dX10_factOf_89
          · rw [if_neg c7] at h
            by_cases c9 : x1 = (5 : Int32)
            · rw [if_pos c9] at h
              refine lv_tableIn (tgt := 90) hx hb dX10_factOf_1 (by rw [c9]; decide) (by rw [c9]; decide) (by rw [c9]; rfl) (by decide) ?_
              refine lv_aload_n hx hb dX10_factOf_90 rfl (lv_at hl 0 rfl) ?_
              refine r_gr E hw 22 1 76 (N := 29) (C := RX10) (T := TX10) (by decide) rfl rfl (by decide) rfl iw_10 rfl lf_RX10_13 dX10_factOf_91 ?_
              refine lv_iconst (v := (4 : Int32)) hx hb dX10_factOf_94 (by decide) ?_
              obtain ⟨b8, h⟩ := rd_some h
              refine r_ia E hw 76 1988 (by decide) (by decide) (by decide) rfl rfl b8 dX10_factOf_95 ?_
              have h := Option.some.inj h
              subst h
              rw [kr]
              exact r_ri E hw dX10_factOf_96
            · rw [if_neg c9] at h
              by_cases c11 : x1 = (6 : Int32)
              · rw [if_pos c11] at h
                refine lv_tableIn (tgt := 97) hx hb dX10_factOf_1 (by rw [c11]; decide) (by rw [c11]; decide) (by rw [c11]; rfl) (by decide) ?_
                refine lv_aload_n hx hb dX10_factOf_97 rfl (lv_at hl 0 rfl) ?_
                refine r_gi E hw 22 23 (N := 29) (C := RX10) (T := TX10) (by decide) rfl rfl (by decide) rfl iw_10 rfl lf_RX10_272 dX10_factOf_98 ?_
                refine lv_if_eq (tgt := 108) hx hb dX10_factOf_101 (by decide) (fun c10 => ?_) (fun c10 => ?_)
                · rw [if_pos c10] at h
                  refine lv_iconst (v := (0 : Int32)) hx hb dX10_factOf_108 (by decide) ?_
                  have h := Option.some.inj h
                  subst h
                  rw [kr]
                  exact r_ri E hw dX10_factOf_109
                · rw [if_neg c10] at h
                  refine lv_iconst (v := (1 : Int32)) hx hb dX10_factOf_104 (by decide) ?_
                  refine lv_goto (tgt := 109) hx hb dX10_factOf_105 (by decide) ?_
                  have h := Option.some.inj h
                  subst h
                  rw [kr]
                  exact r_ri E hw dX10_factOf_109
              · rw [if_neg c11] at h
                by_cases c13 : x1 = (7 : Int32)
                · rw [if_pos c13] at h
                  refine lv_tableIn (tgt := 110) hx hb dX10_factOf_1 (by rw [c13]; decide) (by rw [c13]; decide) (by rw [c13]; rfl) (by decide) ?_
                  refine lv_aload_n hx hb dX10_factOf_110 rfl (lv_at hl 0 rfl) ?_
                  refine r_gi E hw 22 24 (N := 29) (C := RX10) (T := TX10) (by decide) rfl rfl (by decide) rfl iw_10 rfl lf_RX10_275 dX10_factOf_111 ?_
                  refine lv_if_eq (tgt := 121) hx hb dX10_factOf_114 (by decide) (fun c12 => ?_) (fun c12 => ?_)
                  · rw [if_pos c12] at h
                    refine lv_iconst (v := (0 : Int32)) hx hb dX10_factOf_121 (by decide) ?_
                    have h := Option.some.inj h
                    subst h
                    rw [kr]
                    exact r_ri E hw dX10_factOf_122
                  · rw [if_neg c12] at h
                    refine lv_iconst (v := (1 : Int32)) hx hb dX10_factOf_117 (by decide) ?_
                    refine lv_goto (tgt := 122) hx hb dX10_factOf_118 (by decide) ?_
                    have h := Option.some.inj h
                    subst h
                    rw [kr]
                    exact r_ri E hw dX10_factOf_122
                · rw [if_neg c13] at h
                  by_cases c17 : x1 = (8 : Int32)
                  · rw [if_pos c17] at h
                    refine lv_tableIn (tgt := 123) hx hb dX10_factOf_1 (by rw [c17]; decide) (by rw [c17]; decide) (by rw [c17]; rfl) (by decide) ?_
                    refine lv_aload_n hx hb dX10_factOf_123 rfl (lv_at hl 0 rfl) ?_
                    obtain ⟨y15, h14, h⟩ := ob_R_some h
                    refine c_VI E hw (kX10_isInWindow (l := l) (G := G) hB  h14) yy_X10_isInWindow lm_RX10_278 rfl (by decide) rfl rfl hl.1 (by decide) (by decide) rfl (Nat.le_of_ble_eq_true rfl) dX10_factOf_124 (fun H locs hw => ?_)
                    refine lv_if_eq (tgt := 134) hx hb dX10_factOf_127 (by decide) (fun c16 => ?_) (fun c16 => ?_)
                    · rw [if_pos c16] at h
                      refine lv_iconst (v := (0 : Int32)) hx hb dX10_factOf_134 (by decide) ?_
                      have h := Option.some.inj h
                      subst h
                      rw [kr]
                      exact r_ri E hw dX10_factOf_135
                    · rw [if_neg c16] at h
                      refine lv_iconst (v := (1 : Int32)) hx hb dX10_factOf_130 (by decide) ?_
                      refine lv_goto (tgt := 135) hx hb dX10_factOf_131 (by decide) ?_
                      have h := Option.some.inj h
                      subst h
                      rw [kr]
                      exact r_ri E hw dX10_factOf_135
                  · rw [if_neg c17] at h
                    have nc1 := lv_neT (a := 0) c1 (by decide)
                    have nc2 := lv_neT (a := 1) c2 (by decide)
                    have nc3 := lv_neT (a := 2) c3 (by decide)
                    have nc6 := lv_neT (a := 3) c6 (by decide)
                    have nc7 := lv_neT (a := 4) c7 (by decide)
                    have nc9 := lv_neT (a := 5) c9 (by decide)
                    have nc11 := lv_neT (a := 6) c11 (by decide)
                    have nc13 := lv_neT (a := 7) c13 (by decide)
                    have nc17 := lv_neT (a := 8) c17 (by decide)
                    refine lv_tableOut (tgt := 136) hx hb dX10_factOf_1 (by omega) (by decide) ?_
                    refine lv_iload_n hx hb dX10_factOf_136 rfl (lv_at hl 2 rfl) ?_
                    have h := Option.some.inj h
                    subst h
                    rw [kr]
                    exact r_ri E hw dX10_factOf_137
/-! ===== AllSawItModel.holdsLine(I)Z ===== -/
theorem dX10_holdsLine_0 : decode cX10_holdsLine 0 = .ok (.iconst 0, 1) := by decide +kernel
theorem dX10_holdsLine_1 : decode cX10_holdsLine 1 = .ok (.istore_n 2, 1) := by decide +kernel
theorem dX10_holdsLine_2 : decode cX10_holdsLine 2 = .ok (.sipush 315, 3) := by decide +kernel
theorem dX10_holdsLine_5 : decode cX10_holdsLine 5 = .ok (.iconst 3, 1) := by decide +kernel
theorem dX10_holdsLine_6 : decode cX10_holdsLine 6 = .ok (.iload_n 1, 1) := by decide +kernel
theorem dX10_holdsLine_7 : decode cX10_holdsLine 7 = .ok (.imul, 1) := by decide +kernel
theorem dX10_holdsLine_8 : decode cX10_holdsLine 8 = .ok (.iadd, 1) := by decide +kernel
theorem dX10_holdsLine_9 : decode cX10_holdsLine 9 = .ok (.istore_n 3, 1) := by decide +kernel
theorem dX10_holdsLine_10 : decode cX10_holdsLine 10 = .ok (.aload_n 0, 1) := by decide +kernel
theorem dX10_holdsLine_11 : decode cX10_holdsLine 11 = .ok (.getfield 13, 3) := by decide +kernel
theorem dX10_holdsLine_14 : decode cX10_holdsLine 14 = .ok (.iload_n 3, 1) := by decide +kernel
theorem dX10_holdsLine_15 : decode cX10_holdsLine 15 = .ok (.iconst 1, 1) := by decide +kernel
theorem dX10_holdsLine_16 : decode cX10_holdsLine 16 = .ok (.iadd, 1) := by decide +kernel
theorem dX10_holdsLine_17 : decode cX10_holdsLine 17 = .ok (.iaload, 1) := by decide +kernel
theorem dX10_holdsLine_18 : decode cX10_holdsLine 18 = .ok (.istore 4, 2) := by decide +kernel
theorem dX10_holdsLine_20 : decode cX10_holdsLine 20 = .ok (.iload 4, 2) := by decide +kernel
theorem dX10_holdsLine_22 : decode cX10_holdsLine 22 = .ok (.aload_n 0, 1) := by decide +kernel
theorem dX10_holdsLine_23 : decode cX10_holdsLine 23 = .ok (.getfield 13, 3) := by decide +kernel
theorem dX10_holdsLine_26 : decode cX10_holdsLine 26 = .ok (.iload_n 3, 1) := by decide +kernel
theorem dX10_holdsLine_27 : decode cX10_holdsLine 27 = .ok (.iconst 2, 1) := by decide +kernel
theorem dX10_holdsLine_28 : decode cX10_holdsLine 28 = .ok (.iadd, 1) := by decide +kernel
theorem dX10_holdsLine_29 : decode cX10_holdsLine 29 = .ok (.iaload, 1) := by decide +kernel
theorem dX10_holdsLine_30 : decode cX10_holdsLine 30 = .ok (.if_icmp .ge 229, 3) := by decide +kernel
theorem dX10_holdsLine_33 : decode cX10_holdsLine 33 = .ok (.aload_n 0, 1) := by decide +kernel
theorem dX10_holdsLine_34 : decode cX10_holdsLine 34 = .ok (.getfield 13, 3) := by decide +kernel
theorem dX10_holdsLine_37 : decode cX10_holdsLine 37 = .ok (.sipush 351, 3) := by decide +kernel
theorem dX10_holdsLine_40 : decode cX10_holdsLine 40 = .ok (.iconst 2, 1) := by decide +kernel
theorem dX10_holdsLine_41 : decode cX10_holdsLine 41 = .ok (.iload 4, 2) := by decide +kernel
theorem dX10_holdsLine_43 : decode cX10_holdsLine 43 = .ok (.imul, 1) := by decide +kernel
theorem dX10_holdsLine_44 : decode cX10_holdsLine 44 = .ok (.iadd, 1) := by decide +kernel
theorem dX10_holdsLine_45 : decode cX10_holdsLine 45 = .ok (.iaload, 1) := by decide +kernel
theorem dX10_holdsLine_46 : decode cX10_holdsLine 46 = .ok (.istore 5, 2) := by decide +kernel
theorem dX10_holdsLine_48 : decode cX10_holdsLine 48 = .ok (.iload 5, 2) := by decide +kernel
theorem dX10_holdsLine_50 : decode cX10_holdsLine 50 = .ok (.bipush 9, 2) := by decide +kernel
theorem dX10_holdsLine_52 : decode cX10_holdsLine 52 = .ok (.if_icmp .gt 36, 3) := by decide +kernel
theorem dX10_holdsLine_55 : decode cX10_holdsLine 55 = .ok (.aload_n 0, 1) := by decide +kernel
theorem dX10_holdsLine_56 : decode cX10_holdsLine 56 = .ok (.getfield 39, 3) := by decide +kernel
theorem dX10_holdsLine_59 : decode cX10_holdsLine 59 = .ok (.iload_n 2, 1) := by decide +kernel
theorem dX10_holdsLine_60 : decode cX10_holdsLine 60 = .ok (.aload_n 0, 1) := by decide +kernel
theorem dX10_holdsLine_61 : decode cX10_holdsLine 61 = .ok (.iload 5, 2) := by decide +kernel
theorem dX10_holdsLine_63 : decode cX10_holdsLine 63 = .ok (.aload_n 0, 1) := by decide +kernel
theorem dX10_holdsLine_64 : decode cX10_holdsLine 64 = .ok (.getfield 13, 3) := by decide +kernel
theorem dX10_holdsLine_67 : decode cX10_holdsLine 67 = .ok (.sipush 351, 3) := by decide +kernel
theorem dX10_holdsLine_70 : decode cX10_holdsLine 70 = .ok (.iconst 2, 1) := by decide +kernel
theorem dX10_holdsLine_71 : decode cX10_holdsLine 71 = .ok (.iload 4, 2) := by decide +kernel
theorem dX10_holdsLine_73 : decode cX10_holdsLine 73 = .ok (.imul, 1) := by decide +kernel
theorem dX10_holdsLine_74 : decode cX10_holdsLine 74 = .ok (.iadd, 1) := by decide +kernel
theorem dX10_holdsLine_75 : decode cX10_holdsLine 75 = .ok (.iconst 1, 1) := by decide +kernel
theorem dX10_holdsLine_76 : decode cX10_holdsLine 76 = .ok (.iadd, 1) := by decide +kernel
theorem dX10_holdsLine_77 : decode cX10_holdsLine 77 = .ok (.iaload, 1) := by decide +kernel
theorem dX10_holdsLine_78 : decode cX10_holdsLine 78 = .ok (.invokevirtual 281, 3) := by decide +kernel
theorem dX10_holdsLine_81 : decode cX10_holdsLine 81 = .ok (.iastore, 1) := by decide +kernel
theorem dX10_holdsLine_82 : decode cX10_holdsLine 82 = .ok (.iinc 2 1, 3) := by decide +kernel
theorem dX10_holdsLine_85 : decode cX10_holdsLine 85 = .ok (.goto 168, 3) := by decide +kernel
theorem dX10_holdsLine_88 : decode cX10_holdsLine 88 = .ok (.iload 5, 2) := by decide +kernel
theorem dX10_holdsLine_90 : decode cX10_holdsLine 90 = .ok (.bipush 13, 2) := by decide +kernel
theorem dX10_holdsLine_92 : decode cX10_holdsLine 92 = .ok (.if_icmp .ne 24, 3) := by decide +kernel
theorem dX10_holdsLine_95 : decode cX10_holdsLine 95 = .ok (.aload_n 0, 1) := by decide +kernel
theorem dX10_holdsLine_96 : decode cX10_holdsLine 96 = .ok (.getfield 39, 3) := by decide +kernel
theorem dX10_holdsLine_99 : decode cX10_holdsLine 99 = .ok (.iload_n 2, 1) := by decide +kernel
theorem dX10_holdsLine_100 : decode cX10_holdsLine 100 = .ok (.iconst 1, 1) := by decide +kernel
theorem dX10_holdsLine_101 : decode cX10_holdsLine 101 = .ok (.isub, 1) := by decide +kernel
theorem dX10_holdsLine_102 : decode cX10_holdsLine 102 = .ok (.iconst 1, 1) := by decide +kernel
theorem dX10_holdsLine_103 : decode cX10_holdsLine 103 = .ok (.aload_n 0, 1) := by decide +kernel
theorem dX10_holdsLine_104 : decode cX10_holdsLine 104 = .ok (.getfield 39, 3) := by decide +kernel
theorem dX10_holdsLine_107 : decode cX10_holdsLine 107 = .ok (.iload_n 2, 1) := by decide +kernel
theorem dX10_holdsLine_108 : decode cX10_holdsLine 108 = .ok (.iconst 1, 1) := by decide +kernel
theorem dX10_holdsLine_109 : decode cX10_holdsLine 109 = .ok (.isub, 1) := by decide +kernel
theorem dX10_holdsLine_110 : decode cX10_holdsLine 110 = .ok (.iaload, 1) := by decide +kernel
theorem dX10_holdsLine_111 : decode cX10_holdsLine 111 = .ok (.isub, 1) := by decide +kernel
theorem dX10_holdsLine_112 : decode cX10_holdsLine 112 = .ok (.iastore, 1) := by decide +kernel
theorem dX10_holdsLine_113 : decode cX10_holdsLine 113 = .ok (.goto 140, 3) := by decide +kernel
theorem dX10_holdsLine_116 : decode cX10_holdsLine 116 = .ok (.iinc 2 (-1), 3) := by decide +kernel
theorem dX10_holdsLine_119 : decode cX10_holdsLine 119 = .ok (.aload_n 0, 1) := by decide +kernel
theorem dX10_holdsLine_120 : decode cX10_holdsLine 120 = .ok (.getfield 39, 3) := by decide +kernel
theorem dX10_holdsLine_123 : decode cX10_holdsLine 123 = .ok (.iload_n 2, 1) := by decide +kernel
theorem dX10_holdsLine_124 : decode cX10_holdsLine 124 = .ok (.iconst 1, 1) := by decide +kernel
theorem dX10_holdsLine_125 : decode cX10_holdsLine 125 = .ok (.isub, 1) := by decide +kernel
theorem dX10_holdsLine_126 : decode cX10_holdsLine 126 = .ok (.iaload, 1) := by decide +kernel
theorem dX10_holdsLine_127 : decode cX10_holdsLine 127 = .ok (.istore 6, 2) := by decide +kernel
theorem dX10_holdsLine_129 : decode cX10_holdsLine 129 = .ok (.aload_n 0, 1) := by decide +kernel
theorem dX10_holdsLine_130 : decode cX10_holdsLine 130 = .ok (.getfield 39, 3) := by decide +kernel
theorem dX10_holdsLine_133 : decode cX10_holdsLine 133 = .ok (.iload_n 2, 1) := by decide +kernel
theorem dX10_holdsLine_134 : decode cX10_holdsLine 134 = .ok (.iaload, 1) := by decide +kernel
theorem dX10_holdsLine_135 : decode cX10_holdsLine 135 = .ok (.istore 7, 2) := by decide +kernel
theorem dX10_holdsLine_137 : decode cX10_holdsLine 137 = .ok (.iload 5, 2) := by decide +kernel
theorem dX10_holdsLine_139 : decode cX10_holdsLine 139 = .ok (.bipush 11, 2) := by decide +kernel
theorem dX10_holdsLine_141 : decode cX10_holdsLine 141 = .ok (.if_icmp .ne 18, 3) := by decide +kernel
theorem dX10_holdsLine_144 : decode cX10_holdsLine 144 = .ok (.iload 6, 2) := by decide +kernel
theorem dX10_holdsLine_146 : decode cX10_holdsLine 146 = .ok (.iload 7, 2) := by decide +kernel
theorem dX10_holdsLine_148 : decode cX10_holdsLine 148 = .ok (.if_icmp .ge 7, 3) := by decide +kernel
theorem dX10_holdsLine_151 : decode cX10_holdsLine 151 = .ok (.iconst 1, 1) := by decide +kernel
theorem dX10_holdsLine_152 : decode cX10_holdsLine 152 = .ok (.goto 66, 3) := by decide +kernel
theorem dX10_holdsLine_155 : decode cX10_holdsLine 155 = .ok (.iconst 0, 1) := by decide +kernel
theorem dX10_holdsLine_156 : decode cX10_holdsLine 156 = .ok (.goto 62, 3) := by decide +kernel
theorem dX10_holdsLine_159 : decode cX10_holdsLine 159 = .ok (.iload 5, 2) := by decide +kernel
theorem dX10_holdsLine_161 : decode cX10_holdsLine 161 = .ok (.bipush 12, 2) := by decide +kernel
theorem dX10_holdsLine_163 : decode cX10_holdsLine 163 = .ok (.if_icmp .ne 18, 3) := by decide +kernel
theorem dX10_holdsLine_166 : decode cX10_holdsLine 166 = .ok (.iload 6, 2) := by decide +kernel
theorem dX10_holdsLine_168 : decode cX10_holdsLine 168 = .ok (.iload 7, 2) := by decide +kernel
theorem dX10_holdsLine_170 : decode cX10_holdsLine 170 = .ok (.if_icmp .le 7, 3) := by decide +kernel
theorem dX10_holdsLine_173 : decode cX10_holdsLine 173 = .ok (.iconst 1, 1) := by decide +kernel
theorem dX10_holdsLine_174 : decode cX10_holdsLine 174 = .ok (.goto 44, 3) := by decide +kernel
theorem dX10_holdsLine_177 : decode cX10_holdsLine 177 = .ok (.iconst 0, 1) := by decide +kernel
theorem dX10_holdsLine_178 : decode cX10_holdsLine 178 = .ok (.goto 40, 3) := by decide +kernel
theorem dX10_holdsLine_181 : decode cX10_holdsLine 181 = .ok (.iload 5, 2) := by decide +kernel
theorem dX10_holdsLine_183 : decode cX10_holdsLine 183 = .ok (.bipush 14, 2) := by decide +kernel
theorem dX10_holdsLine_185 : decode cX10_holdsLine 185 = .ok (.if_icmp .ne 20, 3) := by decide +kernel
theorem dX10_holdsLine_188 : decode cX10_holdsLine 188 = .ok (.iload 6, 2) := by decide +kernel
theorem dX10_holdsLine_190 : decode cX10_holdsLine 190 = .ok (.iload 7, 2) := by decide +kernel
theorem dX10_holdsLine_192 : decode cX10_holdsLine 192 = .ok (.iadd, 1) := by decide +kernel
theorem dX10_holdsLine_193 : decode cX10_holdsLine 193 = .ok (.iconst 2, 1) := by decide +kernel
theorem dX10_holdsLine_194 : decode cX10_holdsLine 194 = .ok (.if_icmp .ne 7, 3) := by decide +kernel
theorem dX10_holdsLine_197 : decode cX10_holdsLine 197 = .ok (.iconst 1, 1) := by decide +kernel
theorem dX10_holdsLine_198 : decode cX10_holdsLine 198 = .ok (.goto 20, 3) := by decide +kernel
theorem dX10_holdsLine_201 : decode cX10_holdsLine 201 = .ok (.iconst 0, 1) := by decide +kernel
theorem dX10_holdsLine_202 : decode cX10_holdsLine 202 = .ok (.goto 16, 3) := by decide +kernel
theorem dX10_holdsLine_205 : decode cX10_holdsLine 205 = .ok (.iload 6, 2) := by decide +kernel
theorem dX10_holdsLine_207 : decode cX10_holdsLine 207 = .ok (.iload 7, 2) := by decide +kernel
theorem dX10_holdsLine_209 : decode cX10_holdsLine 209 = .ok (.iadd, 1) := by decide +kernel
theorem dX10_holdsLine_210 : decode cX10_holdsLine 210 = .ok (.ifCond .le 7, 3) := by decide +kernel
theorem dX10_holdsLine_213 : decode cX10_holdsLine 213 = .ok (.iconst 1, 1) := by decide +kernel
theorem dX10_holdsLine_214 : decode cX10_holdsLine 214 = .ok (.goto 4, 3) := by decide +kernel
theorem dX10_holdsLine_217 : decode cX10_holdsLine 217 = .ok (.iconst 0, 1) := by decide +kernel
theorem dX10_holdsLine_218 : decode cX10_holdsLine 218 = .ok (.istore 8, 2) := by decide +kernel
theorem dX10_holdsLine_220 : decode cX10_holdsLine 220 = .ok (.aload_n 0, 1) := by decide +kernel
theorem dX10_holdsLine_221 : decode cX10_holdsLine 221 = .ok (.getfield 39, 3) := by decide +kernel
theorem dX10_holdsLine_224 : decode cX10_holdsLine 224 = .ok (.iload_n 2, 1) := by decide +kernel
theorem dX10_holdsLine_225 : decode cX10_holdsLine 225 = .ok (.iconst 1, 1) := by decide +kernel
theorem dX10_holdsLine_226 : decode cX10_holdsLine 226 = .ok (.isub, 1) := by decide +kernel
theorem dX10_holdsLine_227 : decode cX10_holdsLine 227 = .ok (.iload 5, 2) := by decide +kernel
theorem dX10_holdsLine_229 : decode cX10_holdsLine 229 = .ok (.bipush 10, 2) := by decide +kernel
theorem dX10_holdsLine_231 : decode cX10_holdsLine 231 = .ok (.if_icmp .ne 11, 3) := by decide +kernel
theorem dX10_holdsLine_234 : decode cX10_holdsLine 234 = .ok (.iload 6, 2) := by decide +kernel
theorem dX10_holdsLine_236 : decode cX10_holdsLine 236 = .ok (.iload 7, 2) := by decide +kernel
theorem dX10_holdsLine_238 : decode cX10_holdsLine 238 = .ok (.iadd, 1) := by decide +kernel
theorem dX10_holdsLine_239 : decode cX10_holdsLine 239 = .ok (.goto 13, 3) := by decide +kernel
theorem dX10_holdsLine_242 : decode cX10_holdsLine 242 = .ok (.iload 8, 2) := by decide +kernel
theorem dX10_holdsLine_244 : decode cX10_holdsLine 244 = .ok (.ifCond .eq 7, 3) := by decide +kernel
theorem dX10_holdsLine_247 : decode cX10_holdsLine 247 = .ok (.iconst 1, 1) := by decide +kernel
theorem dX10_holdsLine_248 : decode cX10_holdsLine 248 = .ok (.goto 4, 3) := by decide +kernel
theorem dX10_holdsLine_251 : decode cX10_holdsLine 251 = .ok (.iconst 0, 1) := by decide +kernel
theorem dX10_holdsLine_252 : decode cX10_holdsLine 252 = .ok (.iastore, 1) := by decide +kernel
theorem dX10_holdsLine_253 : decode cX10_holdsLine 253 = .ok (.iinc 4 1, 3) := by decide +kernel
theorem dX10_holdsLine_256 : decode cX10_holdsLine 256 = .ok (.goto (-236), 3) := by decide +kernel
theorem dX10_holdsLine_259 : decode cX10_holdsLine 259 = .ok (.iload_n 2, 1) := by decide +kernel
theorem dX10_holdsLine_260 : decode cX10_holdsLine 260 = .ok (.ifCond .eq 13, 3) := by decide +kernel
theorem dX10_holdsLine_263 : decode cX10_holdsLine 263 = .ok (.aload_n 0, 1) := by decide +kernel
theorem dX10_holdsLine_264 : decode cX10_holdsLine 264 = .ok (.getfield 39, 3) := by decide +kernel
theorem dX10_holdsLine_267 : decode cX10_holdsLine 267 = .ok (.iconst 0, 1) := by decide +kernel
theorem dX10_holdsLine_268 : decode cX10_holdsLine 268 = .ok (.iaload, 1) := by decide +kernel
theorem dX10_holdsLine_269 : decode cX10_holdsLine 269 = .ok (.iconst 1, 1) := by decide +kernel
theorem dX10_holdsLine_270 : decode cX10_holdsLine 270 = .ok (.if_icmp .ne 7, 3) := by decide +kernel
theorem dX10_holdsLine_273 : decode cX10_holdsLine 273 = .ok (.iconst 1, 1) := by decide +kernel
theorem dX10_holdsLine_274 : decode cX10_holdsLine 274 = .ok (.goto 4, 3) := by decide +kernel
theorem dX10_holdsLine_277 : decode cX10_holdsLine 277 = .ok (.iconst 0, 1) := by decide +kernel
theorem dX10_holdsLine_278 : decode cX10_holdsLine 278 = .ok (.ireturn, 1) := by decide +kernel
noncomputable def fX10_holdsLine_j218_20 (V : VT) (u2 : Int32) (u3 : Int32) (u4 : Int32) (u5 : Int32) (u6 : Int32) (u7 : Int32) (t0 : Int32) : Option ((VT × Int32 × Int32 × Int32) ⊕ (VT × Int32)) := if u5 = (10 : Int32) then (rd_ (u2 - (1 : Int32)) 400 (lt_ (va_up V 83 (upd (V 83) (u2 - (1 : Int32)).toNatClampNeg (u6 + u7))) fun V20 => lt_ (u4 + (1 : Int32)) fun y21 => some (.inl (V20, u2, u3, y21)))) else (if t0 = 0 then (rd_ (u2 - (1 : Int32)) 400 (lt_ (va_up V 83 (upd (V 83) (u2 - (1 : Int32)).toNatClampNeg (0 : Int32))) fun V13 => lt_ (u4 + (1 : Int32)) fun y14 => some (.inl (V13, u2, u3, y14)))) else (rd_ (u2 - (1 : Int32)) 400 (lt_ (va_up V 83 (upd (V 83) (u2 - (1 : Int32)).toNatClampNeg (1 : Int32))) fun V16 => lt_ (u4 + (1 : Int32)) fun y17 => some (.inl (V16, u2, u3, y17)))))
noncomputable def fX10_holdsLine_L20 (V : VT) (u2 : Int32) (u3 : Int32) (u4 : Int32) : Option ((VT × Int32 × Int32 × Int32) ⊕ (VT × Int32)) := rd_ (u3 + (2 : Int32)) 1988 (if (V 76 (u3 + (2 : Int32)).toNatClampNeg) ≤ u4 then (some (.inr ((V, u2)))) else (rd_ ((351 : Int32) + ((2 : Int32) * u4)) 1988 (lt_ (V 76 ((351 : Int32) + ((2 : Int32) * u4)).toNatClampNeg) fun y6 => if (9 : Int32) < y6 then (if y6 = (13 : Int32) then (rd_ (u2 - (1 : Int32)) 400 (rd_ (u2 - (1 : Int32)) 400 (lt_ (va_up V 83 (upd (V 83) (u2 - (1 : Int32)).toNatClampNeg ((1 : Int32) - (V 83 (u2 - (1 : Int32)).toNatClampNeg)))) fun V32 => lt_ (u4 + (1 : Int32)) fun y33 => some (.inl (V32, u2, u3, y33))))) else (lt_ (u2 + (-1 : Int32)) fun y7 => rd_ (y7 - (1 : Int32)) 400 (lt_ (V 83 (y7 - (1 : Int32)).toNatClampNeg) fun y9 => rd_ y7 400 (lt_ (V 83 y7.toNatClampNeg) fun y11 => if y6 = (11 : Int32) then (if y11 ≤ y9 then (fX10_holdsLine_j218_20 V y7 u3 u4 y6 y9 y11 (0 : Int32)) else (fX10_holdsLine_j218_20 V y7 u3 u4 y6 y9 y11 (1 : Int32))) else (if y6 = (12 : Int32) then (if y9 ≤ y11 then (fX10_holdsLine_j218_20 V y7 u3 u4 y6 y9 y11 (0 : Int32)) else (fX10_holdsLine_j218_20 V y7 u3 u4 y6 y9 y11 (1 : Int32))) else (if y6 = (14 : Int32) then (if (y9 + y11) = (2 : Int32) then (fX10_holdsLine_j218_20 V y7 u3 u4 y6 y9 y11 (1 : Int32)) else (fX10_holdsLine_j218_20 V y7 u3 u4 y6 y9 y11 (0 : Int32))) else (if (y9 + y11) ≤ 0 then (fX10_holdsLine_j218_20 V y7 u3 u4 y6 y9 y11 (0 : Int32)) else (fX10_holdsLine_j218_20 V y7 u3 u4 y6 y9 y11 (1 : Int32))))))))) else (rd_ (((351 : Int32) + ((2 : Int32) * u4)) + (1 : Int32)) 1988 (ob_R (fX10_factOf V y6 (V 76 (((351 : Int32) + ((2 : Int32) * u4)) + (1 : Int32)).toNatClampNeg)) fun y37 => rd_ u2 400 (lt_ (va_up V 83 (upd (V 83) u2.toNatClampNeg y37)) fun V39 => lt_ (u2 + (1 : Int32)) fun y40 => lt_ (u4 + (1 : Int32)) fun y41 => some (.inl (V39, y40, u3, y41))))))))
noncomputable def iX10_holdsLine_L20 : (VT × Int32 × Int32 × Int32) → Option ((VT × Int32 × Int32 × Int32) ⊕ (VT × Int32)) := fun q => fX10_holdsLine_L20 (q.1) (q.2.1) (q.2.2.1) (q.2.2.2)
noncomputable def fX10_holdsLine (V : VT) (x1 : Int32) : Option (Int32 × VT) := lt_ ((315 : Int32) + ((3 : Int32) * x1)) fun y1 => rd_ (y1 + (1 : Int32)) 1988 (lt_ (V 76 (y1 + (1 : Int32)).toNatClampNeg) fun y3 => ob_R (it_ (iX10_holdsLine_L20) FV (V, (0 : Int32), y1, y3)) fun x45 => (dt2_ x45 fun V47 y46 => if y46 = 0 then (zo_ (1 : Int32) (some ((1 : Int32), V47))) else (rd_ (0 : Int32) 400 (if (V47 83 (0 : Int32).toNatClampNeg) = (1 : Int32) then (zo_ (1 : Int32) (some ((1 : Int32), V47))) else (zo_ (0 : Int32) (some ((0 : Int32), V47)))))))
set_option maxHeartbeats 4000000 in
set_option maxRecDepth 100000 in
theorem wX10_holdsLine_j218_20 {p : Program} {l : Launch} {e : Env} {s : State} {m : MethodId} {args : Array Value} {below : List Frame} {meth : Method} {c : Code} {G : GT} {B : BGt} {Q : State → Prop} (E : En p s m args c meth cX10_holdsLine 9 RX10 (some .boolean) G B) {V : VT} {u2 : Int32} {u3 : Int32} {u4 : Int32} {u5 : Int32} {u6 : Int32} {u7 : Int32} {t0 : Int32} {r : ((VT × Int32 × Int32 × Int32) ⊕ (VT × Int32))} (h : fX10_holdsLine_j218_20 V u2 u3 u4 u5 u6 u7 t0 = some r) (kc : ∀ q : (VT × Int32 × Int32 × Int32), r = .inl q → ∀ (H : Heap) (locs : List Loc) (ls : Array Slot), HW G s.heap (q.1) H locs → lv_has ls 9 [(0, .ref (G.2.2 22)), (2, .int (q.2.1)), (3, .int (q.2.2.1)), (4, .int (q.2.2.2))] → W p l e (rmD 7) s m args below meth c H locs 0 0 Q (F0 m 20 ls [])) (ke : ∀ q : (VT × Int32), r = .inr (q) → ∀ (H : Heap) (locs : List Loc) (ls : Array Slot), HW G s.heap (q.1) H locs → lv_has ls 9 [(0, .ref (G.2.2 22)), (2, .int (q.2))] → W p l e (rmD 7) s m args below meth c H locs 0 0 Q (F0 m 259 ls [])) {H : Heap} {locs : List Loc} {ls : Array Slot} (hw : HW G s.heap V H locs) (hl : lv_has ls 9 [(0, .ref (G.2.2 22)), (2, .int u2), (3, .int u3), (4, .int u4), (5, .int u5), (6, .int u6), (7, .int u7)]) : W p l e (rmD 7) s m args below meth c H locs 0 0 Q (F0 m 218 ls [.int t0]) := by
  have hx := en_x E
  have hb := en_b E
  have hB := en_B E
  unfold fX10_holdsLine_j218_20 at h
  refine lv_istore (lv' := [(8, .int t0), (0, .ref (G.2.2 22)), (2, .int u2), (3, .int u3), (4, .int u4), (5, .int u5), (6, .int u6), (7, .int u7)]) hx hb dX10_holdsLine_218 hl (by decide) rfl (fun ls hl => ?_)
  refine lv_aload_n hx hb dX10_holdsLine_220 rfl (lv_at hl 1 rfl) ?_
  refine r_gr E hw 22 17 83 (N := 29) (C := RX10) (T := TX10) (by decide) rfl rfl (by decide) rfl iw_10 rfl lf_RX10_39 dX10_holdsLine_221 ?_
  refine lv_iload_n hx hb dX10_holdsLine_224 rfl (lv_at hl 2 rfl) ?_
  refine lv_iconst (v := (1 : Int32)) hx hb dX10_holdsLine_225 (by decide) ?_
  refine lv_isub hx hb dX10_holdsLine_226 ?_
  refine lv_iload hx hb dX10_holdsLine_227 (lv_at hl 5 rfl) ?_
  refine lv_bipush (v := (10 : Int32)) hx hb dX10_holdsLine_229 (by decide) ?_
  refine lv_icmp_ne (tgt := 242) hx hb dX10_holdsLine_231 (by decide) (fun c22 => ?_) (fun c22 => ?_)
  · rw [if_neg c22] at h
    refine lv_iload hx hb dX10_holdsLine_242 (lv_at hl 0 rfl) ?_
    refine lv_if_eq (tgt := 251) hx hb dX10_holdsLine_244 (by decide) (fun c18 => ?_) (fun c18 => ?_)
    · rw [if_pos c18] at h
      refine lv_iconst (v := (0 : Int32)) hx hb dX10_holdsLine_251 (by decide) ?_
      obtain ⟨b12, h⟩ := rd_some h
      obtain ⟨V13, eV13, h⟩ := lt_some h
      refine r_is E hw 83 400 (by decide) (by decide) (by decide) rfl rfl b12 eV13 dX10_holdsLine_252 (fun H locs hw => ?_)
      obtain ⟨y14, ey14, h⟩ := lt_some h
      refine lv_iinc (v := y14) (lv' := [(4, .int y14), (8, .int t0), (0, .ref (G.2.2 22)), (2, .int u2), (3, .int u3), (5, .int u5), (6, .int u6), (7, .int u7)]) hx hb dX10_holdsLine_253 hl (k := 4) rfl (by rw [ey14]; rfl) (by decide) rfl (fun ls hl => ?_)
      refine lv_goto (tgt := 20) hx hb dX10_holdsLine_256 (by decide) ?_
      exact kc (V13, u2, u3, y14) (Option.some.inj h).symm H locs ls hw (lv_sub hl [2, 3, 4, 0] rfl)
    · rw [if_neg c18] at h
      refine lv_iconst (v := (1 : Int32)) hx hb dX10_holdsLine_247 (by decide) ?_
      refine lv_goto (tgt := 252) hx hb dX10_holdsLine_248 (by decide) ?_
      obtain ⟨b15, h⟩ := rd_some h
      obtain ⟨V16, eV16, h⟩ := lt_some h
      refine r_is E hw 83 400 (by decide) (by decide) (by decide) rfl rfl b15 eV16 dX10_holdsLine_252 (fun H locs hw => ?_)
      obtain ⟨y17, ey17, h⟩ := lt_some h
      refine lv_iinc (v := y17) (lv' := [(4, .int y17), (8, .int t0), (0, .ref (G.2.2 22)), (2, .int u2), (3, .int u3), (5, .int u5), (6, .int u6), (7, .int u7)]) hx hb dX10_holdsLine_253 hl (k := 4) rfl (by rw [ey17]; rfl) (by decide) rfl (fun ls hl => ?_)
      refine lv_goto (tgt := 20) hx hb dX10_holdsLine_256 (by decide) ?_
      exact kc (V16, u2, u3, y17) (Option.some.inj h).symm H locs ls hw (lv_sub hl [2, 3, 4, 0] rfl)
  · rw [if_pos c22] at h
    refine lv_iload hx hb dX10_holdsLine_234 (lv_at hl 6 rfl) ?_
    refine lv_iload hx hb dX10_holdsLine_236 (lv_at hl 7 rfl) ?_
    refine lv_iadd hx hb dX10_holdsLine_238 ?_
    refine lv_goto (tgt := 252) hx hb dX10_holdsLine_239 (by decide) ?_
    obtain ⟨b19, h⟩ := rd_some h
    obtain ⟨V20, eV20, h⟩ := lt_some h
    refine r_is E hw 83 400 (by decide) (by decide) (by decide) rfl rfl b19 eV20 dX10_holdsLine_252 (fun H locs hw => ?_)
    obtain ⟨y21, ey21, h⟩ := lt_some h
    refine lv_iinc (v := y21) (lv' := [(4, .int y21), (8, .int t0), (0, .ref (G.2.2 22)), (2, .int u2), (3, .int u3), (5, .int u5), (6, .int u6), (7, .int u7)]) hx hb dX10_holdsLine_253 hl (k := 4) rfl (by rw [ey21]; rfl) (by decide) rfl (fun ls hl => ?_)
    refine lv_goto (tgt := 20) hx hb dX10_holdsLine_256 (by decide) ?_
    exact kc (V20, u2, u3, y21) (Option.some.inj h).symm H locs ls hw (lv_sub hl [2, 3, 4, 0] rfl)
set_option maxHeartbeats 4000000 in
set_option maxRecDepth 100000 in
theorem wX10_holdsLine_L20 {p : Program} {l : Launch} {e : Env} {s : State} {m : MethodId} {args : Array Value} {below : List Frame} {meth : Method} {c : Code} {G : GT} {B : BGt} {Q : State → Prop} (E : En p s m args c meth cX10_holdsLine 9 RX10 (some .boolean) G B) {x : (VT × Int32)} (ke : ∀ q : (VT × Int32), x = q → ∀ (H : Heap) (locs : List Loc) (ls : Array Slot), HW G s.heap (q.1) H locs → lv_has ls 9 [(0, .ref (G.2.2 22)), (2, .int (q.2))] → W p l e (rmD 7) s m args below meth c H locs 0 0 Q (F0 m 259 ls [])) : ∀ (n : Nat) (q : (VT × Int32 × Int32 × Int32)), it_ (iX10_holdsLine_L20) n q = some x → ∀ (H : Heap) (locs : List Loc) (ls : Array Slot), HW G s.heap (q.1) H locs → lv_has ls 9 [(0, .ref (G.2.2 22)), (2, .int (q.2.1)), (3, .int (q.2.2.1)), (4, .int (q.2.2.2))] → W p l e (rmD 7) s m args below meth c H locs 0 0 Q (F0 m 20 ls []) := by
  have hx := en_x E
  have hb := en_b E
  have hB := en_B E
  refine it_W (fun q : (VT × Int32 × Int32 × Int32) => ∀ (H : Heap) (locs : List Loc) (ls : Array Slot), HW G s.heap (q.1) H locs → lv_has ls 9 [(0, .ref (G.2.2 22)), (2, .int (q.2.1)), (3, .int (q.2.2.1)), (4, .int (q.2.2.2))] → W p l e (rmD 7) s m args below meth c H locs 0 0 Q (F0 m 20 ls [])) x ?_
  intro q r h kc kx
  obtain ⟨V, u2, u3, u4⟩ := q
  intro H locs ls hw hl
  have h : fX10_holdsLine_L20 V u2 u3 u4 = some r := h
  have hw : HW G s.heap V H locs := hw
  have hl : lv_has ls 9 [(0, .ref (G.2.2 22)), (2, .int u2), (3, .int u3), (4, .int u4)] := hl
  have ke : ∀ q : (VT × Int32), r = .inr (q) → ∀ (H : Heap) (locs : List Loc) (ls : Array Slot), HW G s.heap (q.1) H locs → lv_has ls 9 [(0, .ref (G.2.2 22)), (2, .int (q.2))] → W p l e (rmD 7) s m args below meth c H locs 0 0 Q (F0 m 259 ls []) := fun q e => ke q (kx _ e).symm
  unfold fX10_holdsLine_L20 at h
  refine lv_iload hx hb dX10_holdsLine_20 (lv_at hl 3 rfl) ?_
  refine lv_aload_n hx hb dX10_holdsLine_22 rfl (lv_at hl 0 rfl) ?_
  refine r_gr E hw 22 1 76 (N := 29) (C := RX10) (T := TX10) (by decide) rfl rfl (by decide) rfl iw_10 rfl lf_RX10_13 dX10_holdsLine_23 ?_
  refine lv_iload_n hx hb dX10_holdsLine_26 rfl (lv_at hl 2 rfl) ?_
  refine lv_iconst (v := (2 : Int32)) hx hb dX10_holdsLine_27 (by decide) ?_
  refine lv_iadd hx hb dX10_holdsLine_28 ?_
  obtain ⟨b4, h⟩ := rd_some h
  refine r_ia E hw 76 1988 (by decide) (by decide) (by decide) rfl rfl b4 dX10_holdsLine_29 ?_
  refine lv_icmp_ge (tgt := 259) hx hb dX10_holdsLine_30 (by decide) (fun c43 => ?_) (fun c43 => ?_)
  · rw [if_pos c43] at h
    exact ke (V, u2) (Option.some.inj h).symm H locs ls hw (lv_sub hl [0, 1] rfl)
  · rw [if_neg c43] at h
    refine lv_aload_n hx hb dX10_holdsLine_33 rfl (lv_at hl 0 rfl) ?_
    refine r_gr E hw 22 1 76 (N := 29) (C := RX10) (T := TX10) (by decide) rfl rfl (by decide) rfl iw_10 rfl lf_RX10_13 dX10_holdsLine_34 ?_
    refine lv_sipush (v := (351 : Int32)) hx hb dX10_holdsLine_37 (by decide) ?_
    refine lv_iconst (v := (2 : Int32)) hx hb dX10_holdsLine_40 (by decide) ?_
    refine lv_iload hx hb dX10_holdsLine_41 (lv_at hl 3 rfl) ?_
    refine lv_imul hx hb dX10_holdsLine_43 ?_
    refine lv_iadd hx hb dX10_holdsLine_44 ?_
    obtain ⟨b5, h⟩ := rd_some h
    refine r_ia E hw 76 1988 (by decide) (by decide) (by decide) rfl rfl b5 dX10_holdsLine_45 ?_
    obtain ⟨y6, ey6, h⟩ := lt_some h
    refine lv_eqi ey6 ?_
    refine lv_istore (lv' := [(5, .int y6), (0, .ref (G.2.2 22)), (2, .int u2), (3, .int u3), (4, .int u4)]) hx hb dX10_holdsLine_46 hl (by decide) rfl (fun ls hl => ?_)
    refine lv_iload hx hb dX10_holdsLine_48 (lv_at hl 0 rfl) ?_
    refine lv_bipush (v := (9 : Int32)) hx hb dX10_holdsLine_50 (by decide) ?_
    refine lv_icmp_gt (tgt := 88) hx hb dX10_holdsLine_52 (by decide) (fun c42 => ?_) (fun c42 => ?_)
    · rw [if_pos c42] at h
      refine lv_iload hx hb dX10_holdsLine_88 (lv_at hl 0 rfl) ?_
      refine lv_bipush (v := (13 : Int32)) hx hb dX10_holdsLine_90 (by decide) ?_
      refine lv_icmp_ne (tgt := 116) hx hb dX10_holdsLine_92 (by decide) (fun c34 => ?_) (fun c34 => ?_)
      · rw [if_neg c34] at h
        obtain ⟨y7, ey7, h⟩ := lt_some h
        refine lv_iinc (v := y7) (lv' := [(2, .int y7), (5, .int y6), (0, .ref (G.2.2 22)), (3, .int u3), (4, .int u4)]) hx hb dX10_holdsLine_116 hl (k := 2) rfl (by rw [ey7]; rfl) (by decide) rfl (fun ls hl => ?_)
        refine lv_aload_n hx hb dX10_holdsLine_119 rfl (lv_at hl 2 rfl) ?_
        refine r_gr E hw 22 17 83 (N := 29) (C := RX10) (T := TX10) (by decide) rfl rfl (by decide) rfl iw_10 rfl lf_RX10_39 dX10_holdsLine_120 ?_
        refine lv_iload_n hx hb dX10_holdsLine_123 rfl (lv_at hl 0 rfl) ?_
        refine lv_iconst (v := (1 : Int32)) hx hb dX10_holdsLine_124 (by decide) ?_
        refine lv_isub hx hb dX10_holdsLine_125 ?_
        obtain ⟨b8, h⟩ := rd_some h
        refine r_ia E hw 83 400 (by decide) (by decide) (by decide) rfl rfl b8 dX10_holdsLine_126 ?_
        obtain ⟨y9, ey9, h⟩ := lt_some h
        refine lv_eqi ey9 ?_
        refine lv_istore (lv' := [(6, .int y9), (2, .int y7), (5, .int y6), (0, .ref (G.2.2 22)), (3, .int u3), (4, .int u4)]) hx hb dX10_holdsLine_127 hl (by decide) rfl (fun ls hl => ?_)
        refine lv_aload_n hx hb dX10_holdsLine_129 rfl (lv_at hl 3 rfl) ?_
        refine r_gr E hw 22 17 83 (N := 29) (C := RX10) (T := TX10) (by decide) rfl rfl (by decide) rfl iw_10 rfl lf_RX10_39 dX10_holdsLine_130 ?_
        refine lv_iload_n hx hb dX10_holdsLine_133 rfl (lv_at hl 1 rfl) ?_
        obtain ⟨b10, h⟩ := rd_some h
        refine r_ia E hw 83 400 (by decide) (by decide) (by decide) rfl rfl b10 dX10_holdsLine_134 ?_
        obtain ⟨y11, ey11, h⟩ := lt_some h
        refine lv_eqi ey11 ?_
        refine lv_istore (lv' := [(7, .int y11), (6, .int y9), (2, .int y7), (5, .int y6), (0, .ref (G.2.2 22)), (3, .int u3), (4, .int u4)]) hx hb dX10_holdsLine_135 hl (by decide) rfl (fun ls hl => ?_)
        refine lv_iload hx hb dX10_holdsLine_137 (lv_at hl 3 rfl) ?_
        refine lv_bipush (v := (11 : Int32)) hx hb dX10_holdsLine_139 (by decide) ?_
        refine lv_icmp_ne (tgt := 159) hx hb dX10_holdsLine_141 (by decide) (fun c29 => ?_) (fun c29 => ?_)
        · rw [if_neg c29] at h
          refine lv_iload hx hb dX10_holdsLine_159 (lv_at hl 3 rfl) ?_
          refine lv_bipush (v := (12 : Int32)) hx hb dX10_holdsLine_161 (by decide) ?_
          refine lv_icmp_ne (tgt := 181) hx hb dX10_holdsLine_163 (by decide) (fun c27 => ?_) (fun c27 => ?_)
          · rw [if_neg c27] at h
            refine lv_iload hx hb dX10_holdsLine_181 (lv_at hl 3 rfl) ?_
            refine lv_bipush (v := (14 : Int32)) hx hb dX10_holdsLine_183 (by decide) ?_
            refine lv_icmp_ne (tgt := 205) hx hb dX10_holdsLine_185 (by decide) (fun c25 => ?_) (fun c25 => ?_)
            · rw [if_neg c25] at h
              refine lv_iload hx hb dX10_holdsLine_205 (lv_at hl 1 rfl) ?_
              refine lv_iload hx hb dX10_holdsLine_207 (lv_at hl 0 rfl) ?_
              refine lv_iadd hx hb dX10_holdsLine_209 ?_
              refine lv_if_le (tgt := 217) hx hb dX10_holdsLine_210 (by decide) (fun c23 => ?_) (fun c23 => ?_)
              · rw [if_pos c23] at h
                refine lv_iconst (v := (0 : Int32)) hx hb dX10_holdsLine_217 (by decide) ?_
                exact wX10_holdsLine_j218_20 E h kc ke hw (lv_sub hl [4, 2, 5, 6, 3, 1, 0] rfl)
              · rw [if_neg c23] at h
                refine lv_iconst (v := (1 : Int32)) hx hb dX10_holdsLine_213 (by decide) ?_
                refine lv_goto (tgt := 218) hx hb dX10_holdsLine_214 (by decide) ?_
                exact wX10_holdsLine_j218_20 E h kc ke hw (lv_sub hl [4, 2, 5, 6, 3, 1, 0] rfl)
            · rw [if_pos c25] at h
              refine lv_iload hx hb dX10_holdsLine_188 (lv_at hl 1 rfl) ?_
              refine lv_iload hx hb dX10_holdsLine_190 (lv_at hl 0 rfl) ?_
              refine lv_iadd hx hb dX10_holdsLine_192 ?_
              refine lv_iconst (v := (2 : Int32)) hx hb dX10_holdsLine_193 (by decide) ?_
              refine lv_icmp_ne (tgt := 201) hx hb dX10_holdsLine_194 (by decide) (fun c24 => ?_) (fun c24 => ?_)
              · rw [if_neg c24] at h
                refine lv_iconst (v := (0 : Int32)) hx hb dX10_holdsLine_201 (by decide) ?_
                refine lv_goto (tgt := 218) hx hb dX10_holdsLine_202 (by decide) ?_
                exact wX10_holdsLine_j218_20 E h kc ke hw (lv_sub hl [4, 2, 5, 6, 3, 1, 0] rfl)
              · rw [if_pos c24] at h
                refine lv_iconst (v := (1 : Int32)) hx hb dX10_holdsLine_197 (by decide) ?_
                refine lv_goto (tgt := 218) hx hb dX10_holdsLine_198 (by decide) ?_
                exact wX10_holdsLine_j218_20 E h kc ke hw (lv_sub hl [4, 2, 5, 6, 3, 1, 0] rfl)
          · rw [if_pos c27] at h
            refine lv_iload hx hb dX10_holdsLine_166 (lv_at hl 1 rfl) ?_
            refine lv_iload hx hb dX10_holdsLine_168 (lv_at hl 0 rfl) ?_
            refine lv_icmp_le (tgt := 177) hx hb dX10_holdsLine_170 (by decide) (fun c26 => ?_) (fun c26 => ?_)
            · rw [if_pos c26] at h
              refine lv_iconst (v := (0 : Int32)) hx hb dX10_holdsLine_177 (by decide) ?_
              refine lv_goto (tgt := 218) hx hb dX10_holdsLine_178 (by decide) ?_
              exact wX10_holdsLine_j218_20 E h kc ke hw (lv_sub hl [4, 2, 5, 6, 3, 1, 0] rfl)
            · rw [if_neg c26] at h
              refine lv_iconst (v := (1 : Int32)) hx hb dX10_holdsLine_173 (by decide) ?_
              refine lv_goto (tgt := 218) hx hb dX10_holdsLine_174 (by decide) ?_
              exact wX10_holdsLine_j218_20 E h kc ke hw (lv_sub hl [4, 2, 5, 6, 3, 1, 0] rfl)
        · rw [if_pos c29] at h
          refine lv_iload hx hb dX10_holdsLine_144 (lv_at hl 1 rfl) ?_
          refine lv_iload hx hb dX10_holdsLine_146 (lv_at hl 0 rfl) ?_
          refine lv_icmp_ge (tgt := 155) hx hb dX10_holdsLine_148 (by decide) (fun c28 => ?_) (fun c28 => ?_)
          · rw [if_pos c28] at h
            refine lv_iconst (v := (0 : Int32)) hx hb dX10_holdsLine_155 (by decide) ?_
            refine lv_goto (tgt := 218) hx hb dX10_holdsLine_156 (by decide) ?_
            exact wX10_holdsLine_j218_20 E h kc ke hw (lv_sub hl [4, 2, 5, 6, 3, 1, 0] rfl)
          · rw [if_neg c28] at h
            refine lv_iconst (v := (1 : Int32)) hx hb dX10_holdsLine_151 (by decide) ?_
            refine lv_goto (tgt := 218) hx hb dX10_holdsLine_152 (by decide) ?_
            exact wX10_holdsLine_j218_20 E h kc ke hw (lv_sub hl [4, 2, 5, 6, 3, 1, 0] rfl)
      · rw [if_pos c34] at h
        refine lv_aload_n hx hb dX10_holdsLine_95 rfl (lv_at hl 1 rfl) ?_
        refine r_gr E hw 22 17 83 (N := 29) (C := RX10) (T := TX10) (by decide) rfl rfl (by decide) rfl iw_10 rfl lf_RX10_39 dX10_holdsLine_96 ?_
        refine lv_iload_n hx hb dX10_holdsLine_99 rfl (lv_at hl 2 rfl) ?_
        refine lv_iconst (v := (1 : Int32)) hx hb dX10_holdsLine_100 (by decide) ?_
        refine lv_isub hx hb dX10_holdsLine_101 ?_
        refine lv_iconst (v := (1 : Int32)) hx hb dX10_holdsLine_102 (by decide) ?_
        refine lv_aload_n hx hb dX10_holdsLine_103 rfl (lv_at hl 1 rfl) ?_
        refine r_gr E hw 22 17 83 (N := 29) (C := RX10) (T := TX10) (by decide) rfl rfl (by decide) rfl iw_10 rfl lf_RX10_39 dX10_holdsLine_104 ?_
        refine lv_iload_n hx hb dX10_holdsLine_107 rfl (lv_at hl 2 rfl) ?_
        refine lv_iconst (v := (1 : Int32)) hx hb dX10_holdsLine_108 (by decide) ?_
        refine lv_isub hx hb dX10_holdsLine_109 ?_
        obtain ⟨b30, h⟩ := rd_some h
        refine r_ia E hw 83 400 (by decide) (by decide) (by decide) rfl rfl b30 dX10_holdsLine_110 ?_
        refine lv_isub hx hb dX10_holdsLine_111 ?_
        obtain ⟨b31, h⟩ := rd_some h
        obtain ⟨V32, eV32, h⟩ := lt_some h
        refine r_is E hw 83 400 (by decide) (by decide) (by decide) rfl rfl b31 eV32 dX10_holdsLine_112 (fun H locs hw => ?_)
        refine lv_goto (tgt := 253) hx hb dX10_holdsLine_113 (by decide) ?_
        obtain ⟨y33, ey33, h⟩ := lt_some h
        refine lv_iinc (v := y33) (lv' := [(4, .int y33), (5, .int y6), (0, .ref (G.2.2 22)), (2, .int u2), (3, .int u3)]) hx hb dX10_holdsLine_253 hl (k := 4) rfl (by rw [ey33]; rfl) (by decide) rfl (fun ls hl => ?_)
        refine lv_goto (tgt := 20) hx hb dX10_holdsLine_256 (by decide) ?_
        exact kc (V32, u2, u3, y33) (Option.some.inj h).symm H locs ls hw (lv_sub hl [2, 3, 4, 0] rfl)
    · rw [if_neg c42] at h
      refine lv_aload_n hx hb dX10_holdsLine_55 rfl (lv_at hl 1 rfl) ?_
      refine r_gr E hw 22 17 83 (N := 29) (C := RX10) (T := TX10) (by decide) rfl rfl (by decide) rfl iw_10 rfl lf_RX10_39 dX10_holdsLine_56 ?_
      refine lv_iload_n hx hb dX10_holdsLine_59 rfl (lv_at hl 2 rfl) ?_
      refine lv_aload_n hx hb dX10_holdsLine_60 rfl (lv_at hl 1 rfl) ?_
      refine lv_iload hx hb dX10_holdsLine_61 (lv_at hl 0 rfl) ?_
      refine lv_aload_n hx hb dX10_holdsLine_63 rfl (lv_at hl 1 rfl) ?_
      refine r_gr E hw 22 1 76 (N := 29) (C := RX10) (T := TX10) (by decide) rfl rfl (by decide) rfl iw_10 rfl lf_RX10_13 dX10_holdsLine_64 ?_
      refine lv_sipush (v := (351 : Int32)) hx hb dX10_holdsLine_67 (by decide) ?_
      refine lv_iconst (v := (2 : Int32)) hx hb dX10_holdsLine_70 (by decide) ?_
      refine lv_iload hx hb dX10_holdsLine_71 (lv_at hl 4 rfl) ?_
      refine lv_imul hx hb dX10_holdsLine_73 ?_
      refine lv_iadd hx hb dX10_holdsLine_74 ?_
      refine lv_iconst (v := (1 : Int32)) hx hb dX10_holdsLine_75 (by decide) ?_
      refine lv_iadd hx hb dX10_holdsLine_76 ?_
      obtain ⟨b35, h⟩ := rd_some h
      refine r_ia E hw 76 1988 (by decide) (by decide) (by decide) rfl rfl b35 dX10_holdsLine_77 ?_
      obtain ⟨y37, h36, h⟩ := ob_R_some h
      refine c_VI E hw (kX10_factOf (l := l) (G := G) hB  h36) yy_X10_factOf lm_RX10_281 rfl (by decide) rfl rfl hl.1 (by decide) (by decide) rfl (Nat.le_of_ble_eq_true rfl) dX10_holdsLine_78 (fun H locs hw => ?_)
      obtain ⟨b38, h⟩ := rd_some h
      obtain ⟨V39, eV39, h⟩ := lt_some h
      refine r_is E hw 83 400 (by decide) (by decide) (by decide) rfl rfl b38 eV39 dX10_holdsLine_81 (fun H locs hw => ?_)
      obtain ⟨y40, ey40, h⟩ := lt_some h
      refine lv_iinc (v := y40) (lv' := [(2, .int y40), (5, .int y6), (0, .ref (G.2.2 22)), (3, .int u3), (4, .int u4)]) hx hb dX10_holdsLine_82 hl (k := 2) rfl (by rw [ey40]; rfl) (by decide) rfl (fun ls hl => ?_)
      refine lv_goto (tgt := 253) hx hb dX10_holdsLine_85 (by decide) ?_
      obtain ⟨y41, ey41, h⟩ := lt_some h
      refine lv_iinc (v := y41) (lv' := [(4, .int y41), (2, .int y40), (5, .int y6), (0, .ref (G.2.2 22)), (3, .int u3)]) hx hb dX10_holdsLine_253 hl (k := 4) rfl (by rw [ey41]; rfl) (by decide) rfl (fun ls hl => ?_)
      refine lv_goto (tgt := 20) hx hb dX10_holdsLine_256 (by decide) ?_
      exact kc (V39, y40, u3, y41) (Option.some.inj h).symm H locs ls hw (lv_sub hl [3, 1, 4, 0] rfl)
set_option maxHeartbeats 4000000 in
set_option maxRecDepth 100000 in
theorem kX10_holdsLine {l : Launch} {G : GT} {B : BGt} (hB : BGok B) {V : VT} {x1 : Int32} {r : (Int32 × VT)} (h : fX10_holdsLine V x1 = some r) : CI l G B yX10_holdsLine (.code yX10_holdsLine cX10_holdsLine 9 (some .boolean)) 7 [.ref (G.2.2 22), .int x1] V r.1 r.2 := by
  intro sz
  refine met_of (Qs := fun sz => QI G sz (r.1) (r.2)) hB (by decide) (Nat.le_of_ble_eq_true rfl) ?_ sz
  intro p e s m args below meth c ls E hw hl
  have hx := en_x E
  have hb := en_b E
  generalize hQ : MQ _ _ _ _ _ _ _ = Q
  have kr : Q = MQ below (QI G s.heap.size r.1 r.2) args s 0 0 (gA G s.heap.size) := hQ.symm
  have hl : lv_has ls 9 [(0, .ref (G.2.2 22)), (1, .int x1)] := hl
  obtain ⟨H, eH⟩ : ∃ H, H = s.heap := ⟨_, rfl⟩
  obtain ⟨locs, elocs⟩ : ∃ z : List Loc, z = [] := ⟨_, rfl⟩
  have hw : HW G s.heap V H locs := by rw [eH, elocs]; exact hw
  show W p l e _ s m args below meth c s.heap [] 0 0 Q (F0 m 0 ls [])
  rw [← eH, ← elocs]
  unfold fX10_holdsLine at h
  refine lv_iconst (v := (0 : Int32)) hx hb dX10_holdsLine_0 (by decide) ?_
  refine lv_istore_n (lv' := [(2, .int (0 : Int32)), (0, .ref (G.2.2 22)), (1, .int x1)]) hx hb dX10_holdsLine_1 rfl hl (by decide) rfl (fun ls hl => ?_)
  refine lv_sipush (v := (315 : Int32)) hx hb dX10_holdsLine_2 (by decide) ?_
  refine lv_iconst (v := (3 : Int32)) hx hb dX10_holdsLine_5 (by decide) ?_
  refine lv_iload_n hx hb dX10_holdsLine_6 rfl (lv_at hl 2 rfl) ?_
  refine lv_imul hx hb dX10_holdsLine_7 ?_
  refine lv_iadd hx hb dX10_holdsLine_8 ?_
  obtain ⟨y1, ey1, h⟩ := lt_some h
  refine lv_eqi ey1 ?_
  refine lv_istore_n (lv' := [(3, .int y1), (2, .int (0 : Int32)), (0, .ref (G.2.2 22)), (1, .int x1)]) hx hb dX10_holdsLine_9 rfl hl (by decide) rfl (fun ls hl => ?_)
  refine lv_aload_n hx hb dX10_holdsLine_10 rfl (lv_at hl 2 rfl) ?_
  refine r_gr E hw 22 1 76 (N := 29) (C := RX10) (T := TX10) (by decide) rfl rfl (by decide) rfl iw_10 rfl lf_RX10_13 dX10_holdsLine_11 ?_
  refine lv_iload_n hx hb dX10_holdsLine_14 rfl (lv_at hl 0 rfl) ?_
  refine lv_iconst (v := (1 : Int32)) hx hb dX10_holdsLine_15 (by decide) ?_
  refine lv_iadd hx hb dX10_holdsLine_16 ?_
  obtain ⟨b2, h⟩ := rd_some h
  refine r_ia E hw 76 1988 (by decide) (by decide) (by decide) rfl rfl b2 dX10_holdsLine_17 ?_
  obtain ⟨y3, ey3, h⟩ := lt_some h
  refine lv_eqi ey3 ?_
  refine lv_istore (lv' := [(4, .int y3), (3, .int y1), (2, .int (0 : Int32)), (0, .ref (G.2.2 22)), (1, .int x1)]) hx hb dX10_holdsLine_18 hl (by decide) rfl (fun ls hl => ?_)
  obtain ⟨x45, h44, h⟩ := ob_R_some h
  obtain ⟨V47, y46⟩ := x45
  refine wX10_holdsLine_L20 E (fun q e H locs ls hw hl => ?_) FV (V, (0 : Int32), y1, y3) h44 H locs ls hw (lv_sub hl [3, 2, 1, 0] rfl)
  subst e
  have hw : HW G s.heap V47 H locs := hw
  have hl : lv_has ls 9 [(0, .ref (G.2.2 22)), (2, .int y46)] := hl
  have h := dt2_eq h
  refine lv_iload_n hx hb dX10_holdsLine_259 rfl (lv_at hl 1 rfl) ?_
  refine lv_if_eq (tgt := 273) hx hb dX10_holdsLine_260 (by decide) (fun c53 => ?_) (fun c53 => ?_)
  · rw [if_pos c53] at h
    refine lv_iconst (v := (1 : Int32)) hx hb dX10_holdsLine_273 (by decide) ?_
    refine lv_goto (tgt := 278) hx hb dX10_holdsLine_274 (by decide) ?_
    obtain ⟨z48, h⟩ := zo_some h
    have h := Option.some.inj h
    subst h
    rw [kr]
    exact r_rz E hw z48 dX10_holdsLine_278
  · rw [if_neg c53] at h
    refine lv_aload_n hx hb dX10_holdsLine_263 rfl (lv_at hl 0 rfl) ?_
    refine r_gr E hw 22 17 83 (N := 29) (C := RX10) (T := TX10) (by decide) rfl rfl (by decide) rfl iw_10 rfl lf_RX10_39 dX10_holdsLine_264 ?_
    refine lv_iconst (v := (0 : Int32)) hx hb dX10_holdsLine_267 (by decide) ?_
    obtain ⟨b49, h⟩ := rd_some h
    refine r_ia E hw 83 400 (by decide) (by decide) (by decide) rfl rfl b49 dX10_holdsLine_268 ?_
    refine lv_iconst (v := (1 : Int32)) hx hb dX10_holdsLine_269 (by decide) ?_
    refine lv_icmp_ne (tgt := 277) hx hb dX10_holdsLine_270 (by decide) (fun c52 => ?_) (fun c52 => ?_)
    · rw [if_neg c52] at h
      refine lv_iconst (v := (0 : Int32)) hx hb dX10_holdsLine_277 (by decide) ?_
      obtain ⟨z50, h⟩ := zo_some h
      have h := Option.some.inj h
      subst h
      rw [kr]
      exact r_rz E hw z50 dX10_holdsLine_278
    · rw [if_pos c52] at h
      refine lv_iconst (v := (1 : Int32)) hx hb dX10_holdsLine_273 (by decide) ?_
      refine lv_goto (tgt := 278) hx hb dX10_holdsLine_274 (by decide) ?_
      obtain ⟨z51, h⟩ := zo_some h
      have h := Option.some.inj h
      subst h
      rw [kr]
      exact r_rz E hw z51 dX10_holdsLine_278
