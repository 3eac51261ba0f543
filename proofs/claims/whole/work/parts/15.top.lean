/-! ===== AllSawIt.feed(IIIII)I ===== -/
theorem dX9_feed_0 : decode cX9_feed 0 = .ok (.aload_n 0, 1) := by decide +kernel
theorem dX9_feed_1 : decode cX9_feed 1 = .ok (.getfield 12, 3) := by decide +kernel
theorem dX9_feed_4 : decode cX9_feed 4 = .ok (.getfield 64, 3) := by decide +kernel
theorem dX9_feed_7 : decode cX9_feed 7 = .ok (.bipush 20, 2) := by decide +kernel
theorem dX9_feed_9 : decode cX9_feed 9 = .ok (.iadd, 1) := by decide +kernel
theorem dX9_feed_10 : decode cX9_feed 10 = .ok (.sipush 400, 3) := by decide +kernel
theorem dX9_feed_13 : decode cX9_feed 13 = .ok (.if_icmp .le 5, 3) := by decide +kernel
theorem dX9_feed_16 : decode cX9_feed 16 = .ok (.iconst (-1), 1) := by decide +kernel
theorem dX9_feed_17 : decode cX9_feed 17 = .ok (.ireturn, 1) := by decide +kernel
theorem dX9_feed_18 : decode cX9_feed 18 = .ok (.aload_n 0, 1) := by decide +kernel
theorem dX9_feed_19 : decode cX9_feed 19 = .ok (.getfield 12, 3) := by decide +kernel
theorem dX9_feed_22 : decode cX9_feed 22 = .ok (.iload_n 1, 1) := by decide +kernel
theorem dX9_feed_23 : decode cX9_feed 23 = .ok (.invokevirtual 67, 3) := by decide +kernel
theorem dX9_feed_26 : decode cX9_feed 26 = .ok (.aload_n 0, 1) := by decide +kernel
theorem dX9_feed_27 : decode cX9_feed 27 = .ok (.getfield 12, 3) := by decide +kernel
theorem dX9_feed_30 : decode cX9_feed 30 = .ok (.iload_n 2, 1) := by decide +kernel
theorem dX9_feed_31 : decode cX9_feed 31 = .ok (.invokevirtual 67, 3) := by decide +kernel
theorem dX9_feed_34 : decode cX9_feed 34 = .ok (.aload_n 0, 1) := by decide +kernel
theorem dX9_feed_35 : decode cX9_feed 35 = .ok (.getfield 12, 3) := by decide +kernel
theorem dX9_feed_38 : decode cX9_feed 38 = .ok (.iload_n 3, 1) := by decide +kernel
theorem dX9_feed_39 : decode cX9_feed 39 = .ok (.invokevirtual 67, 3) := by decide +kernel
theorem dX9_feed_42 : decode cX9_feed 42 = .ok (.aload_n 0, 1) := by decide +kernel
theorem dX9_feed_43 : decode cX9_feed 43 = .ok (.getfield 12, 3) := by decide +kernel
theorem dX9_feed_46 : decode cX9_feed 46 = .ok (.iload 4, 2) := by decide +kernel
theorem dX9_feed_48 : decode cX9_feed 48 = .ok (.invokevirtual 67, 3) := by decide +kernel
theorem dX9_feed_51 : decode cX9_feed 51 = .ok (.aload_n 0, 1) := by decide +kernel
theorem dX9_feed_52 : decode cX9_feed 52 = .ok (.getfield 12, 3) := by decide +kernel
theorem dX9_feed_55 : decode cX9_feed 55 = .ok (.iload 5, 2) := by decide +kernel
theorem dX9_feed_57 : decode cX9_feed 57 = .ok (.invokevirtual 67, 3) := by decide +kernel
theorem dX9_feed_60 : decode cX9_feed 60 = .ok (.aload_n 0, 1) := by decide +kernel
theorem dX9_feed_61 : decode cX9_feed 61 = .ok (.getfield 12, 3) := by decide +kernel
theorem dX9_feed_64 : decode cX9_feed 64 = .ok (.getfield 64, 3) := by decide +kernel
theorem dX9_feed_67 : decode cX9_feed 67 = .ok (.ireturn, 1) := by decide +kernel
noncomputable def fX9_feed (V : VT) (x1 : Int32) (x2 : Int32) (x3 : Int32) (x4 : Int32) (x5 : Int32) : Option (Int32 × VT) := if ((V 1 1) + (20 : Int32)) ≤ (400 : Int32) then (ob_R (fX8_putNumber V x1) fun V2 => ob_R (fX8_putNumber V2 x2) fun V4 => ob_R (fX8_putNumber V4 x3) fun V6 => ob_R (fX8_putNumber V6 x4) fun V8 => ob_R (fX8_putNumber V8 x5) fun V10 => some ((V10 1 1), V10)) else (some ((-1 : Int32), V))
set_option maxHeartbeats 4000000 in
set_option maxRecDepth 100000 in
theorem kX9_feed {l : Launch} {G : GT} {B : BGt} (hB : BGok B) {V : VT} {x1 : Int32} {x2 : Int32} {x3 : Int32} {x4 : Int32} {x5 : Int32} {r : (Int32 × VT)} (h : fX9_feed V x1 x2 x3 x4 x5 = some r) : CI l G B yX9_feed (.code yX9_feed cX9_feed 6 (some .int)) 3 [.ref (G.2.2 0), .int x1, .int x2, .int x3, .int x4, .int x5] V r.1 r.2 := by
  intro sz
  refine met_of (Qs := fun sz => QI G sz (r.1) (r.2)) hB (by decide) (Nat.le_of_ble_eq_true rfl) ?_ sz
  intro p e s m args below meth c ls E hw hl
  have hx := en_x E
  have hb := en_b E
  generalize hQ : MQ _ _ _ _ _ _ _ = Q
  have kr : Q = MQ below (QI G s.heap.size r.1 r.2) args s 0 0 (gA G s.heap.size) := hQ.symm
  have hl : lv_has ls 6 [(0, .ref (G.2.2 0)), (1, .int x1), (2, .int x2), (3, .int x3), (4, .int x4), (5, .int x5)] := hl
  obtain ⟨H, eH⟩ : ∃ H, H = s.heap := ⟨_, rfl⟩
  obtain ⟨locs, elocs⟩ : ∃ z : List Loc, z = [] := ⟨_, rfl⟩
  have hw : HW G s.heap V H locs := by rw [eH, elocs]; exact hw
  show W p l e _ s m args below meth c s.heap [] 0 0 Q (F0 m 0 ls [])
  rw [← eH, ← elocs]
  unfold fX9_feed at h
  refine lv_aload_n hx hb dX9_feed_0 rfl (lv_at hl 0 rfl) ?_
  refine r_gr E hw 0 0 1 (N := 11) (C := RX9) (T := TX9) (by decide) rfl rfl (by decide) rfl iw_9 rfl lf_RX9_12 dX9_feed_1 ?_
  refine r_giN E hw 1 1 (N := 6) (C := RX8) (T := TX8) (by decide) rfl rfl (by decide) rfl iw_8 rfl lf_RX9_64 dX9_feed_4 ?_
  refine lv_bipush (v := (20 : Int32)) hx hb dX9_feed_7 (by decide) ?_
  refine lv_iadd hx hb dX9_feed_9 ?_
  refine lv_sipush (v := (400 : Int32)) hx hb dX9_feed_10 (by decide) ?_
  refine lv_icmp_le (tgt := 18) hx hb dX9_feed_13 (by decide) (fun c11 => ?_) (fun c11 => ?_)
  · rw [if_pos c11] at h
    refine lv_aload_n hx hb dX9_feed_18 rfl (lv_at hl 0 rfl) ?_
    refine r_gr E hw 0 0 1 (N := 11) (C := RX9) (T := TX9) (by decide) rfl rfl (by decide) rfl iw_9 rfl lf_RX9_12 dX9_feed_19 ?_
    refine lv_iload_n hx hb dX9_feed_22 rfl (lv_at hl 1 rfl) ?_
    obtain ⟨V2, h1, h⟩ := ob_R_some h
    refine c_VV E hw (kX8_putNumber (l := l) (G := G) hB  h1) yy_X8_putNumber lm_RX9_67 rfl (by decide) rfl rfl hl.1 (by decide) (by decide) rfl (Nat.le_of_ble_eq_true rfl) dX9_feed_23 (fun H locs hw => ?_)
    refine lv_aload_n hx hb dX9_feed_26 rfl (lv_at hl 0 rfl) ?_
    refine r_gr E hw 0 0 1 (N := 11) (C := RX9) (T := TX9) (by decide) rfl rfl (by decide) rfl iw_9 rfl lf_RX9_12 dX9_feed_27 ?_
    refine lv_iload_n hx hb dX9_feed_30 rfl (lv_at hl 2 rfl) ?_
    obtain ⟨V4, h3, h⟩ := ob_R_some h
    refine c_VV E hw (kX8_putNumber (l := l) (G := G) hB  h3) yy_X8_putNumber lm_RX9_67 rfl (by decide) rfl rfl hl.1 (by decide) (by decide) rfl (Nat.le_of_ble_eq_true rfl) dX9_feed_31 (fun H locs hw => ?_)
    refine lv_aload_n hx hb dX9_feed_34 rfl (lv_at hl 0 rfl) ?_
    refine r_gr E hw 0 0 1 (N := 11) (C := RX9) (T := TX9) (by decide) rfl rfl (by decide) rfl iw_9 rfl lf_RX9_12 dX9_feed_35 ?_
    refine lv_iload_n hx hb dX9_feed_38 rfl (lv_at hl 3 rfl) ?_
    obtain ⟨V6, h5, h⟩ := ob_R_some h
    refine c_VV E hw (kX8_putNumber (l := l) (G := G) hB  h5) yy_X8_putNumber lm_RX9_67 rfl (by decide) rfl rfl hl.1 (by decide) (by decide) rfl (Nat.le_of_ble_eq_true rfl) dX9_feed_39 (fun H locs hw => ?_)
    refine lv_aload_n hx hb dX9_feed_42 rfl (lv_at hl 0 rfl) ?_
    refine r_gr E hw 0 0 1 (N := 11) (C := RX9) (T := TX9) (by decide) rfl rfl (by decide) rfl iw_9 rfl lf_RX9_12 dX9_feed_43 ?_
    refine lv_iload hx hb dX9_feed_46 (lv_at hl 4 rfl) ?_
    obtain ⟨V8, h7, h⟩ := ob_R_some h
    refine c_VV E hw (kX8_putNumber (l := l) (G := G) hB  h7) yy_X8_putNumber lm_RX9_67 rfl (by decide) rfl rfl hl.1 (by decide) (by decide) rfl (Nat.le_of_ble_eq_true rfl) dX9_feed_48 (fun H locs hw => ?_)
    refine lv_aload_n hx hb dX9_feed_51 rfl (lv_at hl 0 rfl) ?_
    refine r_gr E hw 0 0 1 (N := 11) (C := RX9) (T := TX9) (by decide) rfl rfl (by decide) rfl iw_9 rfl lf_RX9_12 dX9_feed_52 ?_
    refine lv_iload hx hb dX9_feed_55 (lv_at hl 5 rfl) ?_
    obtain ⟨V10, h9, h⟩ := ob_R_some h
    refine c_VV E hw (kX8_putNumber (l := l) (G := G) hB  h9) yy_X8_putNumber lm_RX9_67 rfl (by decide) rfl rfl hl.1 (by decide) (by decide) rfl (Nat.le_of_ble_eq_true rfl) dX9_feed_57 (fun H locs hw => ?_)
    refine lv_aload_n hx hb dX9_feed_60 rfl (lv_at hl 0 rfl) ?_
    refine r_gr E hw 0 0 1 (N := 11) (C := RX9) (T := TX9) (by decide) rfl rfl (by decide) rfl iw_9 rfl lf_RX9_12 dX9_feed_61 ?_
    refine r_giN E hw 1 1 (N := 6) (C := RX8) (T := TX8) (by decide) rfl rfl (by decide) rfl iw_8 rfl lf_RX9_64 dX9_feed_64 ?_
    have h := Option.some.inj h
    subst h
    rw [kr]
    exact r_ri E hw dX9_feed_67
  · rw [if_neg c11] at h
    refine lv_iconst (v := (-1 : Int32)) hx hb dX9_feed_16 (by decide) ?_
    have h := Option.some.inj h
    subst h
    rw [kr]
    exact r_ri E hw dX9_feed_17
/-! ===== AllSawIt.end(I)Z ===== -/
theorem dX9_end_0 : decode cX9_end 0 = .ok (.iload_n 1, 1) := by decide +kernel
theorem dX9_end_1 : decode cX9_end 1 = .ok (.ifCond .lt 14, 3) := by decide +kernel
theorem dX9_end_4 : decode cX9_end 4 = .ok (.iload_n 1, 1) := by decide +kernel
theorem dX9_end_5 : decode cX9_end 5 = .ok (.aload_n 0, 1) := by decide +kernel
theorem dX9_end_6 : decode cX9_end 6 = .ok (.getfield 12, 3) := by decide +kernel
theorem dX9_end_9 : decode cX9_end 9 = .ok (.getfield 64, 3) := by decide +kernel
theorem dX9_end_12 : decode cX9_end 12 = .ok (.if_icmp .le 5, 3) := by decide +kernel
theorem dX9_end_15 : decode cX9_end 15 = .ok (.iconst 0, 1) := by decide +kernel
theorem dX9_end_16 : decode cX9_end 16 = .ok (.ireturn, 1) := by decide +kernel
theorem dX9_end_17 : decode cX9_end 17 = .ok (.aload_n 0, 1) := by decide +kernel
theorem dX9_end_18 : decode cX9_end 18 = .ok (.getfield 12, 3) := by decide +kernel
theorem dX9_end_21 : decode cX9_end 21 = .ok (.iload_n 1, 1) := by decide +kernel
theorem dX9_end_22 : decode cX9_end 22 = .ok (.putfield 64, 3) := by decide +kernel
theorem dX9_end_25 : decode cX9_end 25 = .ok (.iconst 1, 1) := by decide +kernel
theorem dX9_end_26 : decode cX9_end 26 = .ok (.ireturn, 1) := by decide +kernel
noncomputable def fX9_end (V : VT) (x1 : Int32) : Option (Int32 × VT) := if x1 < 0 then (zo_ (0 : Int32) (some ((0 : Int32), V))) else (if x1 ≤ (V 1 1) then (lt_ (va_up V 1 (upd (V 1) 1 x1)) fun V2 => zo_ (1 : Int32) (some ((1 : Int32), V2))) else (zo_ (0 : Int32) (some ((0 : Int32), V))))
set_option maxHeartbeats 4000000 in
set_option maxRecDepth 100000 in
theorem kX9_end {l : Launch} {G : GT} {B : BGt} (hB : BGok B) {V : VT} {x1 : Int32} {r : (Int32 × VT)} (h : fX9_end V x1 = some r) : CI l G B yX9_end (.code yX9_end cX9_end 2 (some .boolean)) 2 [.ref (G.2.2 0), .int x1] V r.1 r.2 := by
  intro sz
  refine met_of (Qs := fun sz => QI G sz (r.1) (r.2)) hB (by decide) (Nat.le_of_ble_eq_true rfl) ?_ sz
  intro p e s m args below meth c ls E hw hl
  have hx := en_x E
  have hb := en_b E
  generalize hQ : MQ _ _ _ _ _ _ _ = Q
  have kr : Q = MQ below (QI G s.heap.size r.1 r.2) args s 0 0 (gA G s.heap.size) := hQ.symm
  have hl : lv_has ls 2 [(0, .ref (G.2.2 0)), (1, .int x1)] := hl
  obtain ⟨H, eH⟩ : ∃ H, H = s.heap := ⟨_, rfl⟩
  obtain ⟨locs, elocs⟩ : ∃ z : List Loc, z = [] := ⟨_, rfl⟩
  have hw : HW G s.heap V H locs := by rw [eH, elocs]; exact hw
  show W p l e _ s m args below meth c s.heap [] 0 0 Q (F0 m 0 ls [])
  rw [← eH, ← elocs]
  unfold fX9_end at h
  refine lv_iload_n hx hb dX9_end_0 rfl (lv_at hl 1 rfl) ?_
  refine lv_if_lt (tgt := 15) hx hb dX9_end_1 (by decide) (fun c6 => ?_) (fun c6 => ?_)
  · rw [if_pos c6] at h
    refine lv_iconst (v := (0 : Int32)) hx hb dX9_end_15 (by decide) ?_
    obtain ⟨z1, h⟩ := zo_some h
    have h := Option.some.inj h
    subst h
    rw [kr]
    exact r_rz E hw z1 dX9_end_16
  · rw [if_neg c6] at h
    refine lv_iload_n hx hb dX9_end_4 rfl (lv_at hl 1 rfl) ?_
    refine lv_aload_n hx hb dX9_end_5 rfl (lv_at hl 0 rfl) ?_
    refine r_gr E hw 0 0 1 (N := 11) (C := RX9) (T := TX9) (by decide) rfl rfl (by decide) rfl iw_9 rfl lf_RX9_12 dX9_end_6 ?_
    refine r_giN E hw 1 1 (N := 6) (C := RX8) (T := TX8) (by decide) rfl rfl (by decide) rfl iw_8 rfl lf_RX9_64 dX9_end_9 ?_
    refine lv_icmp_le (tgt := 17) hx hb dX9_end_12 (by decide) (fun c5 => ?_) (fun c5 => ?_)
    · rw [if_pos c5] at h
      refine lv_aload_n hx hb dX9_end_17 rfl (lv_at hl 0 rfl) ?_
      refine r_gr E hw 0 0 1 (N := 11) (C := RX9) (T := TX9) (by decide) rfl rfl (by decide) rfl iw_9 rfl lf_RX9_12 dX9_end_18 ?_
      refine lv_iload_n hx hb dX9_end_21 rfl (lv_at hl 1 rfl) ?_
      obtain ⟨V2, eV2, h⟩ := lt_some h
      refine r_piN E hw 1 1 (N := 6) (C := RX8) (T := TX8) (ty0 := tyX8) (ty := .int) (by decide) rfl rfl (by decide) rfl iw_8 rfl tyX8_ok nmX8 rfl rfl (vp_nar_int _) rfl lf_RX9_64 eV2 dX9_end_22 (fun H locs hw => ?_)
      refine lv_iconst (v := (1 : Int32)) hx hb dX9_end_25 (by decide) ?_
      obtain ⟨z3, h⟩ := zo_some h
      have h := Option.some.inj h
      subst h
      rw [kr]
      exact r_rz E hw z3 dX9_end_26
    · rw [if_neg c5] at h
      refine lv_iconst (v := (0 : Int32)) hx hb dX9_end_15 (by decide) ?_
      obtain ⟨z4, h⟩ := zo_some h
      have h := Option.some.inj h
      subst h
      rw [kr]
      exact r_rz E hw z4 dX9_end_16
/-! ===== AllSawIt.fault()I ===== -/
theorem dX9_fault_0 : decode cX9_fault 0 = .ok (.aload_n 0, 1) := by decide +kernel
theorem dX9_fault_1 : decode cX9_fault 1 = .ok (.getfield 60, 3) := by decide +kernel
theorem dX9_fault_4 : decode cX9_fault 4 = .ok (.ireturn, 1) := by decide +kernel
noncomputable def fX9_fault (V : VT) : Option Int32 := some (V 0 10)
set_option maxHeartbeats 4000000 in
set_option maxRecDepth 100000 in
theorem kX9_fault {l : Launch} {G : GT} {B : BGt} (hB : BGok B) {V : VT} {r : Int32} (h : fX9_fault V = some r) : CI l G B yX9_fault (.code yX9_fault cX9_fault 1 (some .int)) 2 [.ref (G.2.2 0)] V r V := by
  intro sz
  refine met_of (Qs := fun sz => QI G sz r V) hB (by decide) (Nat.le_of_ble_eq_true rfl) ?_ sz
  intro p e s m args below meth c ls E hw hl
  have hx := en_x E
  have hb := en_b E
  generalize hQ : MQ _ _ _ _ _ _ _ = Q
  have kr : Q = MQ below (QI G s.heap.size r V) args s 0 0 (gA G s.heap.size) := hQ.symm
  have hl : lv_has ls 1 [(0, .ref (G.2.2 0))] := hl
  obtain ⟨H, eH⟩ : ∃ H, H = s.heap := ⟨_, rfl⟩
  obtain ⟨locs, elocs⟩ : ∃ z : List Loc, z = [] := ⟨_, rfl⟩
  have hw : HW G s.heap V H locs := by rw [eH, elocs]; exact hw
  show W p l e _ s m args below meth c s.heap [] 0 0 Q (F0 m 0 ls [])
  rw [← eH, ← elocs]
  unfold fX9_fault at h
  refine lv_aload_n hx hb dX9_fault_0 rfl (lv_at hl 0 rfl) ?_
  refine r_gi E hw 0 10 (N := 11) (C := RX9) (T := TX9) (by decide) rfl rfl (by decide) rfl iw_9 rfl lf_RX9_60 dX9_fault_1 ?_
  have h := Option.some.inj h
  subst h
  rw [kr]
  exact r_ri E hw dX9_fault_4
/-! ===== AllSawIt.endText(Z)V ===== -/
theorem dX9_endText_0 : decode cX9_endText 0 = .ok (.aload_n 0, 1) := by decide +kernel
theorem dX9_endText_1 : decode cX9_endText 1 = .ok (.iload_n 1, 1) := by decide +kernel
theorem dX9_endText_2 : decode cX9_endText 2 = .ok (.ifCond .eq 7, 3) := by decide +kernel
theorem dX9_endText_5 : decode cX9_endText 5 = .ok (.iconst (-1), 1) := by decide +kernel
theorem dX9_endText_6 : decode cX9_endText 6 = .ok (.goto 10, 3) := by decide +kernel
theorem dX9_endText_9 : decode cX9_endText 9 = .ok (.aload_n 0, 1) := by decide +kernel
theorem dX9_endText_10 : decode cX9_endText 10 = .ok (.getfield 12, 3) := by decide +kernel
theorem dX9_endText_13 : decode cX9_endText 13 = .ok (.getfield 116, 3) := by decide +kernel
theorem dX9_endText_16 : decode cX9_endText 16 = .ok (.putfield 60, 3) := by decide +kernel
theorem dX9_endText_19 : decode cX9_endText 19 = .ok (.aload_n 0, 1) := by decide +kernel
theorem dX9_endText_20 : decode cX9_endText 20 = .ok (.getfield 12, 3) := by decide +kernel
theorem dX9_endText_23 : decode cX9_endText 23 = .ok (.iconst 0, 1) := by decide +kernel
theorem dX9_endText_24 : decode cX9_endText 24 = .ok (.putfield 64, 3) := by decide +kernel
theorem dX9_endText_27 : decode cX9_endText 27 = .ok (.return_, 1) := by decide +kernel
noncomputable def fX9_endText (V : VT) (x1 : Int32) : Option VT := if x1 = 0 then (lt_ (va_up V 0 (upd (V 0) 10 (V 1 3))) fun V1 => lt_ (va_up V1 1 (upd (V1 1) 1 (0 : Int32))) fun V2 => some V2) else (lt_ (va_up V 0 (upd (V 0) 10 (-1 : Int32))) fun V3 => lt_ (va_up V3 1 (upd (V3 1) 1 (0 : Int32))) fun V4 => some V4)
set_option maxHeartbeats 4000000 in
set_option maxRecDepth 100000 in
theorem kX9_endText {l : Launch} {G : GT} {B : BGt} (hB : BGok B) {V : VT} {x1 : Int32} {r : VT} (h : fX9_endText V x1 = some r) : CV l G B yX9_endText (.code yX9_endText cX9_endText 2 none) 2 [.ref (G.2.2 0), .int x1] V r := by
  intro sz
  refine met_of (Qs := fun sz => QV G sz r) hB (by decide) (Nat.le_of_ble_eq_true rfl) ?_ sz
  intro p e s m args below meth c ls E hw hl
  have hx := en_x E
  have hb := en_b E
  generalize hQ : MQ _ _ _ _ _ _ _ = Q
  have kr : Q = MQ below (QV G s.heap.size r) args s 0 0 (gA G s.heap.size) := hQ.symm
  have hl : lv_has ls 2 [(0, .ref (G.2.2 0)), (1, .int x1)] := hl
  obtain ⟨H, eH⟩ : ∃ H, H = s.heap := ⟨_, rfl⟩
  obtain ⟨locs, elocs⟩ : ∃ z : List Loc, z = [] := ⟨_, rfl⟩
  have hw : HW G s.heap V H locs := by rw [eH, elocs]; exact hw
  show W p l e _ s m args below meth c s.heap [] 0 0 Q (F0 m 0 ls [])
  rw [← eH, ← elocs]
  unfold fX9_endText at h
  refine lv_aload_n hx hb dX9_endText_0 rfl (lv_at hl 0 rfl) ?_
  refine lv_iload_n hx hb dX9_endText_1 rfl (lv_at hl 1 rfl) ?_
  refine lv_if_eq (tgt := 9) hx hb dX9_endText_2 (by decide) (fun c5 => ?_) (fun c5 => ?_)
  · rw [if_pos c5] at h
    refine lv_aload_n hx hb dX9_endText_9 rfl (lv_at hl 0 rfl) ?_
    refine r_gr E hw 0 0 1 (N := 11) (C := RX9) (T := TX9) (by decide) rfl rfl (by decide) rfl iw_9 rfl lf_RX9_12 dX9_endText_10 ?_
    refine r_giN E hw 1 3 (N := 6) (C := RX8) (T := TX8) (by decide) rfl rfl (by decide) rfl iw_8 rfl lf_RX9_116 dX9_endText_13 ?_
    obtain ⟨V1, eV1, h⟩ := lt_some h
    refine r_pi E hw 0 10 (N := 11) (C := RX9) (T := TX9) (ty0 := tyX9) (ty := .int) (by decide) rfl rfl (by decide) rfl iw_9 rfl tyX9_ok nmX9 rfl rfl (vp_nar_int _) rfl lf_RX9_60 eV1 dX9_endText_16 (fun H locs hw => ?_)
    refine lv_aload_n hx hb dX9_endText_19 rfl (lv_at hl 0 rfl) ?_
    refine r_gr E hw 0 0 1 (N := 11) (C := RX9) (T := TX9) (by decide) rfl rfl (by decide) rfl iw_9 rfl lf_RX9_12 dX9_endText_20 ?_
    refine lv_iconst (v := (0 : Int32)) hx hb dX9_endText_23 (by decide) ?_
    obtain ⟨V2, eV2, h⟩ := lt_some h
    refine r_piN E hw 1 1 (N := 6) (C := RX8) (T := TX8) (ty0 := tyX8) (ty := .int) (by decide) rfl rfl (by decide) rfl iw_8 rfl tyX8_ok nmX8 rfl rfl (vp_nar_int _) rfl lf_RX9_64 eV2 dX9_endText_24 (fun H locs hw => ?_)
    have h := Option.some.inj h
    subst h
    rw [kr]
    exact r_rv E hw dX9_endText_27
  · rw [if_neg c5] at h
    refine lv_iconst (v := (-1 : Int32)) hx hb dX9_endText_5 (by decide) ?_
    refine lv_goto (tgt := 16) hx hb dX9_endText_6 (by decide) ?_
    obtain ⟨V3, eV3, h⟩ := lt_some h
    refine r_pi E hw 0 10 (N := 11) (C := RX9) (T := TX9) (ty0 := tyX9) (ty := .int) (by decide) rfl rfl (by decide) rfl iw_9 rfl tyX9_ok nmX9 rfl rfl (vp_nar_int _) rfl lf_RX9_60 eV3 dX9_endText_16 (fun H locs hw => ?_)
    refine lv_aload_n hx hb dX9_endText_19 rfl (lv_at hl 0 rfl) ?_
    refine r_gr E hw 0 0 1 (N := 11) (C := RX9) (T := TX9) (by decide) rfl rfl (by decide) rfl iw_9 rfl lf_RX9_12 dX9_endText_20 ?_
    refine lv_iconst (v := (0 : Int32)) hx hb dX9_endText_23 (by decide) ?_
    obtain ⟨V4, eV4, h⟩ := lt_some h
    refine r_piN E hw 1 1 (N := 6) (C := RX8) (T := TX8) (ty0 := tyX8) (ty := .int) (by decide) rfl rfl (by decide) rfl iw_8 rfl tyX8_ok nmX8 rfl rfl (vp_nar_int _) rfl lf_RX9_64 eV4 dX9_endText_24 (fun H locs hw => ?_)
    have h := Option.some.inj h
    subst h
    rw [kr]
    exact r_rv E hw dX9_endText_27
/-! ===== AllSawIt.best()I ===== -/
theorem dX9_best_0 : decode cX9_best 0 = .ok (.aload_n 0, 1) := by decide +kernel
theorem dX9_best_1 : decode cX9_best 1 = .ok (.getfield 19, 3) := by decide +kernel
theorem dX9_best_4 : decode cX9_best 4 = .ok (.getfield 225, 3) := by decide +kernel
theorem dX9_best_7 : decode cX9_best 7 = .ok (.ifCond .ne 7, 3) := by decide +kernel
theorem dX9_best_10 : decode cX9_best 10 = .ok (.iconst (-1), 1) := by decide +kernel
theorem dX9_best_11 : decode cX9_best 11 = .ok (.goto 14, 3) := by decide +kernel
theorem dX9_best_14 : decode cX9_best 14 = .ok (.aload_n 0, 1) := by decide +kernel
theorem dX9_best_15 : decode cX9_best 15 = .ok (.getfield 19, 3) := by decide +kernel
theorem dX9_best_18 : decode cX9_best 18 = .ok (.aload_n 0, 1) := by decide +kernel
theorem dX9_best_19 : decode cX9_best 19 = .ok (.getfield 32, 3) := by decide +kernel
theorem dX9_best_22 : decode cX9_best 22 = .ok (.invokestatic 248, 3) := by decide +kernel
theorem dX9_best_25 : decode cX9_best 25 = .ok (.ireturn, 1) := by decide +kernel
noncomputable def fX9_best (V : VT) : Option (Int32 × VT) := if (V 2 3) = 0 then (some ((-1 : Int32), V)) else (ob_I (fX5_bestSpot V 2) fun y2 V3 => some (y2, V3))
set_option maxHeartbeats 4000000 in
set_option maxRecDepth 100000 in
theorem kX9_best {l : Launch} {G : GT} {B : BGt} (hB : BGok B) {V : VT} {r : (Int32 × VT)} (h : fX9_best V = some r) : CI l G B yX9_best (.code yX9_best cX9_best 1 (some .int)) 7 [.ref (G.2.2 0)] V r.1 r.2 := by
  intro sz
  refine met_of (Qs := fun sz => QI G sz (r.1) (r.2)) hB (by decide) (Nat.le_of_ble_eq_true rfl) ?_ sz
  intro p e s m args below meth c ls E hw hl
  have hx := en_x E
  have hb := en_b E
  generalize hQ : MQ _ _ _ _ _ _ _ = Q
  have kr : Q = MQ below (QI G s.heap.size r.1 r.2) args s 0 0 (gA G s.heap.size) := hQ.symm
  have hl : lv_has ls 1 [(0, .ref (G.2.2 0))] := hl
  obtain ⟨H, eH⟩ : ∃ H, H = s.heap := ⟨_, rfl⟩
  obtain ⟨locs, elocs⟩ : ∃ z : List Loc, z = [] := ⟨_, rfl⟩
  have hw : HW G s.heap V H locs := by rw [eH, elocs]; exact hw
  show W p l e _ s m args below meth c s.heap [] 0 0 Q (F0 m 0 ls [])
  rw [← eH, ← elocs]
  unfold fX9_best at h
  refine lv_aload_n hx hb dX9_best_0 rfl (lv_at hl 0 rfl) ?_
  refine r_gr E hw 0 1 2 (N := 11) (C := RX9) (T := TX9) (by decide) rfl rfl (by decide) rfl iw_9 rfl lf_RX9_19 dX9_best_1 ?_
  refine r_giN E hw 2 3 (N := 13) (C := RX6) (T := TX6) (by decide) rfl rfl (by decide) rfl iw_6 rfl lf_RX9_225 dX9_best_4 ?_
  refine lv_if_ne (tgt := 14) hx hb dX9_best_7 (by decide) (fun c4 => ?_) (fun c4 => ?_)
  · rw [if_neg c4] at h
    refine lv_aload_n hx hb dX9_best_14 rfl (lv_at hl 0 rfl) ?_
    refine r_gr E hw 0 1 2 (N := 11) (C := RX9) (T := TX9) (by decide) rfl rfl (by decide) rfl iw_9 rfl lf_RX9_19 dX9_best_15 ?_
    refine lv_aload_n hx hb dX9_best_18 rfl (lv_at hl 0 rfl) ?_
    refine r_gr E hw 0 4 17 (N := 11) (C := RX9) (T := TX9) (by decide) rfl rfl (by decide) rfl iw_9 rfl lf_RX9_32 dX9_best_19 ?_
    obtain ⟨y2, V3, h1, h⟩ := ob_I_some h
    refine c_SI E hw (kX5_bestSpot (l := l) (G := G) hB ⟨by decide, by decide⟩ h1) yy_X5_bestSpot lm_RX9_248 rfl hl.1 (by decide) (by decide) rfl (Nat.le_of_ble_eq_true rfl) dX9_best_22 (fun H locs hw => ?_)
    have h := Option.some.inj h
    subst h
    rw [kr]
    exact r_ri E hw dX9_best_25
  · rw [if_pos c4] at h
    refine lv_iconst (v := (-1 : Int32)) hx hb dX9_best_10 (by decide) ?_
    refine lv_goto (tgt := 25) hx hb dX9_best_11 (by decide) ?_
    have h := Option.some.inj h
    subst h
    rw [kr]
    exact r_ri E hw dX9_best_25
/-! ===== AllSawIt.moreMirrors(III)I ===== -/
theorem dX9_moreMirrors_0 : decode cX9_moreMirrors 0 = .ok (.aload_n 0, 1) := by decide +kernel
theorem dX9_moreMirrors_1 : decode cX9_moreMirrors 1 = .ok (.getfield 19, 3) := by decide +kernel
theorem dX9_moreMirrors_4 : decode cX9_moreMirrors 4 = .ok (.iload_n 1, 1) := by decide +kernel
theorem dX9_moreMirrors_5 : decode cX9_moreMirrors 5 = .ok (.bipush 6, 2) := by decide +kernel
theorem dX9_moreMirrors_7 : decode cX9_moreMirrors 7 = .ok (.invokevirtual 122, 3) := by decide +kernel
theorem dX9_moreMirrors_10 : decode cX9_moreMirrors 10 = .ok (.istore 4, 2) := by decide +kernel
theorem dX9_moreMirrors_12 : decode cX9_moreMirrors 12 = .ok (.iload 4, 2) := by decide +kernel
theorem dX9_moreMirrors_14 : decode cX9_moreMirrors 14 = .ok (.istore 5, 2) := by decide +kernel
theorem dX9_moreMirrors_16 : decode cX9_moreMirrors 16 = .ok (.iload 5, 2) := by decide +kernel
theorem dX9_moreMirrors_18 : decode cX9_moreMirrors 18 = .ok (.iconst 3, 1) := by decide +kernel
theorem dX9_moreMirrors_19 : decode cX9_moreMirrors 19 = .ok (.if_icmp .gt 44, 3) := by decide +kernel
theorem dX9_moreMirrors_22 : decode cX9_moreMirrors 22 = .ok (.aload_n 0, 1) := by decide +kernel
theorem dX9_moreMirrors_23 : decode cX9_moreMirrors 23 = .ok (.getfield 23, 3) := by decide +kernel
theorem dX9_moreMirrors_26 : decode cX9_moreMirrors 26 = .ok (.iload_n 1, 1) := by decide +kernel
theorem dX9_moreMirrors_27 : decode cX9_moreMirrors 27 = .ok (.bipush 6, 2) := by decide +kernel
theorem dX9_moreMirrors_29 : decode cX9_moreMirrors 29 = .ok (.iload 5, 2) := by decide +kernel
theorem dX9_moreMirrors_31 : decode cX9_moreMirrors 31 = .ok (.invokevirtual 218, 3) := by decide +kernel
theorem dX9_moreMirrors_34 : decode cX9_moreMirrors 34 = .ok (.aload_n 0, 1) := by decide +kernel
theorem dX9_moreMirrors_35 : decode cX9_moreMirrors 35 = .ok (.getfield 32, 3) := by decide +kernel
theorem dX9_moreMirrors_38 : decode cX9_moreMirrors 38 = .ok (.aload_n 0, 1) := by decide +kernel
theorem dX9_moreMirrors_39 : decode cX9_moreMirrors 39 = .ok (.getfield 23, 3) := by decide +kernel
theorem dX9_moreMirrors_42 : decode cX9_moreMirrors 42 = .ok (.iload_n 1, 1) := by decide +kernel
theorem dX9_moreMirrors_43 : decode cX9_moreMirrors 43 = .ok (.iload_n 2, 1) := by decide +kernel
theorem dX9_moreMirrors_44 : decode cX9_moreMirrors 44 = .ok (.iload_n 3, 1) := by decide +kernel
theorem dX9_moreMirrors_45 : decode cX9_moreMirrors 45 = .ok (.invokevirtual 178, 3) := by decide +kernel
theorem dX9_moreMirrors_48 : decode cX9_moreMirrors 48 = .ok (.ifCond .eq 9, 3) := by decide +kernel
theorem dX9_moreMirrors_51 : decode cX9_moreMirrors 51 = .ok (.iload 5, 2) := by decide +kernel
theorem dX9_moreMirrors_53 : decode cX9_moreMirrors 53 = .ok (.iload 4, 2) := by decide +kernel
theorem dX9_moreMirrors_55 : decode cX9_moreMirrors 55 = .ok (.isub, 1) := by decide +kernel
theorem dX9_moreMirrors_56 : decode cX9_moreMirrors 56 = .ok (.ireturn, 1) := by decide +kernel
theorem dX9_moreMirrors_57 : decode cX9_moreMirrors 57 = .ok (.iinc 5 1, 3) := by decide +kernel
theorem dX9_moreMirrors_60 : decode cX9_moreMirrors 60 = .ok (.goto (-44), 3) := by decide +kernel
theorem dX9_moreMirrors_63 : decode cX9_moreMirrors 63 = .ok (.iconst (-1), 1) := by decide +kernel
theorem dX9_moreMirrors_64 : decode cX9_moreMirrors 64 = .ok (.ireturn, 1) := by decide +kernel
noncomputable def fX9_moreMirrors_L16 (V : VT) (u1 : Int32) (u2 : Int32) (u3 : Int32) (u4 : Int32) (u5 : Int32) : Option ((VT × Int32 × Int32 × Int32 × Int32 × Int32) ⊕ (Int32 × VT)) := if (3 : Int32) < u5 then (some (.inr (((-1 : Int32), V)))) else (ob_R (fX6_setHouse V 3 u1 (6 : Int32) u5) fun V4 => ob_I (fX3_lets V4 3 u1 u2 u3) fun y6 V7 => if y6 = 0 then (lt_ (u5 + (1 : Int32)) fun y8 => some (.inl (V7, u1, u2, u3, u4, y8))) else (some (.inr (((u5 - u4), V7)))))
noncomputable def iX9_moreMirrors_L16 : (VT × Int32 × Int32 × Int32 × Int32 × Int32) → Option ((VT × Int32 × Int32 × Int32 × Int32 × Int32) ⊕ (Int32 × VT)) := fun q => fX9_moreMirrors_L16 (q.1) (q.2.1) (q.2.2.1) (q.2.2.2.1) (q.2.2.2.2.1) (q.2.2.2.2.2)
noncomputable def fX9_moreMirrors (V : VT) (x1 : Int32) (x2 : Int32) (x3 : Int32) : Option (Int32 × VT) := ob_R (fX6_ofHouse V 2 x1 (6 : Int32)) fun y2 => ob_R (it_ (iX9_moreMirrors_L16) FV (V, x1, x2, x3, y2, y2)) fun x12 => some x12
set_option maxHeartbeats 4000000 in
set_option maxRecDepth 100000 in
theorem wX9_moreMirrors_L16 {p : Program} {l : Launch} {e : Env} {s : State} {m : MethodId} {args : Array Value} {below : List Frame} {meth : Method} {c : Code} {G : GT} {B : BGt} {Q : State → Prop} (E : En p s m args c meth cX9_moreMirrors 6 RX9 (some .int) G B) {x : (Int32 × VT)} (kr : ∀ q : (Int32 × VT), x = q → Q = MQ below (QI G s.heap.size q.1 q.2) args s 0 0 (gA G s.heap.size)) : ∀ (n : Nat) (q : (VT × Int32 × Int32 × Int32 × Int32 × Int32)), it_ (iX9_moreMirrors_L16) n q = some x → ∀ (H : Heap) (locs : List Loc) (ls : Array Slot), HW G s.heap (q.1) H locs → lv_has ls 6 [(0, .ref (G.2.2 0)), (1, .int (q.2.1)), (2, .int (q.2.2.1)), (3, .int (q.2.2.2.1)), (4, .int (q.2.2.2.2.1)), (5, .int (q.2.2.2.2.2))] → W p l e (rmD 5) s m args below meth c H locs 0 0 Q (F0 m 16 ls []) := by
  have hx := en_x E
  have hb := en_b E
  have hB := en_B E
  refine it_W (fun q : (VT × Int32 × Int32 × Int32 × Int32 × Int32) => ∀ (H : Heap) (locs : List Loc) (ls : Array Slot), HW G s.heap (q.1) H locs → lv_has ls 6 [(0, .ref (G.2.2 0)), (1, .int (q.2.1)), (2, .int (q.2.2.1)), (3, .int (q.2.2.2.1)), (4, .int (q.2.2.2.2.1)), (5, .int (q.2.2.2.2.2))] → W p l e (rmD 5) s m args below meth c H locs 0 0 Q (F0 m 16 ls [])) x ?_
  intro q r h kc kx
  obtain ⟨V, u1, u2, u3, u4, u5⟩ := q
  intro H locs ls hw hl
  have h : fX9_moreMirrors_L16 V u1 u2 u3 u4 u5 = some r := h
  have hw : HW G s.heap V H locs := hw
  have hl : lv_has ls 6 [(0, .ref (G.2.2 0)), (1, .int u1), (2, .int u2), (3, .int u3), (4, .int u4), (5, .int u5)] := hl
  have kr : ∀ q : (Int32 × VT), r = .inr (q) → Q = MQ below (QI G s.heap.size q.1 q.2) args s 0 0 (gA G s.heap.size) := fun q e => kr q (kx _ e).symm
  unfold fX9_moreMirrors_L16 at h
  refine lv_iload hx hb dX9_moreMirrors_16 (lv_at hl 5 rfl) ?_
  refine lv_iconst (v := (3 : Int32)) hx hb dX9_moreMirrors_18 (by decide) ?_
  refine lv_icmp_gt (tgt := 63) hx hb dX9_moreMirrors_19 (by decide) (fun c10 => ?_) (fun c10 => ?_)
  · rw [if_pos c10] at h
    refine lv_iconst (v := (-1 : Int32)) hx hb dX9_moreMirrors_63 (by decide) ?_
    rw [kr ((-1 : Int32), V) (Option.some.inj h).symm]
    exact r_ri E hw dX9_moreMirrors_64
  · rw [if_neg c10] at h
    refine lv_aload_n hx hb dX9_moreMirrors_22 rfl (lv_at hl 0 rfl) ?_
    refine r_gr E hw 0 2 3 (N := 11) (C := RX9) (T := TX9) (by decide) rfl rfl (by decide) rfl iw_9 rfl lf_RX9_23 dX9_moreMirrors_23 ?_
    refine lv_iload_n hx hb dX9_moreMirrors_26 rfl (lv_at hl 1 rfl) ?_
    refine lv_bipush (v := (6 : Int32)) hx hb dX9_moreMirrors_27 (by decide) ?_
    refine lv_iload hx hb dX9_moreMirrors_29 (lv_at hl 5 rfl) ?_
    obtain ⟨V4, h3, h⟩ := ob_R_some h
    refine c_VV E hw (kX6_setHouse (l := l) (G := G) hB ⟨by decide, by decide⟩ h3) yy_X6_setHouse lm_RX9_218 rfl (by decide) rfl rfl hl.1 (by decide) (by decide) rfl (Nat.le_of_ble_eq_true rfl) dX9_moreMirrors_31 (fun H locs hw => ?_)
    refine lv_aload_n hx hb dX9_moreMirrors_34 rfl (lv_at hl 0 rfl) ?_
    refine r_gr E hw 0 4 17 (N := 11) (C := RX9) (T := TX9) (by decide) rfl rfl (by decide) rfl iw_9 rfl lf_RX9_32 dX9_moreMirrors_35 ?_
    refine lv_aload_n hx hb dX9_moreMirrors_38 rfl (lv_at hl 0 rfl) ?_
    refine r_gr E hw 0 2 3 (N := 11) (C := RX9) (T := TX9) (by decide) rfl rfl (by decide) rfl iw_9 rfl lf_RX9_23 dX9_moreMirrors_39 ?_
    refine lv_iload_n hx hb dX9_moreMirrors_42 rfl (lv_at hl 1 rfl) ?_
    refine lv_iload_n hx hb dX9_moreMirrors_43 rfl (lv_at hl 2 rfl) ?_
    refine lv_iload_n hx hb dX9_moreMirrors_44 rfl (lv_at hl 3 rfl) ?_
    obtain ⟨y6, V7, h5, h⟩ := ob_I_some h
    refine c_VI E hw (kX3_lets (l := l) (G := G) hB ⟨by decide, by decide⟩ h5) yy_X3_lets lm_RX9_178 rfl (by decide) rfl rfl hl.1 (by decide) (by decide) rfl (Nat.le_of_ble_eq_true rfl) dX9_moreMirrors_45 (fun H locs hw => ?_)
    refine lv_if_eq (tgt := 57) hx hb dX9_moreMirrors_48 (by decide) (fun c9 => ?_) (fun c9 => ?_)
    · rw [if_pos c9] at h
      obtain ⟨y8, ey8, h⟩ := lt_some h
      refine lv_iinc (v := y8) (lv' := [(5, .int y8), (0, .ref (G.2.2 0)), (1, .int u1), (2, .int u2), (3, .int u3), (4, .int u4)]) hx hb dX9_moreMirrors_57 hl (k := 5) rfl (by rw [ey8]; rfl) (by decide) rfl (fun ls hl => ?_)
      refine lv_goto (tgt := 16) hx hb dX9_moreMirrors_60 (by decide) ?_
      exact kc (V7, u1, u2, u3, u4, y8) (Option.some.inj h).symm H locs ls hw (lv_sub hl [1, 2, 3, 4, 5, 0] rfl)
    · rw [if_neg c9] at h
      refine lv_iload hx hb dX9_moreMirrors_51 (lv_at hl 5 rfl) ?_
      refine lv_iload hx hb dX9_moreMirrors_53 (lv_at hl 4 rfl) ?_
      refine lv_isub hx hb dX9_moreMirrors_55 ?_
      rw [kr ((u5 - u4), V7) (Option.some.inj h).symm]
      exact r_ri E hw dX9_moreMirrors_56
set_option maxHeartbeats 4000000 in
set_option maxRecDepth 100000 in
theorem kX9_moreMirrors {l : Launch} {G : GT} {B : BGt} (hB : BGok B) {V : VT} {x1 : Int32} {x2 : Int32} {x3 : Int32} {r : (Int32 × VT)} (h : fX9_moreMirrors V x1 x2 x3 = some r) : CI l G B yX9_moreMirrors (.code yX9_moreMirrors cX9_moreMirrors 6 (some .int)) 5 [.ref (G.2.2 0), .int x1, .int x2, .int x3] V r.1 r.2 := by
  intro sz
  refine met_of (Qs := fun sz => QI G sz (r.1) (r.2)) hB (by decide) (Nat.le_of_ble_eq_true rfl) ?_ sz
  intro p e s m args below meth c ls E hw hl
  have hx := en_x E
  have hb := en_b E
  generalize hQ : MQ _ _ _ _ _ _ _ = Q
  have kr : Q = MQ below (QI G s.heap.size r.1 r.2) args s 0 0 (gA G s.heap.size) := hQ.symm
  have hl : lv_has ls 6 [(0, .ref (G.2.2 0)), (1, .int x1), (2, .int x2), (3, .int x3)] := hl
  obtain ⟨H, eH⟩ : ∃ H, H = s.heap := ⟨_, rfl⟩
  obtain ⟨locs, elocs⟩ : ∃ z : List Loc, z = [] := ⟨_, rfl⟩
  have hw : HW G s.heap V H locs := by rw [eH, elocs]; exact hw
  show W p l e _ s m args below meth c s.heap [] 0 0 Q (F0 m 0 ls [])
  rw [← eH, ← elocs]
  unfold fX9_moreMirrors at h
  refine lv_aload_n hx hb dX9_moreMirrors_0 rfl (lv_at hl 0 rfl) ?_
  refine r_gr E hw 0 1 2 (N := 11) (C := RX9) (T := TX9) (by decide) rfl rfl (by decide) rfl iw_9 rfl lf_RX9_19 dX9_moreMirrors_1 ?_
  refine lv_iload_n hx hb dX9_moreMirrors_4 rfl (lv_at hl 1 rfl) ?_
  refine lv_bipush (v := (6 : Int32)) hx hb dX9_moreMirrors_5 (by decide) ?_
  obtain ⟨y2, h1, h⟩ := ob_R_some h
  refine c_VI E hw (kX6_ofHouse (l := l) (G := G) hB ⟨by decide, by decide⟩ h1) yy_X6_ofHouse lm_RX9_122 rfl (by decide) rfl rfl hl.1 (by decide) (by decide) rfl (Nat.le_of_ble_eq_true rfl) dX9_moreMirrors_7 (fun H locs hw => ?_)
  refine lv_istore (lv' := [(4, .int y2), (0, .ref (G.2.2 0)), (1, .int x1), (2, .int x2), (3, .int x3)]) hx hb dX9_moreMirrors_10 hl (by decide) rfl (fun ls hl => ?_)
  refine lv_iload hx hb dX9_moreMirrors_12 (lv_at hl 0 rfl) ?_
  refine lv_istore (lv' := [(5, .int y2), (4, .int y2), (0, .ref (G.2.2 0)), (1, .int x1), (2, .int x2), (3, .int x3)]) hx hb dX9_moreMirrors_14 hl (by decide) rfl (fun ls hl => ?_)
  obtain ⟨x12, h11, h⟩ := ob_R_some h
  have h := Option.some.inj h
  subst h
  exact wX9_moreMirrors_L16 E (fun q e => by subst e; exact kr) FV (V, x1, x2, x3, y2, y2) h11 H locs ls hw (lv_sub hl [2, 3, 4, 5, 1, 0] rfl)
/-! ===== AllSawIt.holds()I ===== -/
theorem dX9_holds_0 : decode cX9_holds 0 = .ok (.iconst (-1), 1) := by decide +kernel
theorem dX9_holds_1 : decode cX9_holds 1 = .ok (.istore_n 1, 1) := by decide +kernel
theorem dX9_holds_2 : decode cX9_holds 2 = .ok (.iconst (-1), 1) := by decide +kernel
theorem dX9_holds_3 : decode cX9_holds 3 = .ok (.istore_n 2, 1) := by decide +kernel
theorem dX9_holds_4 : decode cX9_holds 4 = .ok (.iconst 0, 1) := by decide +kernel
theorem dX9_holds_5 : decode cX9_holds 5 = .ok (.istore_n 3, 1) := by decide +kernel
theorem dX9_holds_6 : decode cX9_holds 6 = .ok (.iload_n 3, 1) := by decide +kernel
theorem dX9_holds_7 : decode cX9_holds 7 = .ok (.aload_n 0, 1) := by decide +kernel
theorem dX9_holds_8 : decode cX9_holds 8 = .ok (.getfield 19, 3) := by decide +kernel
theorem dX9_holds_11 : decode cX9_holds 11 = .ok (.getfield 225, 3) := by decide +kernel
theorem dX9_holds_14 : decode cX9_holds 14 = .ok (.if_icmp .ge 30, 3) := by decide +kernel
theorem dX9_holds_17 : decode cX9_holds 17 = .ok (.aload_n 0, 1) := by decide +kernel
theorem dX9_holds_18 : decode cX9_holds 18 = .ok (.getfield 19, 3) := by decide +kernel
theorem dX9_holds_21 : decode cX9_holds 21 = .ok (.iload_n 3, 1) := by decide +kernel
theorem dX9_holds_22 : decode cX9_holds 22 = .ok (.invokevirtual 277, 3) := by decide +kernel
theorem dX9_holds_25 : decode cX9_holds 25 = .ok (.istore 4, 2) := by decide +kernel
theorem dX9_holds_27 : decode cX9_holds 27 = .ok (.iload 4, 2) := by decide +kernel
theorem dX9_holds_29 : decode cX9_holds 29 = .ok (.iload_n 1, 1) := by decide +kernel
theorem dX9_holds_30 : decode cX9_holds 30 = .ok (.if_icmp .le 8, 3) := by decide +kernel
theorem dX9_holds_33 : decode cX9_holds 33 = .ok (.iload 4, 2) := by decide +kernel
theorem dX9_holds_35 : decode cX9_holds 35 = .ok (.istore_n 1, 1) := by decide +kernel
theorem dX9_holds_36 : decode cX9_holds 36 = .ok (.iload_n 3, 1) := by decide +kernel
theorem dX9_holds_37 : decode cX9_holds 37 = .ok (.istore_n 2, 1) := by decide +kernel
theorem dX9_holds_38 : decode cX9_holds 38 = .ok (.iinc 3 1, 3) := by decide +kernel
theorem dX9_holds_41 : decode cX9_holds 41 = .ok (.goto (-35), 3) := by decide +kernel
theorem dX9_holds_44 : decode cX9_holds 44 = .ok (.iload_n 2, 1) := by decide +kernel
theorem dX9_holds_45 : decode cX9_holds 45 = .ok (.ireturn, 1) := by decide +kernel
noncomputable def fX9_holds_L6 (V : VT) (u1 : Int32) (u2 : Int32) (u3 : Int32) : Option ((Int32 × Int32 × Int32) ⊕ Int32) := if (V 2 3) ≤ u3 then (some (.inr (u2))) else (ob_R (fX6_unsaid V 2 u3) fun y2 => if y2 ≤ u1 then (lt_ (u3 + (1 : Int32)) fun y3 => some (.inl (u1, u2, y3))) else (lt_ (u3 + (1 : Int32)) fun y4 => some (.inl (y2, u3, y4))))
noncomputable def iX9_holds_L6 (V : VT) : (Int32 × Int32 × Int32) → Option ((Int32 × Int32 × Int32) ⊕ Int32) := fun q => fX9_holds_L6 V (q.1) (q.2.1) (q.2.2)
noncomputable def fX9_holds (V : VT) : Option Int32 := ob_R (it_ (iX9_holds_L6 V) FV ((-1 : Int32), (-1 : Int32), (0 : Int32))) fun x8 => some x8
set_option maxHeartbeats 4000000 in
set_option maxRecDepth 100000 in
theorem wX9_holds_L6 {p : Program} {l : Launch} {e : Env} {s : State} {m : MethodId} {args : Array Value} {below : List Frame} {meth : Method} {c : Code} {G : GT} {B : BGt} {Q : State → Prop} (E : En p s m args c meth cX9_holds 5 RX9 (some .int) G B) {V : VT} {x : Int32} (kr : ∀ q : Int32, x = q → Q = MQ below (QI G s.heap.size q V) args s 0 0 (gA G s.heap.size)) : ∀ (n : Nat) (q : (Int32 × Int32 × Int32)), it_ (iX9_holds_L6 V) n q = some x → ∀ (H : Heap) (locs : List Loc) (ls : Array Slot), HW G s.heap V H locs → lv_has ls 5 [(0, .ref (G.2.2 0)), (1, .int (q.1)), (2, .int (q.2.1)), (3, .int (q.2.2))] → W p l e (rmD 5) s m args below meth c H locs 0 0 Q (F0 m 6 ls []) := by
  have hx := en_x E
  have hb := en_b E
  have hB := en_B E
  refine it_W (fun q : (Int32 × Int32 × Int32) => ∀ (H : Heap) (locs : List Loc) (ls : Array Slot), HW G s.heap V H locs → lv_has ls 5 [(0, .ref (G.2.2 0)), (1, .int (q.1)), (2, .int (q.2.1)), (3, .int (q.2.2))] → W p l e (rmD 5) s m args below meth c H locs 0 0 Q (F0 m 6 ls [])) x ?_
  intro q r h kc kx
  obtain ⟨u1, u2, u3⟩ := q
  intro H locs ls hw hl
  have h : fX9_holds_L6 V u1 u2 u3 = some r := h
  have hw : HW G s.heap V H locs := hw
  have hl : lv_has ls 5 [(0, .ref (G.2.2 0)), (1, .int u1), (2, .int u2), (3, .int u3)] := hl
  have kr : ∀ q : Int32, r = .inr (q) → Q = MQ below (QI G s.heap.size q V) args s 0 0 (gA G s.heap.size) := fun q e => kr q (kx _ e).symm
  unfold fX9_holds_L6 at h
  refine lv_iload_n hx hb dX9_holds_6 rfl (lv_at hl 3 rfl) ?_
  refine lv_aload_n hx hb dX9_holds_7 rfl (lv_at hl 0 rfl) ?_
  refine r_gr E hw 0 1 2 (N := 11) (C := RX9) (T := TX9) (by decide) rfl rfl (by decide) rfl iw_9 rfl lf_RX9_19 dX9_holds_8 ?_
  refine r_giN E hw 2 3 (N := 13) (C := RX6) (T := TX6) (by decide) rfl rfl (by decide) rfl iw_6 rfl lf_RX9_225 dX9_holds_11 ?_
  refine lv_icmp_ge (tgt := 44) hx hb dX9_holds_14 (by decide) (fun c6 => ?_) (fun c6 => ?_)
  · rw [if_pos c6] at h
    refine lv_iload_n hx hb dX9_holds_44 rfl (lv_at hl 2 rfl) ?_
    rw [kr u2 (Option.some.inj h).symm]
    exact r_ri E hw dX9_holds_45
  · rw [if_neg c6] at h
    refine lv_aload_n hx hb dX9_holds_17 rfl (lv_at hl 0 rfl) ?_
    refine r_gr E hw 0 1 2 (N := 11) (C := RX9) (T := TX9) (by decide) rfl rfl (by decide) rfl iw_9 rfl lf_RX9_19 dX9_holds_18 ?_
    refine lv_iload_n hx hb dX9_holds_21 rfl (lv_at hl 3 rfl) ?_
    obtain ⟨y2, h1, h⟩ := ob_R_some h
    refine c_VI E hw (kX6_unsaid (l := l) (G := G) hB ⟨by decide, by decide⟩ h1) yy_X6_unsaid lm_RX9_277 rfl (by decide) rfl rfl hl.1 (by decide) (by decide) rfl (Nat.le_of_ble_eq_true rfl) dX9_holds_22 (fun H locs hw => ?_)
    refine lv_istore (lv' := [(4, .int y2), (0, .ref (G.2.2 0)), (1, .int u1), (2, .int u2), (3, .int u3)]) hx hb dX9_holds_25 hl (by decide) rfl (fun ls hl => ?_)
    refine lv_iload hx hb dX9_holds_27 (lv_at hl 0 rfl) ?_
    refine lv_iload_n hx hb dX9_holds_29 rfl (lv_at hl 2 rfl) ?_
    refine lv_icmp_le (tgt := 38) hx hb dX9_holds_30 (by decide) (fun c5 => ?_) (fun c5 => ?_)
    · rw [if_pos c5] at h
      obtain ⟨y3, ey3, h⟩ := lt_some h
      refine lv_iinc (v := y3) (lv' := [(3, .int y3), (4, .int y2), (0, .ref (G.2.2 0)), (1, .int u1), (2, .int u2)]) hx hb dX9_holds_38 hl (k := 4) rfl (by rw [ey3]; rfl) (by decide) rfl (fun ls hl => ?_)
      refine lv_goto (tgt := 6) hx hb dX9_holds_41 (by decide) ?_
      exact kc (u1, u2, y3) (Option.some.inj h).symm H locs ls hw (lv_sub hl [2, 3, 4, 0] rfl)
    · rw [if_neg c5] at h
      refine lv_iload hx hb dX9_holds_33 (lv_at hl 0 rfl) ?_
      refine lv_istore_n (lv' := [(1, .int y2), (4, .int y2), (0, .ref (G.2.2 0)), (2, .int u2), (3, .int u3)]) hx hb dX9_holds_35 rfl hl (by decide) rfl (fun ls hl => ?_)
      refine lv_iload_n hx hb dX9_holds_36 rfl (lv_at hl 4 rfl) ?_
      refine lv_istore_n (lv' := [(2, .int u3), (1, .int y2), (4, .int y2), (0, .ref (G.2.2 0)), (3, .int u3)]) hx hb dX9_holds_37 rfl hl (by decide) rfl (fun ls hl => ?_)
      obtain ⟨y4, ey4, h⟩ := lt_some h
      refine lv_iinc (v := y4) (lv' := [(3, .int y4), (2, .int u3), (1, .int y2), (4, .int y2), (0, .ref (G.2.2 0))]) hx hb dX9_holds_38 hl (k := 4) rfl (by rw [ey4]; rfl) (by decide) rfl (fun ls hl => ?_)
      refine lv_goto (tgt := 6) hx hb dX9_holds_41 (by decide) ?_
      exact kc (y2, u3, y4) (Option.some.inj h).symm H locs ls hw (lv_sub hl [4, 2, 1, 0] rfl)
set_option maxHeartbeats 4000000 in
set_option maxRecDepth 100000 in
theorem kX9_holds {l : Launch} {G : GT} {B : BGt} (hB : BGok B) {V : VT} {r : Int32} (h : fX9_holds V = some r) : CI l G B yX9_holds (.code yX9_holds cX9_holds 5 (some .int)) 5 [.ref (G.2.2 0)] V r V := by
  intro sz
  refine met_of (Qs := fun sz => QI G sz r V) hB (by decide) (Nat.le_of_ble_eq_true rfl) ?_ sz
  intro p e s m args below meth c ls E hw hl
  have hx := en_x E
  have hb := en_b E
  generalize hQ : MQ _ _ _ _ _ _ _ = Q
  have kr : Q = MQ below (QI G s.heap.size r V) args s 0 0 (gA G s.heap.size) := hQ.symm
  have hl : lv_has ls 5 [(0, .ref (G.2.2 0))] := hl
  obtain ⟨H, eH⟩ : ∃ H, H = s.heap := ⟨_, rfl⟩
  obtain ⟨locs, elocs⟩ : ∃ z : List Loc, z = [] := ⟨_, rfl⟩
  have hw : HW G s.heap V H locs := by rw [eH, elocs]; exact hw
  show W p l e _ s m args below meth c s.heap [] 0 0 Q (F0 m 0 ls [])
  rw [← eH, ← elocs]
  unfold fX9_holds at h
  refine lv_iconst (v := (-1 : Int32)) hx hb dX9_holds_0 (by decide) ?_
  refine lv_istore_n (lv' := [(1, .int (-1 : Int32)), (0, .ref (G.2.2 0))]) hx hb dX9_holds_1 rfl hl (by decide) rfl (fun ls hl => ?_)
  refine lv_iconst (v := (-1 : Int32)) hx hb dX9_holds_2 (by decide) ?_
  refine lv_istore_n (lv' := [(2, .int (-1 : Int32)), (1, .int (-1 : Int32)), (0, .ref (G.2.2 0))]) hx hb dX9_holds_3 rfl hl (by decide) rfl (fun ls hl => ?_)
  refine lv_iconst (v := (0 : Int32)) hx hb dX9_holds_4 (by decide) ?_
  refine lv_istore_n (lv' := [(3, .int (0 : Int32)), (2, .int (-1 : Int32)), (1, .int (-1 : Int32)), (0, .ref (G.2.2 0))]) hx hb dX9_holds_5 rfl hl (by decide) rfl (fun ls hl => ?_)
  obtain ⟨x8, h7, h⟩ := ob_R_some h
  have h := Option.some.inj h
  subst h
  exact wX9_holds_L6 E (fun q e => by subst e; exact kr) FV ((-1 : Int32), (-1 : Int32), (0 : Int32)) h7 H locs ls hw (lv_sub hl [3, 2, 1, 0] rfl)
/-! ===== AllSawIt.twins()I ===== -/
theorem dX9_twins_0 : decode cX9_twins 0 = .ok (.aload_n 0, 1) := by decide +kernel
theorem dX9_twins_1 : decode cX9_twins 1 = .ok (.getfield 52, 3) := by decide +kernel
theorem dX9_twins_4 : decode cX9_twins 4 = .ok (.aload_n 0, 1) := by decide +kernel
theorem dX9_twins_5 : decode cX9_twins 5 = .ok (.getfield 19, 3) := by decide +kernel
theorem dX9_twins_8 : decode cX9_twins 8 = .ok (.aload_n 0, 1) := by decide +kernel
theorem dX9_twins_9 : decode cX9_twins 9 = .ok (.getfield 32, 3) := by decide +kernel
theorem dX9_twins_12 : decode cX9_twins 12 = .ok (.invokevirtual 299, 3) := by decide +kernel
theorem dX9_twins_15 : decode cX9_twins 15 = .ok (.ireturn, 1) := by decide +kernel
noncomputable def fX9_twins (V : VT) : Option (Int32 × VT) := ob_I (fX5_pairsAlike V 2) fun y2 V3 => some (y2, V3)
set_option maxHeartbeats 4000000 in
set_option maxRecDepth 100000 in
theorem kX9_twins {l : Launch} {G : GT} {B : BGt} (hB : BGok B) {V : VT} {r : (Int32 × VT)} (h : fX9_twins V = some r) : CI l G B yX9_twins (.code yX9_twins cX9_twins 1 (some .int)) 8 [.ref (G.2.2 0)] V r.1 r.2 := by
  intro sz
  refine met_of (Qs := fun sz => QI G sz (r.1) (r.2)) hB (by decide) (Nat.le_of_ble_eq_true rfl) ?_ sz
  intro p e s m args below meth c ls E hw hl
  have hx := en_x E
  have hb := en_b E
  generalize hQ : MQ _ _ _ _ _ _ _ = Q
  have kr : Q = MQ below (QI G s.heap.size r.1 r.2) args s 0 0 (gA G s.heap.size) := hQ.symm
  have hl : lv_has ls 1 [(0, .ref (G.2.2 0))] := hl
  obtain ⟨H, eH⟩ : ∃ H, H = s.heap := ⟨_, rfl⟩
  obtain ⟨locs, elocs⟩ : ∃ z : List Loc, z = [] := ⟨_, rfl⟩
  have hw : HW G s.heap V H locs := by rw [eH, elocs]; exact hw
  show W p l e _ s m args below meth c s.heap [] 0 0 Q (F0 m 0 ls [])
  rw [← eH, ← elocs]
  unfold fX9_twins at h
  refine lv_aload_n hx hb dX9_twins_0 rfl (lv_at hl 0 rfl) ?_
  refine r_gr E hw 0 8 21 (N := 11) (C := RX9) (T := TX9) (by decide) rfl rfl (by decide) rfl iw_9 rfl lf_RX9_52 dX9_twins_1 ?_
  refine lv_aload_n hx hb dX9_twins_4 rfl (lv_at hl 0 rfl) ?_
  refine r_gr E hw 0 1 2 (N := 11) (C := RX9) (T := TX9) (by decide) rfl rfl (by decide) rfl iw_9 rfl lf_RX9_19 dX9_twins_5 ?_
  refine lv_aload_n hx hb dX9_twins_8 rfl (lv_at hl 0 rfl) ?_
  refine r_gr E hw 0 4 17 (N := 11) (C := RX9) (T := TX9) (by decide) rfl rfl (by decide) rfl iw_9 rfl lf_RX9_32 dX9_twins_9 ?_
  obtain ⟨y2, V3, h1, h⟩ := ob_I_some h
  refine c_VI E hw (kX5_pairsAlike (l := l) (G := G) hB ⟨by decide, by decide⟩ h1) yy_X5_pairsAlike lm_RX9_299 rfl (by decide) rfl rfl hl.1 (by decide) (by decide) rfl (Nat.le_of_ble_eq_true rfl) dX9_twins_12 (fun H locs hw => ?_)
  have h := Option.some.inj h
  subst h
  rw [kr]
  exact r_ri E hw dX9_twins_15
/-! ===== AllSawIt.book(Z)I ===== -/
theorem dX9_book_0 : decode cX9_book 0 = .ok (.iload_n 1, 1) := by decide +kernel
theorem dX9_book_1 : decode cX9_book 1 = .ok (.ifCond .eq 13, 3) := by decide +kernel
theorem dX9_book_4 : decode cX9_book 4 = .ok (.aload_n 0, 1) := by decide +kernel
theorem dX9_book_5 : decode cX9_book 5 = .ok (.getfield 19, 3) := by decide +kernel
theorem dX9_book_8 : decode cX9_book 8 = .ok (.invokevirtual 311, 3) := by decide +kernel
theorem dX9_book_11 : decode cX9_book 11 = .ok (.goto 10, 3) := by decide +kernel
theorem dX9_book_14 : decode cX9_book 14 = .ok (.aload_n 0, 1) := by decide +kernel
theorem dX9_book_15 : decode cX9_book 15 = .ok (.getfield 19, 3) := by decide +kernel
theorem dX9_book_18 : decode cX9_book 18 = .ok (.getfield 274, 3) := by decide +kernel
theorem dX9_book_21 : decode cX9_book 21 = .ok (.ireturn, 1) := by decide +kernel
noncomputable def fX9_book (V : VT) (x1 : Int32) : Option Int32 := if x1 = 0 then (some (V 2 7)) else (ob_R (fX6_halfBook V 2) fun y2 => some y2)
set_option maxHeartbeats 4000000 in
set_option maxRecDepth 100000 in
theorem kX9_book {l : Launch} {G : GT} {B : BGt} (hB : BGok B) {V : VT} {x1 : Int32} {r : Int32} (h : fX9_book V x1 = some r) : CI l G B yX9_book (.code yX9_book cX9_book 2 (some .int)) 4 [.ref (G.2.2 0), .int x1] V r V := by
  intro sz
  refine met_of (Qs := fun sz => QI G sz r V) hB (by decide) (Nat.le_of_ble_eq_true rfl) ?_ sz
  intro p e s m args below meth c ls E hw hl
  have hx := en_x E
  have hb := en_b E
  generalize hQ : MQ _ _ _ _ _ _ _ = Q
  have kr : Q = MQ below (QI G s.heap.size r V) args s 0 0 (gA G s.heap.size) := hQ.symm
  have hl : lv_has ls 2 [(0, .ref (G.2.2 0)), (1, .int x1)] := hl
  obtain ⟨H, eH⟩ : ∃ H, H = s.heap := ⟨_, rfl⟩
  obtain ⟨locs, elocs⟩ : ∃ z : List Loc, z = [] := ⟨_, rfl⟩
  have hw : HW G s.heap V H locs := by rw [eH, elocs]; exact hw
  show W p l e _ s m args below meth c s.heap [] 0 0 Q (F0 m 0 ls [])
  rw [← eH, ← elocs]
  unfold fX9_book at h
  refine lv_iload_n hx hb dX9_book_0 rfl (lv_at hl 1 rfl) ?_
  refine lv_if_eq (tgt := 14) hx hb dX9_book_1 (by decide) (fun c3 => ?_) (fun c3 => ?_)
  · rw [if_pos c3] at h
    refine lv_aload_n hx hb dX9_book_14 rfl (lv_at hl 0 rfl) ?_
    refine r_gr E hw 0 1 2 (N := 11) (C := RX9) (T := TX9) (by decide) rfl rfl (by decide) rfl iw_9 rfl lf_RX9_19 dX9_book_15 ?_
    refine r_giN E hw 2 7 (N := 13) (C := RX6) (T := TX6) (by decide) rfl rfl (by decide) rfl iw_6 rfl lf_RX9_274 dX9_book_18 ?_
    have h := Option.some.inj h
    subst h
    rw [kr]
    exact r_ri E hw dX9_book_21
  · rw [if_neg c3] at h
    refine lv_aload_n hx hb dX9_book_4 rfl (lv_at hl 0 rfl) ?_
    refine r_gr E hw 0 1 2 (N := 11) (C := RX9) (T := TX9) (by decide) rfl rfl (by decide) rfl iw_9 rfl lf_RX9_19 dX9_book_5 ?_
    obtain ⟨y2, h1, h⟩ := ob_R_some h
    refine c_VI E hw (kX6_halfBook (l := l) (G := G) hB ⟨by decide, by decide⟩ h1) yy_X6_halfBook lm_RX9_311 rfl (by decide) rfl rfl hl.1 (by decide) (by decide) rfl (Nat.le_of_ble_eq_true rfl) dX9_book_8 (fun H locs hw => ?_)
    refine lv_goto (tgt := 21) hx hb dX9_book_11 (by decide) ?_
    have h := Option.some.inj h
    subst h
    rw [kr]
    exact r_ri E hw dX9_book_21
/-! ===== AllSawIt.tryDays(II)I ===== -/
theorem dX9_tryDays_0 : decode cX9_tryDays 0 = .ok (.aload_n 0, 1) := by decide +kernel
theorem dX9_tryDays_1 : decode cX9_tryDays 1 = .ok (.getfield 23, 3) := by decide +kernel
theorem dX9_tryDays_4 : decode cX9_tryDays 4 = .ok (.aload_n 0, 1) := by decide +kernel
theorem dX9_tryDays_5 : decode cX9_tryDays 5 = .ok (.getfield 19, 3) := by decide +kernel
theorem dX9_tryDays_8 : decode cX9_tryDays 8 = .ok (.invokevirtual 71, 3) := by decide +kernel
theorem dX9_tryDays_11 : decode cX9_tryDays 11 = .ok (.aload_n 0, 1) := by decide +kernel
theorem dX9_tryDays_12 : decode cX9_tryDays 12 = .ok (.getfield 23, 3) := by decide +kernel
theorem dX9_tryDays_15 : decode cX9_tryDays 15 = .ok (.iload_n 2, 1) := by decide +kernel
theorem dX9_tryDays_16 : decode cX9_tryDays 16 = .ok (.putfield 314, 3) := by decide +kernel
theorem dX9_tryDays_19 : decode cX9_tryDays 19 = .ok (.iconst 0, 1) := by decide +kernel
theorem dX9_tryDays_20 : decode cX9_tryDays 20 = .ok (.istore_n 3, 1) := by decide +kernel
theorem dX9_tryDays_21 : decode cX9_tryDays 21 = .ok (.iload_n 3, 1) := by decide +kernel
theorem dX9_tryDays_22 : decode cX9_tryDays 22 = .ok (.iload_n 1, 1) := by decide +kernel
theorem dX9_tryDays_23 : decode cX9_tryDays 23 = .ok (.if_icmp .ge 20, 3) := by decide +kernel
theorem dX9_tryDays_26 : decode cX9_tryDays 26 = .ok (.aload_n 0, 1) := by decide +kernel
theorem dX9_tryDays_27 : decode cX9_tryDays 27 = .ok (.getfield 23, 3) := by decide +kernel
theorem dX9_tryDays_30 : decode cX9_tryDays 30 = .ok (.aload_n 0, 1) := by decide +kernel
theorem dX9_tryDays_31 : decode cX9_tryDays 31 = .ok (.getfield 32, 3) := by decide +kernel
theorem dX9_tryDays_34 : decode cX9_tryDays 34 = .ok (.invokestatic 236, 3) := by decide +kernel
theorem dX9_tryDays_37 : decode cX9_tryDays 37 = .ok (.iinc 3 1, 3) := by decide +kernel
theorem dX9_tryDays_40 : decode cX9_tryDays 40 = .ok (.goto (-19), 3) := by decide +kernel
theorem dX9_tryDays_43 : decode cX9_tryDays 43 = .ok (.aload_n 0, 1) := by decide +kernel
theorem dX9_tryDays_44 : decode cX9_tryDays 44 = .ok (.getfield 23, 3) := by decide +kernel
theorem dX9_tryDays_47 : decode cX9_tryDays 47 = .ok (.getfield 233, 3) := by decide +kernel
theorem dX9_tryDays_50 : decode cX9_tryDays 50 = .ok (.aload_n 0, 1) := by decide +kernel
theorem dX9_tryDays_51 : decode cX9_tryDays 51 = .ok (.getfield 19, 3) := by decide +kernel
theorem dX9_tryDays_54 : decode cX9_tryDays 54 = .ok (.getfield 233, 3) := by decide +kernel
theorem dX9_tryDays_57 : decode cX9_tryDays 57 = .ok (.isub, 1) := by decide +kernel
theorem dX9_tryDays_58 : decode cX9_tryDays 58 = .ok (.ireturn, 1) := by decide +kernel
noncomputable def fX9_tryDays_L21 (V : VT) (u1 : Int32) (u3 : Int32) : Option ((VT × Int32 × Int32) ⊕ (Int32 × VT)) := if u1 ≤ u3 then (some (.inr ((((V 3 12) - (V 2 12)), V)))) else (ob_R (fX1_pass V 3) fun V5 => lt_ (u3 + (1 : Int32)) fun y6 => some (.inl (V5, u1, y6)))
noncomputable def iX9_tryDays_L21 : (VT × Int32 × Int32) → Option ((VT × Int32 × Int32) ⊕ (Int32 × VT)) := fun q => fX9_tryDays_L21 (q.1) (q.2.1) (q.2.2)
noncomputable def fX9_tryDays (V : VT) (x1 : Int32) (x2 : Int32) : Option (Int32 × VT) := ob_R (fX6_copyFrom V 3 2) fun V2 => lt_ (va_up V2 3 (upd (V2 3) 11 x2)) fun V3 => ob_R (it_ (iX9_tryDays_L21) FV (V3, x1, (0 : Int32))) fun x9 => some x9
set_option maxHeartbeats 4000000 in
set_option maxRecDepth 100000 in
theorem wX9_tryDays_L21 {p : Program} {l : Launch} {e : Env} {s : State} {m : MethodId} {args : Array Value} {below : List Frame} {meth : Method} {c : Code} {G : GT} {B : BGt} {Q : State → Prop} (E : En p s m args c meth cX9_tryDays 4 RX9 (some .int) G B) {x : (Int32 × VT)} (kr : ∀ q : (Int32 × VT), x = q → Q = MQ below (QI G s.heap.size q.1 q.2) args s 0 0 (gA G s.heap.size)) : ∀ (n : Nat) (q : (VT × Int32 × Int32)), it_ (iX9_tryDays_L21) n q = some x → ∀ (H : Heap) (locs : List Loc) (ls : Array Slot), HW G s.heap (q.1) H locs → lv_has ls 4 [(0, .ref (G.2.2 0)), (1, .int (q.2.1)), (3, .int (q.2.2))] → W p l e (rmD 8) s m args below meth c H locs 0 0 Q (F0 m 21 ls []) := by
  have hx := en_x E
  have hb := en_b E
  have hB := en_B E
  refine it_W (fun q : (VT × Int32 × Int32) => ∀ (H : Heap) (locs : List Loc) (ls : Array Slot), HW G s.heap (q.1) H locs → lv_has ls 4 [(0, .ref (G.2.2 0)), (1, .int (q.2.1)), (3, .int (q.2.2))] → W p l e (rmD 8) s m args below meth c H locs 0 0 Q (F0 m 21 ls [])) x ?_
  intro q r h kc kx
  obtain ⟨V, u1, u3⟩ := q
  intro H locs ls hw hl
  have h : fX9_tryDays_L21 V u1 u3 = some r := h
  have hw : HW G s.heap V H locs := hw
  have hl : lv_has ls 4 [(0, .ref (G.2.2 0)), (1, .int u1), (3, .int u3)] := hl
  have kr : ∀ q : (Int32 × VT), r = .inr (q) → Q = MQ below (QI G s.heap.size q.1 q.2) args s 0 0 (gA G s.heap.size) := fun q e => kr q (kx _ e).symm
  unfold fX9_tryDays_L21 at h
  refine lv_iload_n hx hb dX9_tryDays_21 rfl (lv_at hl 2 rfl) ?_
  refine lv_iload_n hx hb dX9_tryDays_22 rfl (lv_at hl 1 rfl) ?_
  refine lv_icmp_ge (tgt := 43) hx hb dX9_tryDays_23 (by decide) (fun c7 => ?_) (fun c7 => ?_)
  · rw [if_pos c7] at h
    refine lv_aload_n hx hb dX9_tryDays_43 rfl (lv_at hl 0 rfl) ?_
    refine r_gr E hw 0 2 3 (N := 11) (C := RX9) (T := TX9) (by decide) rfl rfl (by decide) rfl iw_9 rfl lf_RX9_23 dX9_tryDays_44 ?_
    refine r_giN E hw 3 12 (N := 13) (C := RX6) (T := TX6) (by decide) rfl rfl (by decide) rfl iw_6 rfl lf_RX9_233 dX9_tryDays_47 ?_
    refine lv_aload_n hx hb dX9_tryDays_50 rfl (lv_at hl 0 rfl) ?_
    refine r_gr E hw 0 1 2 (N := 11) (C := RX9) (T := TX9) (by decide) rfl rfl (by decide) rfl iw_9 rfl lf_RX9_19 dX9_tryDays_51 ?_
    refine r_giN E hw 2 12 (N := 13) (C := RX6) (T := TX6) (by decide) rfl rfl (by decide) rfl iw_6 rfl lf_RX9_233 dX9_tryDays_54 ?_
    refine lv_isub hx hb dX9_tryDays_57 ?_
    rw [kr (((V 3 12) - (V 2 12)), V) (Option.some.inj h).symm]
    exact r_ri E hw dX9_tryDays_58
  · rw [if_neg c7] at h
    refine lv_aload_n hx hb dX9_tryDays_26 rfl (lv_at hl 0 rfl) ?_
    refine r_gr E hw 0 2 3 (N := 11) (C := RX9) (T := TX9) (by decide) rfl rfl (by decide) rfl iw_9 rfl lf_RX9_23 dX9_tryDays_27 ?_
    refine lv_aload_n hx hb dX9_tryDays_30 rfl (lv_at hl 0 rfl) ?_
    refine r_gr E hw 0 4 17 (N := 11) (C := RX9) (T := TX9) (by decide) rfl rfl (by decide) rfl iw_9 rfl lf_RX9_32 dX9_tryDays_31 ?_
    obtain ⟨V5, h4, h⟩ := ob_R_some h
    refine c_SV E hw (kX1_pass (l := l) (G := G) hB ⟨by decide, by decide⟩ h4) yy_X1_pass lm_RX9_236 rfl hl.1 (by decide) (by decide) rfl (Nat.le_of_ble_eq_true rfl) dX9_tryDays_34 (fun H locs hw => ?_)
    obtain ⟨y6, ey6, h⟩ := lt_some h
    refine lv_iinc (v := y6) (lv' := [(3, .int y6), (0, .ref (G.2.2 0)), (1, .int u1)]) hx hb dX9_tryDays_37 hl (k := 2) rfl (by rw [ey6]; rfl) (by decide) rfl (fun ls hl => ?_)
    refine lv_goto (tgt := 21) hx hb dX9_tryDays_40 (by decide) ?_
    exact kc (V5, u1, y6) (Option.some.inj h).symm H locs ls hw (lv_sub hl [1, 2, 0] rfl)
set_option maxHeartbeats 4000000 in
set_option maxRecDepth 100000 in
theorem kX9_tryDays {l : Launch} {G : GT} {B : BGt} (hB : BGok B) {V : VT} {x1 : Int32} {x2 : Int32} {r : (Int32 × VT)} (h : fX9_tryDays V x1 x2 = some r) : CI l G B yX9_tryDays (.code yX9_tryDays cX9_tryDays 4 (some .int)) 8 [.ref (G.2.2 0), .int x1, .int x2] V r.1 r.2 := by
  intro sz
  refine met_of (Qs := fun sz => QI G sz (r.1) (r.2)) hB (by decide) (Nat.le_of_ble_eq_true rfl) ?_ sz
  intro p e s m args below meth c ls E hw hl
  have hx := en_x E
  have hb := en_b E
  generalize hQ : MQ _ _ _ _ _ _ _ = Q
  have kr : Q = MQ below (QI G s.heap.size r.1 r.2) args s 0 0 (gA G s.heap.size) := hQ.symm
  have hl : lv_has ls 4 [(0, .ref (G.2.2 0)), (1, .int x1), (2, .int x2)] := hl
  obtain ⟨H, eH⟩ : ∃ H, H = s.heap := ⟨_, rfl⟩
  obtain ⟨locs, elocs⟩ : ∃ z : List Loc, z = [] := ⟨_, rfl⟩
  have hw : HW G s.heap V H locs := by rw [eH, elocs]; exact hw
  show W p l e _ s m args below meth c s.heap [] 0 0 Q (F0 m 0 ls [])
  rw [← eH, ← elocs]
  unfold fX9_tryDays at h
  refine lv_aload_n hx hb dX9_tryDays_0 rfl (lv_at hl 0 rfl) ?_
  refine r_gr E hw 0 2 3 (N := 11) (C := RX9) (T := TX9) (by decide) rfl rfl (by decide) rfl iw_9 rfl lf_RX9_23 dX9_tryDays_1 ?_
  refine lv_aload_n hx hb dX9_tryDays_4 rfl (lv_at hl 0 rfl) ?_
  refine r_gr E hw 0 1 2 (N := 11) (C := RX9) (T := TX9) (by decide) rfl rfl (by decide) rfl iw_9 rfl lf_RX9_19 dX9_tryDays_5 ?_
  obtain ⟨V2, h1, h⟩ := ob_R_some h
  refine c_VV E hw (kX6_copyFrom (l := l) (G := G) hB ⟨by decide, by decide⟩ ⟨by decide, by decide⟩ h1) yy_X6_copyFrom lm_RX9_71 rfl (by decide) rfl rfl hl.1 (by decide) (by decide) rfl (Nat.le_of_ble_eq_true rfl) dX9_tryDays_8 (fun H locs hw => ?_)
  refine lv_aload_n hx hb dX9_tryDays_11 rfl (lv_at hl 0 rfl) ?_
  refine r_gr E hw 0 2 3 (N := 11) (C := RX9) (T := TX9) (by decide) rfl rfl (by decide) rfl iw_9 rfl lf_RX9_23 dX9_tryDays_12 ?_
  refine lv_iload_n hx hb dX9_tryDays_15 rfl (lv_at hl 2 rfl) ?_
  obtain ⟨V3, eV3, h⟩ := lt_some h
  refine r_piN E hw 3 11 (N := 13) (C := RX6) (T := TX6) (ty0 := tyX6) (ty := .int) (by decide) rfl rfl (by decide) rfl iw_6 rfl tyX6_ok nmX6 rfl rfl (vp_nar_int _) rfl lf_RX9_314 eV3 dX9_tryDays_16 (fun H locs hw => ?_)
  refine lv_iconst (v := (0 : Int32)) hx hb dX9_tryDays_19 (by decide) ?_
  refine lv_istore_n (lv' := [(3, .int (0 : Int32)), (0, .ref (G.2.2 0)), (1, .int x1), (2, .int x2)]) hx hb dX9_tryDays_20 rfl hl (by decide) rfl (fun ls hl => ?_)
  obtain ⟨x9, h8, h⟩ := ob_R_some h
  have h := Option.some.inj h
  subst h
  exact wX9_tryDays_L21 E (fun q e => by subst e; exact kr) FV (V3, x1, (0 : Int32)) h8 H locs ls hw (lv_sub hl [1, 2, 0] rfl)
/-! ===== AllSawIt.seed(I)I ===== -/
theorem dX9_seed_0 : decode cX9_seed 0 = .ok (.aload_n 0, 1) := by decide +kernel
theorem dX9_seed_1 : decode cX9_seed 1 = .ok (.getfield 19, 3) := by decide +kernel
theorem dX9_seed_4 : decode cX9_seed 4 = .ok (.getfield 314, 3) := by decide +kernel
theorem dX9_seed_7 : decode cX9_seed 7 = .ok (.istore_n 2, 1) := by decide +kernel
theorem dX9_seed_8 : decode cX9_seed 8 = .ok (.aload_n 0, 1) := by decide +kernel
theorem dX9_seed_9 : decode cX9_seed 9 = .ok (.getfield 19, 3) := by decide +kernel
theorem dX9_seed_12 : decode cX9_seed 12 = .ok (.iload_n 1, 1) := by decide +kernel
theorem dX9_seed_13 : decode cX9_seed 13 = .ok (.putfield 314, 3) := by decide +kernel
theorem dX9_seed_16 : decode cX9_seed 16 = .ok (.iload_n 2, 1) := by decide +kernel
theorem dX9_seed_17 : decode cX9_seed 17 = .ok (.ireturn, 1) := by decide +kernel
noncomputable def fX9_seed (V : VT) (x1 : Int32) : Option (Int32 × VT) := lt_ (V 2 11) fun y1 => lt_ (va_up V 2 (upd (V 2) 11 x1)) fun V2 => some (y1, V2)
set_option maxHeartbeats 4000000 in
set_option maxRecDepth 100000 in
theorem kX9_seed {l : Launch} {G : GT} {B : BGt} (hB : BGok B) {V : VT} {x1 : Int32} {r : (Int32 × VT)} (h : fX9_seed V x1 = some r) : CI l G B yX9_seed (.code yX9_seed cX9_seed 3 (some .int)) 2 [.ref (G.2.2 0), .int x1] V r.1 r.2 := by
  intro sz
  refine met_of (Qs := fun sz => QI G sz (r.1) (r.2)) hB (by decide) (Nat.le_of_ble_eq_true rfl) ?_ sz
  intro p e s m args below meth c ls E hw hl
  have hx := en_x E
  have hb := en_b E
  generalize hQ : MQ _ _ _ _ _ _ _ = Q
  have kr : Q = MQ below (QI G s.heap.size r.1 r.2) args s 0 0 (gA G s.heap.size) := hQ.symm
  have hl : lv_has ls 3 [(0, .ref (G.2.2 0)), (1, .int x1)] := hl
  obtain ⟨H, eH⟩ : ∃ H, H = s.heap := ⟨_, rfl⟩
  obtain ⟨locs, elocs⟩ : ∃ z : List Loc, z = [] := ⟨_, rfl⟩
  have hw : HW G s.heap V H locs := by rw [eH, elocs]; exact hw
  show W p l e _ s m args below meth c s.heap [] 0 0 Q (F0 m 0 ls [])
  rw [← eH, ← elocs]
  unfold fX9_seed at h
  refine lv_aload_n hx hb dX9_seed_0 rfl (lv_at hl 0 rfl) ?_
  refine r_gr E hw 0 1 2 (N := 11) (C := RX9) (T := TX9) (by decide) rfl rfl (by decide) rfl iw_9 rfl lf_RX9_19 dX9_seed_1 ?_
  refine r_giN E hw 2 11 (N := 13) (C := RX6) (T := TX6) (by decide) rfl rfl (by decide) rfl iw_6 rfl lf_RX9_314 dX9_seed_4 ?_
  obtain ⟨y1, ey1, h⟩ := lt_some h
  refine lv_eqi ey1 ?_
  refine lv_istore_n (lv' := [(2, .int y1), (0, .ref (G.2.2 0)), (1, .int x1)]) hx hb dX9_seed_7 rfl hl (by decide) rfl (fun ls hl => ?_)
  refine lv_aload_n hx hb dX9_seed_8 rfl (lv_at hl 1 rfl) ?_
  refine r_gr E hw 0 1 2 (N := 11) (C := RX9) (T := TX9) (by decide) rfl rfl (by decide) rfl iw_9 rfl lf_RX9_19 dX9_seed_9 ?_
  refine lv_iload_n hx hb dX9_seed_12 rfl (lv_at hl 2 rfl) ?_
  obtain ⟨V2, eV2, h⟩ := lt_some h
  refine r_piN E hw 2 11 (N := 13) (C := RX6) (T := TX6) (ty0 := tyX6) (ty := .int) (by decide) rfl rfl (by decide) rfl iw_6 rfl tyX6_ok nmX6 rfl rfl (vp_nar_int _) rfl lf_RX9_314 eV2 dX9_seed_13 (fun H locs hw => ?_)
  refine lv_iload_n hx hb dX9_seed_16 rfl (lv_at hl 0 rfl) ?_
  have h := Option.some.inj h
  subst h
  rw [kr]
  exact r_ri E hw dX9_seed_17
/-! ===== AllSawIt.undo()Z ===== -/
theorem dX9_undo_0 : decode cX9_undo 0 = .ok (.aload_n 0, 1) := by decide +kernel
theorem dX9_undo_1 : decode cX9_undo 1 = .ok (.getfield 45, 3) := by decide +kernel
theorem dX9_undo_4 : decode cX9_undo 4 = .ok (.aload_n 0, 1) := by decide +kernel
theorem dX9_undo_5 : decode cX9_undo 5 = .ok (.getfield 19, 3) := by decide +kernel
theorem dX9_undo_8 : decode cX9_undo 8 = .ok (.invokevirtual 345, 3) := by decide +kernel
theorem dX9_undo_11 : decode cX9_undo 11 = .ok (.ireturn, 1) := by decide +kernel
noncomputable def fX9_undo (V : VT) : Option (Int32 × VT) := ob_I (fX0_takeBack V 2) fun y2 V3 => zo_ y2 (some (y2, V3))
set_option maxHeartbeats 4000000 in
set_option maxRecDepth 100000 in
theorem kX9_undo {l : Launch} {G : GT} {B : BGt} (hB : BGok B) {V : VT} {r : (Int32 × VT)} (h : fX9_undo V = some r) : CI l G B yX9_undo (.code yX9_undo cX9_undo 1 (some .boolean)) 4 [.ref (G.2.2 0)] V r.1 r.2 := by
  intro sz
  refine met_of (Qs := fun sz => QI G sz (r.1) (r.2)) hB (by decide) (Nat.le_of_ble_eq_true rfl) ?_ sz
  intro p e s m args below meth c ls E hw hl
  have hx := en_x E
  have hb := en_b E
  generalize hQ : MQ _ _ _ _ _ _ _ = Q
  have kr : Q = MQ below (QI G s.heap.size r.1 r.2) args s 0 0 (gA G s.heap.size) := hQ.symm
  have hl : lv_has ls 1 [(0, .ref (G.2.2 0))] := hl
  obtain ⟨H, eH⟩ : ∃ H, H = s.heap := ⟨_, rfl⟩
  obtain ⟨locs, elocs⟩ : ∃ z : List Loc, z = [] := ⟨_, rfl⟩
  have hw : HW G s.heap V H locs := by rw [eH, elocs]; exact hw
  show W p l e _ s m args below meth c s.heap [] 0 0 Q (F0 m 0 ls [])
  rw [← eH, ← elocs]
  unfold fX9_undo at h
  refine lv_aload_n hx hb dX9_undo_0 rfl (lv_at hl 0 rfl) ?_
  refine r_gr E hw 0 7 20 (N := 11) (C := RX9) (T := TX9) (by decide) rfl rfl (by decide) rfl iw_9 rfl lf_RX9_45 dX9_undo_1 ?_
  refine lv_aload_n hx hb dX9_undo_4 rfl (lv_at hl 0 rfl) ?_
  refine r_gr E hw 0 1 2 (N := 11) (C := RX9) (T := TX9) (by decide) rfl rfl (by decide) rfl iw_9 rfl lf_RX9_19 dX9_undo_5 ?_
  obtain ⟨y2, V3, h1, h⟩ := ob_I_some h
  refine c_VI E hw (kX0_takeBack (l := l) (G := G) hB ⟨by decide, by decide⟩ h1) yy_X0_takeBack lm_RX9_345 rfl (by decide) rfl rfl hl.1 (by decide) (by decide) rfl (Nat.le_of_ble_eq_true rfl) dX9_undo_8 (fun H locs hw => ?_)
  obtain ⟨z4, h⟩ := zo_some h
  have h := Option.some.inj h
  subst h
  rw [kr]
  exact r_rz E hw z4 dX9_undo_11
/-! ===== AllSawIt.image()V ===== -/
theorem dX9_image_0 : decode cX9_image 0 = .ok (.aload_n 0, 1) := by decide +kernel
theorem dX9_image_1 : decode cX9_image 1 = .ok (.getfield 26, 3) := by decide +kernel
theorem dX9_image_4 : decode cX9_image 4 = .ok (.aload_n 0, 1) := by decide +kernel
theorem dX9_image_5 : decode cX9_image 5 = .ok (.getfield 19, 3) := by decide +kernel
theorem dX9_image_8 : decode cX9_image 8 = .ok (.invokevirtual 71, 3) := by decide +kernel
theorem dX9_image_11 : decode cX9_image 11 = .ok (.aload_n 0, 1) := by decide +kernel
theorem dX9_image_12 : decode cX9_image 12 = .ok (.getfield 39, 3) := by decide +kernel
theorem dX9_image_15 : decode cX9_image 15 = .ok (.aload_n 0, 1) := by decide +kernel
theorem dX9_image_16 : decode cX9_image 16 = .ok (.getfield 32, 3) := by decide +kernel
theorem dX9_image_19 : decode cX9_image 19 = .ok (.invokevirtual 110, 3) := by decide +kernel
theorem dX9_image_22 : decode cX9_image 22 = .ok (.aload_n 0, 1) := by decide +kernel
theorem dX9_image_23 : decode cX9_image 23 = .ok (.iconst 1, 1) := by decide +kernel
theorem dX9_image_24 : decode cX9_image 24 = .ok (.putfield 56, 3) := by decide +kernel
theorem dX9_image_27 : decode cX9_image 27 = .ok (.return_, 1) := by decide +kernel
noncomputable def fX9_image (V : VT) : Option VT := ob_R (fX6_copyFrom V 4 2) fun V2 => ob_R (fX3_copyFrom V2 19 17) fun V4 => zo_ (1 : Int32) (lt_ (va_up V4 0 (upd (V4 0) 9 (1 : Int32))) fun V5 => some V5)
set_option maxHeartbeats 4000000 in
set_option maxRecDepth 100000 in
theorem kX9_image {l : Launch} {G : GT} {B : BGt} (hB : BGok B) {V : VT} {r : VT} (h : fX9_image V = some r) : CV l G B yX9_image (.code yX9_image cX9_image 1 none) 3 [.ref (G.2.2 0)] V r := by
  intro sz
  refine met_of (Qs := fun sz => QV G sz r) hB (by decide) (Nat.le_of_ble_eq_true rfl) ?_ sz
  intro p e s m args below meth c ls E hw hl
  have hx := en_x E
  have hb := en_b E
  generalize hQ : MQ _ _ _ _ _ _ _ = Q
  have kr : Q = MQ below (QV G s.heap.size r) args s 0 0 (gA G s.heap.size) := hQ.symm
  have hl : lv_has ls 1 [(0, .ref (G.2.2 0))] := hl
  obtain ⟨H, eH⟩ : ∃ H, H = s.heap := ⟨_, rfl⟩
  obtain ⟨locs, elocs⟩ : ∃ z : List Loc, z = [] := ⟨_, rfl⟩
  have hw : HW G s.heap V H locs := by rw [eH, elocs]; exact hw
  show W p l e _ s m args below meth c s.heap [] 0 0 Q (F0 m 0 ls [])
  rw [← eH, ← elocs]
  unfold fX9_image at h
  refine lv_aload_n hx hb dX9_image_0 rfl (lv_at hl 0 rfl) ?_
  refine r_gr E hw 0 3 4 (N := 11) (C := RX9) (T := TX9) (by decide) rfl rfl (by decide) rfl iw_9 rfl lf_RX9_26 dX9_image_1 ?_
  refine lv_aload_n hx hb dX9_image_4 rfl (lv_at hl 0 rfl) ?_
  refine r_gr E hw 0 1 2 (N := 11) (C := RX9) (T := TX9) (by decide) rfl rfl (by decide) rfl iw_9 rfl lf_RX9_19 dX9_image_5 ?_
  obtain ⟨V2, h1, h⟩ := ob_R_some h
  refine c_VV E hw (kX6_copyFrom (l := l) (G := G) hB ⟨by decide, by decide⟩ ⟨by decide, by decide⟩ h1) yy_X6_copyFrom lm_RX9_71 rfl (by decide) rfl rfl hl.1 (by decide) (by decide) rfl (Nat.le_of_ble_eq_true rfl) dX9_image_8 (fun H locs hw => ?_)
  refine lv_aload_n hx hb dX9_image_11 rfl (lv_at hl 0 rfl) ?_
  refine r_gr E hw 0 6 19 (N := 11) (C := RX9) (T := TX9) (by decide) rfl rfl (by decide) rfl iw_9 rfl lf_RX9_39 dX9_image_12 ?_
  refine lv_aload_n hx hb dX9_image_15 rfl (lv_at hl 0 rfl) ?_
  refine r_gr E hw 0 4 17 (N := 11) (C := RX9) (T := TX9) (by decide) rfl rfl (by decide) rfl iw_9 rfl lf_RX9_32 dX9_image_16 ?_
  obtain ⟨V4, h3, h⟩ := ob_R_some h
  refine c_VV E hw (kX3_copyFrom (l := l) (G := G) hB ⟨by decide, by decide⟩ ⟨by decide, by decide⟩ h3) yy_X3_copyFrom lm_RX9_110 rfl (by decide) rfl rfl hl.1 (by decide) (by decide) rfl (Nat.le_of_ble_eq_true rfl) dX9_image_19 (fun H locs hw => ?_)
  refine lv_aload_n hx hb dX9_image_22 rfl (lv_at hl 0 rfl) ?_
  refine lv_iconst (v := (1 : Int32)) hx hb dX9_image_23 (by decide) ?_
  obtain ⟨z6, h⟩ := zo_some h
  obtain ⟨V5, eV5, h⟩ := lt_some h
  refine r_pi E hw 0 9 (N := 11) (C := RX9) (T := TX9) (ty0 := tyX9) (ty := .boolean) (by decide) rfl rfl (by decide) rfl iw_9 rfl tyX9_ok nmX9 rfl rfl (nar_z z6) (fit_z z6) lf_RX9_56 eV5 dX9_image_24 (fun H locs hw => ?_)
  have h := Option.some.inj h
  subst h
  rw [kr]
  exact r_rv E hw dX9_image_27
/-! ===== AllSawIt.back()Z ===== -/
theorem dX9_back_0 : decode cX9_back 0 = .ok (.aload_n 0, 1) := by decide +kernel
theorem dX9_back_1 : decode cX9_back 1 = .ok (.getfield 56, 3) := by decide +kernel
theorem dX9_back_4 : decode cX9_back 4 = .ok (.ifCond .ne 5, 3) := by decide +kernel
theorem dX9_back_7 : decode cX9_back 7 = .ok (.iconst 0, 1) := by decide +kernel
theorem dX9_back_8 : decode cX9_back 8 = .ok (.ireturn, 1) := by decide +kernel
theorem dX9_back_9 : decode cX9_back 9 = .ok (.aload_n 0, 1) := by decide +kernel
theorem dX9_back_10 : decode cX9_back 10 = .ok (.getfield 19, 3) := by decide +kernel
theorem dX9_back_13 : decode cX9_back 13 = .ok (.aload_n 0, 1) := by decide +kernel
theorem dX9_back_14 : decode cX9_back 14 = .ok (.getfield 26, 3) := by decide +kernel
theorem dX9_back_17 : decode cX9_back 17 = .ok (.invokevirtual 71, 3) := by decide +kernel
theorem dX9_back_20 : decode cX9_back 20 = .ok (.aload_n 0, 1) := by decide +kernel
theorem dX9_back_21 : decode cX9_back 21 = .ok (.getfield 32, 3) := by decide +kernel
theorem dX9_back_24 : decode cX9_back 24 = .ok (.aload_n 0, 1) := by decide +kernel
theorem dX9_back_25 : decode cX9_back 25 = .ok (.getfield 39, 3) := by decide +kernel
theorem dX9_back_28 : decode cX9_back 28 = .ok (.invokevirtual 110, 3) := by decide +kernel
theorem dX9_back_31 : decode cX9_back 31 = .ok (.aload_n 0, 1) := by decide +kernel
theorem dX9_back_32 : decode cX9_back 32 = .ok (.getfield 45, 3) := by decide +kernel
theorem dX9_back_35 : decode cX9_back 35 = .ok (.invokevirtual 100, 3) := by decide +kernel
theorem dX9_back_38 : decode cX9_back 38 = .ok (.iconst 1, 1) := by decide +kernel
theorem dX9_back_39 : decode cX9_back 39 = .ok (.ireturn, 1) := by decide +kernel
noncomputable def fX9_back (V : VT) : Option (Int32 × VT) := if (V 0 9) = 0 then (zo_ (0 : Int32) (some ((0 : Int32), V))) else (ob_R (fX6_copyFrom V 2 4) fun V2 => ob_R (fX3_copyFrom V2 17 19) fun V4 => ob_R (fX0_forget V4 ) fun V6 => zo_ (1 : Int32) (some ((1 : Int32), V6)))
set_option maxHeartbeats 4000000 in
set_option maxRecDepth 100000 in
theorem kX9_back {l : Launch} {G : GT} {B : BGt} (hB : BGok B) {V : VT} {r : (Int32 × VT)} (h : fX9_back V = some r) : CI l G B yX9_back (.code yX9_back cX9_back 1 (some .boolean)) 3 [.ref (G.2.2 0)] V r.1 r.2 := by
  intro sz
  refine met_of (Qs := fun sz => QI G sz (r.1) (r.2)) hB (by decide) (Nat.le_of_ble_eq_true rfl) ?_ sz
  intro p e s m args below meth c ls E hw hl
  have hx := en_x E
  have hb := en_b E
  generalize hQ : MQ _ _ _ _ _ _ _ = Q
  have kr : Q = MQ below (QI G s.heap.size r.1 r.2) args s 0 0 (gA G s.heap.size) := hQ.symm
  have hl : lv_has ls 1 [(0, .ref (G.2.2 0))] := hl
  obtain ⟨H, eH⟩ : ∃ H, H = s.heap := ⟨_, rfl⟩
  obtain ⟨locs, elocs⟩ : ∃ z : List Loc, z = [] := ⟨_, rfl⟩
  have hw : HW G s.heap V H locs := by rw [eH, elocs]; exact hw
  show W p l e _ s m args below meth c s.heap [] 0 0 Q (F0 m 0 ls [])
  rw [← eH, ← elocs]
  unfold fX9_back at h
  refine lv_aload_n hx hb dX9_back_0 rfl (lv_at hl 0 rfl) ?_
  refine r_gi E hw 0 9 (N := 11) (C := RX9) (T := TX9) (by decide) rfl rfl (by decide) rfl iw_9 rfl lf_RX9_56 dX9_back_1 ?_
  refine lv_if_ne (tgt := 9) hx hb dX9_back_4 (by decide) (fun c9 => ?_) (fun c9 => ?_)
  · rw [if_neg c9] at h
    refine lv_aload_n hx hb dX9_back_9 rfl (lv_at hl 0 rfl) ?_
    refine r_gr E hw 0 1 2 (N := 11) (C := RX9) (T := TX9) (by decide) rfl rfl (by decide) rfl iw_9 rfl lf_RX9_19 dX9_back_10 ?_
    refine lv_aload_n hx hb dX9_back_13 rfl (lv_at hl 0 rfl) ?_
    refine r_gr E hw 0 3 4 (N := 11) (C := RX9) (T := TX9) (by decide) rfl rfl (by decide) rfl iw_9 rfl lf_RX9_26 dX9_back_14 ?_
    obtain ⟨V2, h1, h⟩ := ob_R_some h
    refine c_VV E hw (kX6_copyFrom (l := l) (G := G) hB ⟨by decide, by decide⟩ ⟨by decide, by decide⟩ h1) yy_X6_copyFrom lm_RX9_71 rfl (by decide) rfl rfl hl.1 (by decide) (by decide) rfl (Nat.le_of_ble_eq_true rfl) dX9_back_17 (fun H locs hw => ?_)
    refine lv_aload_n hx hb dX9_back_20 rfl (lv_at hl 0 rfl) ?_
    refine r_gr E hw 0 4 17 (N := 11) (C := RX9) (T := TX9) (by decide) rfl rfl (by decide) rfl iw_9 rfl lf_RX9_32 dX9_back_21 ?_
    refine lv_aload_n hx hb dX9_back_24 rfl (lv_at hl 0 rfl) ?_
    refine r_gr E hw 0 6 19 (N := 11) (C := RX9) (T := TX9) (by decide) rfl rfl (by decide) rfl iw_9 rfl lf_RX9_39 dX9_back_25 ?_
    obtain ⟨V4, h3, h⟩ := ob_R_some h
    refine c_VV E hw (kX3_copyFrom (l := l) (G := G) hB ⟨by decide, by decide⟩ ⟨by decide, by decide⟩ h3) yy_X3_copyFrom lm_RX9_110 rfl (by decide) rfl rfl hl.1 (by decide) (by decide) rfl (Nat.le_of_ble_eq_true rfl) dX9_back_28 (fun H locs hw => ?_)
    refine lv_aload_n hx hb dX9_back_31 rfl (lv_at hl 0 rfl) ?_
    refine r_gr E hw 0 7 20 (N := 11) (C := RX9) (T := TX9) (by decide) rfl rfl (by decide) rfl iw_9 rfl lf_RX9_45 dX9_back_32 ?_
    obtain ⟨V6, h5, h⟩ := ob_R_some h
    refine c_VV E hw (kX0_forget (l := l) (G := G) hB  h5) yy_X0_forget lm_RX9_100 rfl (by decide) rfl rfl hl.1 (by decide) (by decide) rfl (Nat.le_of_ble_eq_true rfl) dX9_back_35 (fun H locs hw => ?_)
    refine lv_iconst (v := (1 : Int32)) hx hb dX9_back_38 (by decide) ?_
    obtain ⟨z7, h⟩ := zo_some h
    have h := Option.some.inj h
    subst h
    rw [kr]
    exact r_rz E hw z7 dX9_back_39
  · rw [if_pos c9] at h
    refine lv_iconst (v := (0 : Int32)) hx hb dX9_back_7 (by decide) ?_
    obtain ⟨z8, h⟩ := zo_some h
    have h := Option.some.inj h
    subst h
    rw [kr]
    exact r_rz E hw z8 dX9_back_8
/-! ===== AllSawIt.count(I)I ===== -/
theorem dX9_count_0 : decode cX9_count 0 = .ok (.iload_n 1, 1) := by decide +kernel
theorem dX9_count_1 : decode cX9_count 1 = .ok (.tableswitch 174 0 12 #[67, 75, 83, 91, 99, 107, 115, 123, 131, 141, 150, 158, 166], 67) := by decide +kernel
theorem dX9_count_68 : decode cX9_count 68 = .ok (.aload_n 0, 1) := by decide +kernel
theorem dX9_count_69 : decode cX9_count 69 = .ok (.getfield 19, 3) := by decide +kernel
theorem dX9_count_72 : decode cX9_count 72 = .ok (.getfield 225, 3) := by decide +kernel
theorem dX9_count_75 : decode cX9_count 75 = .ok (.ireturn, 1) := by decide +kernel
theorem dX9_count_76 : decode cX9_count 76 = .ok (.aload_n 0, 1) := by decide +kernel
theorem dX9_count_77 : decode cX9_count 77 = .ok (.getfield 19, 3) := by decide +kernel
theorem dX9_count_80 : decode cX9_count 80 = .ok (.getfield 349, 3) := by decide +kernel
theorem dX9_count_83 : decode cX9_count 83 = .ok (.ireturn, 1) := by decide +kernel
theorem dX9_count_84 : decode cX9_count 84 = .ok (.aload_n 0, 1) := by decide +kernel
theorem dX9_count_85 : decode cX9_count 85 = .ok (.getfield 19, 3) := by decide +kernel
theorem dX9_count_88 : decode cX9_count 88 = .ok (.getfield 92, 3) := by decide +kernel
theorem dX9_count_91 : decode cX9_count 91 = .ok (.ireturn, 1) := by decide +kernel
theorem dX9_count_92 : decode cX9_count 92 = .ok (.aload_n 0, 1) := by decide +kernel
theorem dX9_count_93 : decode cX9_count 93 = .ok (.getfield 32, 3) := by decide +kernel
theorem dX9_count_96 : decode cX9_count 96 = .ok (.getfield 113, 3) := by decide +kernel
theorem dX9_count_99 : decode cX9_count 99 = .ok (.ireturn, 1) := by decide +kernel
theorem dX9_count_100 : decode cX9_count 100 = .ok (.aload_n 0, 1) := by decide +kernel
theorem dX9_count_101 : decode cX9_count 101 = .ok (.getfield 19, 3) := by decide +kernel
theorem dX9_count_104 : decode cX9_count 104 = .ok (.getfield 352, 3) := by decide +kernel
theorem dX9_count_107 : decode cX9_count 107 = .ok (.ireturn, 1) := by decide +kernel
theorem dX9_count_108 : decode cX9_count 108 = .ok (.aload_n 0, 1) := by decide +kernel
theorem dX9_count_109 : decode cX9_count 109 = .ok (.getfield 19, 3) := by decide +kernel
theorem dX9_count_112 : decode cX9_count 112 = .ok (.getfield 263, 3) := by decide +kernel
theorem dX9_count_115 : decode cX9_count 115 = .ok (.ireturn, 1) := by decide +kernel
theorem dX9_count_116 : decode cX9_count 116 = .ok (.aload_n 0, 1) := by decide +kernel
theorem dX9_count_117 : decode cX9_count 117 = .ok (.getfield 19, 3) := by decide +kernel
theorem dX9_count_120 : decode cX9_count 120 = .ok (.getfield 355, 3) := by decide +kernel
theorem dX9_count_123 : decode cX9_count 123 = .ok (.ireturn, 1) := by decide +kernel
theorem dX9_count_124 : decode cX9_count 124 = .ok (.aload_n 0, 1) := by decide +kernel
theorem dX9_count_125 : decode cX9_count 125 = .ok (.getfield 19, 3) := by decide +kernel
theorem dX9_count_128 : decode cX9_count 128 = .ok (.getfield 213, 3) := by decide +kernel
theorem dX9_count_131 : decode cX9_count 131 = .ok (.ireturn, 1) := by decide +kernel
theorem dX9_count_132 : decode cX9_count 132 = .ok (.aload_n 0, 1) := by decide +kernel
theorem dX9_count_133 : decode cX9_count 133 = .ok (.getfield 19, 3) := by decide +kernel
theorem dX9_count_136 : decode cX9_count 136 = .ok (.bipush 6, 2) := by decide +kernel
theorem dX9_count_138 : decode cX9_count 138 = .ok (.invokevirtual 358, 3) := by decide +kernel
theorem dX9_count_141 : decode cX9_count 141 = .ok (.ireturn, 1) := by decide +kernel
theorem dX9_count_142 : decode cX9_count 142 = .ok (.aload_n 0, 1) := by decide +kernel
theorem dX9_count_143 : decode cX9_count 143 = .ok (.getfield 19, 3) := by decide +kernel
theorem dX9_count_146 : decode cX9_count 146 = .ok (.iconst 5, 1) := by decide +kernel
theorem dX9_count_147 : decode cX9_count 147 = .ok (.invokevirtual 358, 3) := by decide +kernel
theorem dX9_count_150 : decode cX9_count 150 = .ok (.ireturn, 1) := by decide +kernel
theorem dX9_count_151 : decode cX9_count 151 = .ok (.aload_n 0, 1) := by decide +kernel
theorem dX9_count_152 : decode cX9_count 152 = .ok (.getfield 19, 3) := by decide +kernel
theorem dX9_count_155 : decode cX9_count 155 = .ok (.getfield 233, 3) := by decide +kernel
theorem dX9_count_158 : decode cX9_count 158 = .ok (.ireturn, 1) := by decide +kernel
theorem dX9_count_159 : decode cX9_count 159 = .ok (.aload_n 0, 1) := by decide +kernel
theorem dX9_count_160 : decode cX9_count 160 = .ok (.getfield 19, 3) := by decide +kernel
theorem dX9_count_163 : decode cX9_count 163 = .ok (.invokevirtual 361, 3) := by decide +kernel
theorem dX9_count_166 : decode cX9_count 166 = .ok (.ireturn, 1) := by decide +kernel
theorem dX9_count_167 : decode cX9_count 167 = .ok (.aload_n 0, 1) := by decide +kernel
theorem dX9_count_168 : decode cX9_count 168 = .ok (.getfield 45, 3) := by decide +kernel
theorem dX9_count_171 : decode cX9_count 171 = .ok (.getfield 364, 3) := by decide +kernel
theorem dX9_count_174 : decode cX9_count 174 = .ok (.ireturn, 1) := by decide +kernel
theorem dX9_count_175 : decode cX9_count 175 = .ok (.iconst (-1), 1) := by decide +kernel
theorem dX9_count_176 : decode cX9_count 176 = .ok (.ireturn, 1) := by decide +kernel
noncomputable def fX9_count (V : VT) (x1 : Int32) : Option Int32 := if x1 = (0 : Int32) then (some (V 2 3)) else if x1 = (1 : Int32) then (some (V 2 4)) else if x1 = (2 : Int32) then (some (V 2 5)) else if x1 = (3 : Int32) then (some (V 17 2)) else if x1 = (4 : Int32) then (some (V 2 10)) else if x1 = (5 : Int32) then (some (V 2 8)) else if x1 = (6 : Int32) then (some (V 2 9)) else if x1 = (7 : Int32) then (some (V 2 6)) else if x1 = (8 : Int32) then (ob_R (fX6_total V 2 (6 : Int32)) fun y10 => some y10) else if x1 = (9 : Int32) then (ob_R (fX6_total V 2 (5 : Int32)) fun y13 => some y13) else if x1 = (10 : Int32) then (some (V 2 12)) else if x1 = (11 : Int32) then (ob_R (fX6_logSize V 2) fun y17 => some y17) else if x1 = (12 : Int32) then (some (V 20 2)) else (some (-1 : Int32))
set_option maxHeartbeats 4000000 in
set_option maxRecDepth 100000 in
theorem kX9_count {l : Launch} {G : GT} {B : BGt} (hB : BGok B) {V : VT} {x1 : Int32} {r : Int32} (h : fX9_count V x1 = some r) : CI l G B yX9_count (.code yX9_count cX9_count 2 (some .int)) 4 [.ref (G.2.2 0), .int x1] V r V := by
  intro sz
  refine met_of (Qs := fun sz => QI G sz r V) hB (by decide) (Nat.le_of_ble_eq_true rfl) ?_ sz
  intro p e s m args below meth c ls E hw hl
  have hx := en_x E
  have hb := en_b E
  generalize hQ : MQ _ _ _ _ _ _ _ = Q
  have kr : Q = MQ below (QI G s.heap.size r V) args s 0 0 (gA G s.heap.size) := hQ.symm
  have hl : lv_has ls 2 [(0, .ref (G.2.2 0)), (1, .int x1)] := hl
  obtain ⟨H, eH⟩ : ∃ H, H = s.heap := ⟨_, rfl⟩
  obtain ⟨locs, elocs⟩ : ∃ z : List Loc, z = [] := ⟨_, rfl⟩
  have hw : HW G s.heap V H locs := by rw [eH, elocs]; exact hw
  show W p l e _ s m args below meth c s.heap [] 0 0 Q (F0 m 0 ls [])
  rw [← eH, ← elocs]
  unfold fX9_count at h
  refine lv_iload_n hx hb dX9_count_0 rfl (lv_at hl 1 rfl) ?_
  by_cases c1 : x1 = (0 : Int32)
  · rw [if_pos c1] at h
    refine lv_tableIn (tgt := 68) hx hb dX9_count_1 (by rw [c1]; decide) (by rw [c1]; decide) (by rw [c1]; rfl) (by decide) ?_
    refine lv_aload_n hx hb dX9_count_68 rfl (lv_at hl 0 rfl) ?_
    refine r_gr E hw 0 1 2 (N := 11) (C := RX9) (T := TX9) (by decide) rfl rfl (by decide) rfl iw_9 rfl lf_RX9_19 dX9_count_69 ?_
    refine r_giN E hw 2 3 (N := 13) (C := RX6) (T := TX6) (by decide) rfl rfl (by decide) rfl iw_6 rfl lf_RX9_225 dX9_count_72 ?_
    have h := Option.some.inj h
    subst h
    rw [kr]
    exact r_ri E hw dX9_count_75
  · rw [if_neg c1] at h
    by_cases c2 : x1 = (1 : Int32)
    · rw [if_pos c2] at h
      refine lv_tableIn (tgt := 76) hx hb dX9_count_1 (by rw [c2]; decide) (by rw [c2]; decide) (by rw [c2]; rfl) (by decide) ?_
      refine lv_aload_n hx hb dX9_count_76 rfl (lv_at hl 0 rfl) ?_
      refine r_gr E hw 0 1 2 (N := 11) (C := RX9) (T := TX9) (by decide) rfl rfl (by decide) rfl iw_9 rfl lf_RX9_19 dX9_count_77 ?_
      refine r_giN E hw 2 4 (N := 13) (C := RX6) (T := TX6) (by decide) rfl rfl (by decide) rfl iw_6 rfl lf_RX9_349 dX9_count_80 ?_
      have h := Option.some.inj h
      subst h
      rw [kr]
      exact r_ri E hw dX9_count_83
    · rw [if_neg c2] at h
      by_cases c3 : x1 = (2 : Int32)
      · rw [if_pos c3] at h
        refine lv_tableIn (tgt := 84) hx hb dX9_count_1 (by rw [c3]; decide) (by rw [c3]; decide) (by rw [c3]; rfl) (by decide) ?_
        refine lv_aload_n hx hb dX9_count_84 rfl (lv_at hl 0 rfl) ?_
        refine r_gr E hw 0 1 2 (N := 11) (C := RX9) (T := TX9) (by decide) rfl rfl (by decide) rfl iw_9 rfl lf_RX9_19 dX9_count_85 ?_
        refine r_giN E hw 2 5 (N := 13) (C := RX6) (T := TX6) (by decide) rfl rfl (by decide) rfl iw_6 rfl lf_RX9_92 dX9_count_88 ?_
        have h := Option.some.inj h
        subst h
        rw [kr]
        exact r_ri E hw dX9_count_91
      · rw [if_neg c3] at h
        by_cases c4 : x1 = (3 : Int32)
        · rw [if_pos c4] at h
          refine lv_tableIn (tgt := 92) hx hb dX9_count_1 (by rw [c4]; decide) (by rw [c4]; decide) (by rw [c4]; rfl) (by decide) ?_
          refine lv_aload_n hx hb dX9_count_92 rfl (lv_at hl 0 rfl) ?_
          refine r_gr E hw 0 4 17 (N := 11) (C := RX9) (T := TX9) (by decide) rfl rfl (by decide) rfl iw_9 rfl lf_RX9_32 dX9_count_93 ?_
          refine r_giN E hw 17 2 (N := 10) (C := RX3) (T := TX3) (by decide) rfl rfl (by decide) rfl iw_3 rfl lf_RX9_113 dX9_count_96 ?_
          have h := Option.some.inj h
          subst h
          rw [kr]
          exact r_ri E hw dX9_count_99
        · rw [if_neg c4] at h
          by_cases c5 : x1 = (4 : Int32)
          · rw [if_pos c5] at h
            refine lv_tableIn (tgt := 100) hx hb dX9_count_1 (by rw [c5]; decide) (by rw [c5]; decide) (by rw [c5]; rfl) (by decide) ?_
            refine lv_aload_n hx hb dX9_count_100 rfl (lv_at hl 0 rfl) ?_
            refine r_gr E hw 0 1 2 (N := 11) (C := RX9) (T := TX9) (by decide) rfl rfl (by decide) rfl iw_9 rfl lf_RX9_19 dX9_count_101 ?_
            refine r_giN E hw 2 10 (N := 13) (C := RX6) (T := TX6) (by decide) rfl rfl (by decide) rfl iw_6 rfl lf_RX9_352 dX9_count_104 ?_
            have h := Option.some.inj h
            subst h
            rw [kr]
            exact r_ri E hw dX9_count_107
          · rw [if_neg c5] at h
            by_cases c6 : x1 = (5 : Int32)
            · rw [if_pos c6] at h
              refine lv_tableIn (tgt := 108) hx hb dX9_count_1 (by rw [c6]; decide) (by rw [c6]; decide) (by rw [c6]; rfl) (by decide) ?_
              refine lv_aload_n hx hb dX9_count_108 rfl (lv_at hl 0 rfl) ?_
              refine r_gr E hw 0 1 2 (N := 11) (C := RX9) (T := TX9) (by decide) rfl rfl (by decide) rfl iw_9 rfl lf_RX9_19 dX9_count_109 ?_
              refine r_giN E hw 2 8 (N := 13) (C := RX6) (T := TX6) (by decide) rfl rfl (by decide) rfl iw_6 rfl lf_RX9_263 dX9_count_112 ?_
              have h := Option.some.inj h
              subst h
              rw [kr]
              exact r_ri E hw dX9_count_115
            · rw [if_neg c6] at h
              by_cases c7 : x1 = (6 : Int32)
              · rw [if_pos c7] at h
                refine lv_tableIn (tgt := 116) hx hb dX9_count_1 (by rw [c7]; decide) (by rw [c7]; decide) (by rw [c7]; rfl) (by decide) ?_
                refine lv_aload_n hx hb dX9_count_116 rfl (lv_at hl 0 rfl) ?_
                refine r_gr E hw 0 1 2 (N := 11) (C := RX9) (T := TX9) (by decide) rfl rfl (by decide) rfl iw_9 rfl lf_RX9_19 dX9_count_117 ?_
                refine r_giN E hw 2 9 (N := 13) (C := RX6) (T := TX6) (by decide) rfl rfl (by decide) rfl iw_6 rfl lf_RX9_355 dX9_count_120 ?_
                have h := Option.some.inj h
                subst h
                rw [kr]
                exact r_ri E hw dX9_count_123
              · rw [if_neg c7] at h
                by_cases c8 : x1 = (7 : Int32)
                · rw [if_pos c8] at h
                  refine lv_tableIn (tgt := 124) hx hb dX9_count_1 (by rw [c8]; decide) (by rw [c8]; decide) (by rw [c8]; rfl) (by decide) ?_
                  refine lv_aload_n hx hb dX9_count_124 rfl (lv_at hl 0 rfl) ?_
                  refine r_gr E hw 0 1 2 (N := 11) (C := RX9) (T := TX9) (by decide) rfl rfl (by decide) rfl iw_9 rfl lf_RX9_19 dX9_count_125 ?_
                  refine r_giN E hw 2 6 (N := 13) (C := RX6) (T := TX6) (by decide) rfl rfl (by decide) rfl iw_6 rfl lf_RX9_213 dX9_count_128 ?_
                  have h := Option.some.inj h
                  subst h
                  rw [kr]
                  exact r_ri E hw dX9_count_131
                · rw [if_neg c8] at h
                  by_cases c11 : x1 = (8 : Int32)
                  · rw [if_pos c11] at h
                    refine lv_tableIn (tgt := 132) hx hb dX9_count_1 (by rw [c11]; decide) (by rw [c11]; decide) (by rw [c11]; rfl) (by decide) ?_
                    refine lv_aload_n hx hb dX9_count_132 rfl (lv_at hl 0 rfl) ?_
                    refine r_gr E hw 0 1 2 (N := 11) (C := RX9) (T := TX9) (by decide) rfl rfl (by decide) rfl iw_9 rfl lf_RX9_19 dX9_count_133 ?_
                    refine lv_bipush (v := (6 : Int32)) hx hb dX9_count_136 (by decide) ?_
                    obtain ⟨y10, h9, h⟩ := ob_R_some h
                    refine c_VI E hw (kX6_total (l := l) (G := G) hB ⟨by decide, by decide⟩ h9) yy_X6_total lm_RX9_358 rfl (by decide) rfl rfl hl.1 (by decide) (by decide) rfl (Nat.le_of_ble_eq_true rfl) dX9_count_138 (fun H locs hw => ?_)
                    have h := Option.some.inj h
                    subst h
                    rw [kr]
                    exact r_ri E hw dX9_count_141
                  · rw [if_neg c11] at h
                    by_cases c14 : x1 = (9 : Int32)
                    · rw [if_pos c14] at h
                      refine lv_tableIn (tgt := 142) hx hb dX9_count_1 (by rw [c14]; decide) (by rw [c14]; decide) (by rw [c14]; rfl) (by decide) ?_
                      refine lv_aload_n hx hb dX9_count_142 rfl (lv_at hl 0 rfl) ?_
                      refine r_gr E hw 0 1 2 (N := 11) (C := RX9) (T := TX9) (by decide) rfl rfl (by decide) rfl iw_9 rfl lf_RX9_19 dX9_count_143 ?_
                      refine lv_iconst (v := (5 : Int32)) hx hb dX9_count_146 (by decide) ?_
                      obtain ⟨y13, h12, h⟩ := ob_R_some h
                      refine c_VI E hw (kX6_total (l := l) (G := G) hB ⟨by decide, by decide⟩ h12) yy_X6_total lm_RX9_358 rfl (by decide) rfl rfl hl.1 (by decide) (by decide) rfl (Nat.le_of_ble_eq_true rfl) dX9_count_147 (fun H locs hw => ?_)
                      have h := Option.some.inj h
                      subst h
                      rw [kr]
                      exact r_ri E hw dX9_count_150
                    · rw [if_neg c14] at h
                      by_cases c15 : x1 = (10 : Int32)
                      · rw [if_pos c15] at h
                        refine lv_tableIn (tgt := 151) hx hb dX9_count_1 (by rw [c15]; decide) (by rw [c15]; decide) (by rw [c15]; rfl) (by decide) ?_
                        refine lv_aload_n hx hb dX9_count_151 rfl (lv_at hl 0 rfl) ?_
                        refine r_gr E hw 0 1 2 (N := 11) (C := RX9) (T := TX9) (by decide) rfl rfl (by decide) rfl iw_9 rfl lf_RX9_19 dX9_count_152 ?_
                        refine r_giN E hw 2 12 (N := 13) (C := RX6) (T := TX6) (by decide) rfl rfl (by decide) rfl iw_6 rfl lf_RX9_233 dX9_count_155 ?_
                        have h := Option.some.inj h
                        subst h
                        rw [kr]
                        exact r_ri E hw dX9_count_158
                      · rw [if_neg c15] at h
                        by_cases c18 : x1 = (11 : Int32)
                        · rw [if_pos c18] at h
                          refine lv_tableIn (tgt := 159) hx hb dX9_count_1 (by rw [c18]; decide) (by rw [c18]; decide) (by rw [c18]; rfl) (by decide) ?_
                          refine lv_aload_n hx hb dX9_count_159 rfl (lv_at hl 0 rfl) ?_
                          refine r_gr E hw 0 1 2 (N := 11) (C := RX9) (T := TX9) (by decide) rfl rfl (by decide) rfl iw_9 rfl lf_RX9_19 dX9_count_160 ?_
                          obtain ⟨y17, h16, h⟩ := ob_R_some h
                          refine c_VI E hw (kX6_logSize (l := l) (G := G) hB ⟨by decide, by decide⟩ h16) yy_X6_logSize lm_RX9_361 rfl (by decide) rfl rfl hl.1 (by decide) (by decide) rfl (Nat.le_of_ble_eq_true rfl) dX9_count_163 (fun H locs hw => ?_)
                          have h := Option.some.inj h
                          subst h
                          rw [kr]
                          exact r_ri E hw dX9_count_166
                        · rw [if_neg c18] at h
                          by_cases c19 : x1 = (12 : Int32)
                          · rw [if_pos c19] at h
                            refine lv_tableIn (tgt := 167) hx hb dX9_count_1 (by rw [c19]; decide) (by rw [c19]; decide) (by rw [c19]; rfl) (by decide) ?_
                            refine lv_aload_n hx hb dX9_count_167 rfl (lv_at hl 0 rfl) ?_
                            refine r_gr E hw 0 7 20 (N := 11) (C := RX9) (T := TX9) (by decide) rfl rfl (by decide) rfl iw_9 rfl lf_RX9_45 dX9_count_168 ?_
                            refine r_giN E hw 20 2 (N := 3) (C := RX0) (T := TX0) (by decide) rfl rfl (by decide) rfl iw_0 rfl lf_RX9_364 dX9_count_171 ?_
                            have h := Option.some.inj h
                            subst h
                            rw [kr]
                            exact r_ri E hw dX9_count_174
                          · rw [if_neg c19] at h
                            have nc1 := lv_neT (a := 0) c1 (by decide)
                            have nc2 := lv_neT (a := 1) c2 (by decide)
                            have nc3 := lv_neT (a := 2) c3 (by decide)
                            have nc4 := lv_neT (a := 3) c4 (by decide)
                            have nc5 := lv_neT (a := 4) c5 (by decide)
                            have nc6 := lv_neT (a := 5) c6 (by decide)
                            have nc7 := lv_neT (a := 6) c7 (by decide)
                            have nc8 := lv_neT (a := 7) c8 (by decide)
                            have nc11 := lv_neT (a := 8) c11 (by decide)
                            have nc14 := lv_neT (a := 9) c14 (by decide)
                            have nc15 := lv_neT (a := 10) c15 (by decide)
                            have nc18 := lv_neT (a := 11) c18 (by decide)
                            have nc19 := lv_neT (a := 12) c19 (by decide)
                            refine lv_tableOut (tgt := 175) hx hb dX9_count_1 (by omega) (by decide) ?_
                            refine lv_iconst (v := (-1 : Int32)) hx hb dX9_count_175 (by decide) ?_
                            have h := Option.some.inj h
                            subst h
                            rw [kr]
                            exact r_ri E hw dX9_count_176
