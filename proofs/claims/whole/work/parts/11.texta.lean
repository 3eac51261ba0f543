/-! ===== AllSawIt$StreetText.readMists(LAllSawIt$Tape;LAllSawIt$State;)Z ===== -/
theorem dX7_readMists_0 : decode cX7_readMists 0 = .ok (.aload_n 0, 1) := by decide +kernel
theorem dX7_readMists_1 : decode cX7_readMists 1 = .ok (.iconst 0, 1) := by decide +kernel
theorem dX7_readMists_2 : decode cX7_readMists 2 = .ok (.bipush 9, 2) := by decide +kernel
theorem dX7_readMists_4 : decode cX7_readMists 4 = .ok (.invokevirtual 86, 3) := by decide +kernel
theorem dX7_readMists_7 : decode cX7_readMists 7 = .ok (.ifCond .ne 5, 3) := by decide +kernel
theorem dX7_readMists_10 : decode cX7_readMists 10 = .ok (.iconst 0, 1) := by decide +kernel
theorem dX7_readMists_11 : decode cX7_readMists 11 = .ok (.ireturn, 1) := by decide +kernel
theorem dX7_readMists_12 : decode cX7_readMists 12 = .ok (.aload_n 1, 1) := by decide +kernel
theorem dX7_readMists_13 : decode cX7_readMists 13 = .ok (.aload_n 0, 1) := by decide +kernel
theorem dX7_readMists_14 : decode cX7_readMists 14 = .ok (.getfield 90, 3) := by decide +kernel
theorem dX7_readMists_17 : decode cX7_readMists 17 = .ok (.putfield 107, 3) := by decide +kernel
theorem dX7_readMists_20 : decode cX7_readMists 20 = .ok (.aload_n 0, 1) := by decide +kernel
theorem dX7_readMists_21 : decode cX7_readMists 21 = .ok (.invokevirtual 93, 3) := by decide +kernel
theorem dX7_readMists_24 : decode cX7_readMists 24 = .ok (.iconst 1, 1) := by decide +kernel
theorem dX7_readMists_25 : decode cX7_readMists 25 = .ok (.ireturn, 1) := by decide +kernel
noncomputable def fX7_readMists (V : VT) (i : Nat) : Option (Int32 × VT) := ob_R (fX8_isNumber V (0 : Int32) (9 : Int32)) fun y2 => if y2 = 0 then (zo_ (0 : Int32) (some ((0 : Int32), V))) else (lt_ (va_up V i (upd (V i) 9 (V 1 5))) fun V3 => ob_R (fX8_step V3 ) fun V5 => zo_ (1 : Int32) (some ((1 : Int32), V5)))
set_option maxHeartbeats 4000000 in
set_option maxRecDepth 100000 in
theorem kX7_readMists {l : Launch} {G : GT} {B : BGt} (hB : BGok B) {V : VT} {i : Nat} (hs_i : isSt i) {r : (Int32 × VT)} (h : fX7_readMists V i = some r) : CI l G B yX7_readMists (.code yX7_readMists cX7_readMists 2 (some .boolean)) 4 [.ref (G.2.2 1), .ref (G.2.2 i)] V r.1 r.2 := by
  intro sz
  refine met_of (Qs := fun sz => QI G sz (r.1) (r.2)) hB (by decide) (Nat.le_of_ble_eq_true rfl) ?_ sz
  intro p e s m args below meth c ls E hw hl
  have hx := en_x E
  have hb := en_b E
  generalize hQ : MQ _ _ _ _ _ _ _ = Q
  have kr : Q = MQ below (QI G s.heap.size r.1 r.2) args s 0 0 (gA G s.heap.size) := hQ.symm
  have hl : lv_has ls 2 [(0, .ref (G.2.2 1)), (1, .ref (G.2.2 i))] := hl
  obtain ⟨H, eH⟩ : ∃ H, H = s.heap := ⟨_, rfl⟩
  obtain ⟨locs, elocs⟩ : ∃ z : List Loc, z = [] := ⟨_, rfl⟩
  have hw : HW G s.heap V H locs := by rw [eH, elocs]; exact hw
  show W p l e _ s m args below meth c s.heap [] 0 0 Q (F0 m 0 ls [])
  rw [← eH, ← elocs]
  unfold fX7_readMists at h
  refine lv_aload_n hx hb dX7_readMists_0 rfl (lv_at hl 0 rfl) ?_
  refine lv_iconst (v := (0 : Int32)) hx hb dX7_readMists_1 (by decide) ?_
  refine lv_bipush (v := (9 : Int32)) hx hb dX7_readMists_2 (by decide) ?_
  obtain ⟨y2, h1, h⟩ := ob_R_some h
  refine c_VI E hw (kX8_isNumber (l := l) (G := G) hB  h1) yy_X8_isNumber lm_RX7_86 rfl (by decide) rfl rfl hl.1 (by decide) (by decide) rfl (Nat.le_of_ble_eq_true rfl) dX7_readMists_4 (fun H locs hw => ?_)
  refine lv_if_ne (tgt := 12) hx hb dX7_readMists_7 (by decide) (fun c8 => ?_) (fun c8 => ?_)
  · rw [if_neg c8] at h
    refine lv_aload_n hx hb dX7_readMists_12 rfl (lv_at hl 1 rfl) ?_
    refine lv_aload_n hx hb dX7_readMists_13 rfl (lv_at hl 0 rfl) ?_
    refine r_giN E hw 1 5 (N := 6) (C := RX8) (T := TX8) (by decide) rfl rfl (by decide) rfl iw_8 rfl lf_RX7_90 dX7_readMists_14 ?_
    obtain ⟨V3, eV3, h⟩ := lt_some h
    refine r_piN E hw i 9 (N := 13) (C := RX6) (T := TX6) (ty0 := tyX6) (ty := .int) (st_lt hs_i) (st_c hs_i) (st_N hs_i) (by decide) (st_n hs_i (k := 9) (by decide)) iw_6 rfl tyX6_ok nmX6 rfl rfl (vp_nar_int _) rfl lf_RX7_107 eV3 dX7_readMists_17 (fun H locs hw => ?_)
    refine lv_aload_n hx hb dX7_readMists_20 rfl (lv_at hl 0 rfl) ?_
    obtain ⟨V5, h4, h⟩ := ob_R_some h
    refine c_VV E hw (kX8_step (l := l) (G := G) hB  h4) yy_X8_step lm_RX7_93 rfl (by decide) rfl rfl hl.1 (by decide) (by decide) rfl (Nat.le_of_ble_eq_true rfl) dX7_readMists_21 (fun H locs hw => ?_)
    refine lv_iconst (v := (1 : Int32)) hx hb dX7_readMists_24 (by decide) ?_
    obtain ⟨z6, h⟩ := zo_some h
    have h := Option.some.inj h
    subst h
    rw [kr]
    exact r_rz E hw z6 dX7_readMists_25
  · rw [if_pos c8] at h
    refine lv_iconst (v := (0 : Int32)) hx hb dX7_readMists_10 (by decide) ?_
    obtain ⟨z7, h⟩ := zo_some h
    have h := Option.some.inj h
    subst h
    rw [kr]
    exact r_rz E hw z7 dX7_readMists_11
/-! ===== AllSawIt$StreetText.readAway(LAllSawIt$Tape;LAllSawIt$State;)Z ===== -/
theorem dX7_readAway_0 : decode cX7_readAway 0 = .ok (.aload_n 0, 1) := by decide +kernel
theorem dX7_readAway_1 : decode cX7_readAway 1 = .ok (.iconst 0, 1) := by decide +kernel
theorem dX7_readAway_2 : decode cX7_readAway 2 = .ok (.aload_n 1, 1) := by decide +kernel
theorem dX7_readAway_3 : decode cX7_readAway 3 = .ok (.getfield 34, 3) := by decide +kernel
theorem dX7_readAway_6 : decode cX7_readAway 6 = .ok (.iconst 1, 1) := by decide +kernel
theorem dX7_readAway_7 : decode cX7_readAway 7 = .ok (.isub, 1) := by decide +kernel
theorem dX7_readAway_8 : decode cX7_readAway 8 = .ok (.invokevirtual 86, 3) := by decide +kernel
theorem dX7_readAway_11 : decode cX7_readAway 11 = .ok (.ifCond .ne 5, 3) := by decide +kernel
theorem dX7_readAway_14 : decode cX7_readAway 14 = .ok (.iconst 0, 1) := by decide +kernel
theorem dX7_readAway_15 : decode cX7_readAway 15 = .ok (.ireturn, 1) := by decide +kernel
theorem dX7_readAway_16 : decode cX7_readAway 16 = .ok (.aload_n 1, 1) := by decide +kernel
theorem dX7_readAway_17 : decode cX7_readAway 17 = .ok (.dup, 1) := by decide +kernel
theorem dX7_readAway_18 : decode cX7_readAway 18 = .ok (.getfield 109, 3) := by decide +kernel
theorem dX7_readAway_21 : decode cX7_readAway 21 = .ok (.iconst 1, 1) := by decide +kernel
theorem dX7_readAway_22 : decode cX7_readAway 22 = .ok (.aload_n 0, 1) := by decide +kernel
theorem dX7_readAway_23 : decode cX7_readAway 23 = .ok (.getfield 90, 3) := by decide +kernel
theorem dX7_readAway_26 : decode cX7_readAway 26 = .ok (.ishl, 1) := by decide +kernel
theorem dX7_readAway_27 : decode cX7_readAway 27 = .ok (.ior, 1) := by decide +kernel
theorem dX7_readAway_28 : decode cX7_readAway 28 = .ok (.putfield 109, 3) := by decide +kernel
theorem dX7_readAway_31 : decode cX7_readAway 31 = .ok (.aload_n 0, 1) := by decide +kernel
theorem dX7_readAway_32 : decode cX7_readAway 32 = .ok (.invokevirtual 93, 3) := by decide +kernel
theorem dX7_readAway_35 : decode cX7_readAway 35 = .ok (.iconst 1, 1) := by decide +kernel
theorem dX7_readAway_36 : decode cX7_readAway 36 = .ok (.ireturn, 1) := by decide +kernel
noncomputable def fX7_readAway (V : VT) (i : Nat) : Option (Int32 × VT) := ob_R (fX8_isNumber V (0 : Int32) ((V i 3) - (1 : Int32))) fun y2 => if y2 = 0 then (zo_ (0 : Int32) (some ((0 : Int32), V))) else (lt_ (va_up V i (upd (V i) 6 ((V i 6) ||| ((1 : Int32) <<< ((V 1 5) &&& 31))))) fun V3 => ob_R (fX8_step V3 ) fun V5 => zo_ (1 : Int32) (some ((1 : Int32), V5)))
set_option maxHeartbeats 4000000 in
set_option maxRecDepth 100000 in
theorem kX7_readAway {l : Launch} {G : GT} {B : BGt} (hB : BGok B) {V : VT} {i : Nat} (hs_i : isSt i) {r : (Int32 × VT)} (h : fX7_readAway V i = some r) : CI l G B yX7_readAway (.code yX7_readAway cX7_readAway 2 (some .boolean)) 4 [.ref (G.2.2 1), .ref (G.2.2 i)] V r.1 r.2 := by
  intro sz
  refine met_of (Qs := fun sz => QI G sz (r.1) (r.2)) hB (by decide) (Nat.le_of_ble_eq_true rfl) ?_ sz
  intro p e s m args below meth c ls E hw hl
  have hx := en_x E
  have hb := en_b E
  generalize hQ : MQ _ _ _ _ _ _ _ = Q
  have kr : Q = MQ below (QI G s.heap.size r.1 r.2) args s 0 0 (gA G s.heap.size) := hQ.symm
  have hl : lv_has ls 2 [(0, .ref (G.2.2 1)), (1, .ref (G.2.2 i))] := hl
  obtain ⟨H, eH⟩ : ∃ H, H = s.heap := ⟨_, rfl⟩
  obtain ⟨locs, elocs⟩ : ∃ z : List Loc, z = [] := ⟨_, rfl⟩
  have hw : HW G s.heap V H locs := by rw [eH, elocs]; exact hw
  show W p l e _ s m args below meth c s.heap [] 0 0 Q (F0 m 0 ls [])
  rw [← eH, ← elocs]
  unfold fX7_readAway at h
  refine lv_aload_n hx hb dX7_readAway_0 rfl (lv_at hl 0 rfl) ?_
  refine lv_iconst (v := (0 : Int32)) hx hb dX7_readAway_1 (by decide) ?_
  refine lv_aload_n hx hb dX7_readAway_2 rfl (lv_at hl 1 rfl) ?_
  refine r_giN E hw i 3 (N := 13) (C := RX6) (T := TX6) (st_lt hs_i) (st_c hs_i) (st_N hs_i) (by decide) (st_n hs_i (k := 3) (by decide)) iw_6 rfl lf_RX7_34 dX7_readAway_3 ?_
  refine lv_iconst (v := (1 : Int32)) hx hb dX7_readAway_6 (by decide) ?_
  refine lv_isub hx hb dX7_readAway_7 ?_
  obtain ⟨y2, h1, h⟩ := ob_R_some h
  refine c_VI E hw (kX8_isNumber (l := l) (G := G) hB  h1) yy_X8_isNumber lm_RX7_86 rfl (by decide) rfl rfl hl.1 (by decide) (by decide) rfl (Nat.le_of_ble_eq_true rfl) dX7_readAway_8 (fun H locs hw => ?_)
  refine lv_if_ne (tgt := 16) hx hb dX7_readAway_11 (by decide) (fun c8 => ?_) (fun c8 => ?_)
  · rw [if_neg c8] at h
    refine lv_aload_n hx hb dX7_readAway_16 rfl (lv_at hl 1 rfl) ?_
    refine lv_dup hx hb dX7_readAway_17 rfl ?_
    refine r_giN E hw i 6 (N := 13) (C := RX6) (T := TX6) (st_lt hs_i) (st_c hs_i) (st_N hs_i) (by decide) (st_n hs_i (k := 6) (by decide)) iw_6 rfl lf_RX7_109 dX7_readAway_18 ?_
    refine lv_iconst (v := (1 : Int32)) hx hb dX7_readAway_21 (by decide) ?_
    refine lv_aload_n hx hb dX7_readAway_22 rfl (lv_at hl 0 rfl) ?_
    refine r_giN E hw 1 5 (N := 6) (C := RX8) (T := TX8) (by decide) rfl rfl (by decide) rfl iw_8 rfl lf_RX7_90 dX7_readAway_23 ?_
    refine lv_ishl hx hb dX7_readAway_26 ?_
    refine lv_ior hx hb dX7_readAway_27 ?_
    obtain ⟨V3, eV3, h⟩ := lt_some h
    refine r_piN E hw i 6 (N := 13) (C := RX6) (T := TX6) (ty0 := tyX6) (ty := .int) (st_lt hs_i) (st_c hs_i) (st_N hs_i) (by decide) (st_n hs_i (k := 6) (by decide)) iw_6 rfl tyX6_ok nmX6 rfl rfl (vp_nar_int _) rfl lf_RX7_109 eV3 dX7_readAway_28 (fun H locs hw => ?_)
    refine lv_aload_n hx hb dX7_readAway_31 rfl (lv_at hl 0 rfl) ?_
    obtain ⟨V5, h4, h⟩ := ob_R_some h
    refine c_VV E hw (kX8_step (l := l) (G := G) hB  h4) yy_X8_step lm_RX7_93 rfl (by decide) rfl rfl hl.1 (by decide) (by decide) rfl (Nat.le_of_ble_eq_true rfl) dX7_readAway_32 (fun H locs hw => ?_)
    refine lv_iconst (v := (1 : Int32)) hx hb dX7_readAway_35 (by decide) ?_
    obtain ⟨z6, h⟩ := zo_some h
    have h := Option.some.inj h
    subst h
    rw [kr]
    exact r_rz E hw z6 dX7_readAway_36
  · rw [if_pos c8] at h
    refine lv_iconst (v := (0 : Int32)) hx hb dX7_readAway_14 (by decide) ?_
    obtain ⟨z7, h⟩ := zo_some h
    have h := Option.some.inj h
    subst h
    rw [kr]
    exact r_rz E hw z7 dX7_readAway_15
/-! ===== AllSawIt$Tape.isWord(Ljava/lang/String;)Z ===== -/
theorem dX8_isWord_0 : decode cX8_isWord 0 = .ok (.aload_n 0, 1) := by decide +kernel
theorem dX8_isWord_1 : decode cX8_isWord 1 = .ok (.getfield 19, 3) := by decide +kernel
theorem dX8_isWord_4 : decode cX8_isWord 4 = .ok (.iconst 1, 1) := by decide +kernel
theorem dX8_isWord_5 : decode cX8_isWord 5 = .ok (.if_icmp .ne 19, 3) := by decide +kernel
theorem dX8_isWord_8 : decode cX8_isWord 8 = .ok (.aload_n 0, 1) := by decide +kernel
theorem dX8_isWord_9 : decode cX8_isWord 9 = .ok (.getfield 25, 3) := by decide +kernel
theorem dX8_isWord_12 : decode cX8_isWord 12 = .ok (.aload_n 0, 1) := by decide +kernel
theorem dX8_isWord_13 : decode cX8_isWord 13 = .ok (.getfield 22, 3) := by decide +kernel
theorem dX8_isWord_16 : decode cX8_isWord 16 = .ok (.isub, 1) := by decide +kernel
theorem dX8_isWord_17 : decode cX8_isWord 17 = .ok (.aload_n 1, 1) := by decide +kernel
theorem dX8_isWord_18 : decode cX8_isWord 18 = .ok (.invokevirtual 51, 3) := by decide +kernel
theorem dX8_isWord_21 : decode cX8_isWord 21 = .ok (.if_icmp .eq 5, 3) := by decide +kernel
theorem dX8_isWord_24 : decode cX8_isWord 24 = .ok (.iconst 0, 1) := by decide +kernel
theorem dX8_isWord_25 : decode cX8_isWord 25 = .ok (.ireturn, 1) := by decide +kernel
theorem dX8_isWord_26 : decode cX8_isWord 26 = .ok (.iconst 0, 1) := by decide +kernel
theorem dX8_isWord_27 : decode cX8_isWord 27 = .ok (.istore_n 2, 1) := by decide +kernel
theorem dX8_isWord_28 : decode cX8_isWord 28 = .ok (.iload_n 2, 1) := by decide +kernel
theorem dX8_isWord_29 : decode cX8_isWord 29 = .ok (.aload_n 1, 1) := by decide +kernel
theorem dX8_isWord_30 : decode cX8_isWord 30 = .ok (.invokevirtual 51, 3) := by decide +kernel
theorem dX8_isWord_33 : decode cX8_isWord 33 = .ok (.if_icmp .ge 45, 3) := by decide +kernel
theorem dX8_isWord_36 : decode cX8_isWord 36 = .ok (.aload_n 0, 1) := by decide +kernel
theorem dX8_isWord_37 : decode cX8_isWord 37 = .ok (.getfield 22, 3) := by decide +kernel
theorem dX8_isWord_40 : decode cX8_isWord 40 = .ok (.iload_n 2, 1) := by decide +kernel
theorem dX8_isWord_41 : decode cX8_isWord 41 = .ok (.iadd, 1) := by decide +kernel
theorem dX8_isWord_42 : decode cX8_isWord 42 = .ok (.istore_n 3, 1) := by decide +kernel
theorem dX8_isWord_43 : decode cX8_isWord 43 = .ok (.iload_n 3, 1) := by decide +kernel
theorem dX8_isWord_44 : decode cX8_isWord 44 = .ok (.ifCond .lt 26, 3) := by decide +kernel
theorem dX8_isWord_47 : decode cX8_isWord 47 = .ok (.iload_n 3, 1) := by decide +kernel
theorem dX8_isWord_48 : decode cX8_isWord 48 = .ok (.aload_n 0, 1) := by decide +kernel
theorem dX8_isWord_49 : decode cX8_isWord 49 = .ok (.getfield 9, 3) := by decide +kernel
theorem dX8_isWord_52 : decode cX8_isWord 52 = .ok (.arraylength, 1) := by decide +kernel
theorem dX8_isWord_53 : decode cX8_isWord 53 = .ok (.if_icmp .ge 17, 3) := by decide +kernel
theorem dX8_isWord_56 : decode cX8_isWord 56 = .ok (.aload_n 0, 1) := by decide +kernel
theorem dX8_isWord_57 : decode cX8_isWord 57 = .ok (.getfield 9, 3) := by decide +kernel
theorem dX8_isWord_60 : decode cX8_isWord 60 = .ok (.iload_n 3, 1) := by decide +kernel
theorem dX8_isWord_61 : decode cX8_isWord 61 = .ok (.baload, 1) := by decide +kernel
theorem dX8_isWord_62 : decode cX8_isWord 62 = .ok (.aload_n 1, 1) := by decide +kernel
theorem dX8_isWord_63 : decode cX8_isWord 63 = .ok (.iload_n 2, 1) := by decide +kernel
theorem dX8_isWord_64 : decode cX8_isWord 64 = .ok (.invokevirtual 56, 3) := by decide +kernel
theorem dX8_isWord_67 : decode cX8_isWord 67 = .ok (.if_icmp .eq 5, 3) := by decide +kernel
theorem dX8_isWord_70 : decode cX8_isWord 70 = .ok (.iconst 0, 1) := by decide +kernel
theorem dX8_isWord_71 : decode cX8_isWord 71 = .ok (.ireturn, 1) := by decide +kernel
theorem dX8_isWord_72 : decode cX8_isWord 72 = .ok (.iinc 2 1, 3) := by decide +kernel
theorem dX8_isWord_75 : decode cX8_isWord 75 = .ok (.goto (-47), 3) := by decide +kernel
theorem dX8_isWord_78 : decode cX8_isWord 78 = .ok (.iconst 1, 1) := by decide +kernel
theorem dX8_isWord_79 : decode cX8_isWord 79 = .ok (.ireturn, 1) := by decide +kernel
noncomputable def fX8_isWord_L28 (V : VT) (w1 : Nat) (u2 : Int32) : Option (Int32 ⊕ Int32) := if (nI (sL w1)) ≤ u2 then (zo_ (1 : Int32) (some (.inr ((1 : Int32))))) else (lt_ ((V 1 3) + u2) fun y3 => if y3 < 0 then (zo_ (0 : Int32) (some (.inr ((0 : Int32))))) else (if (nI 400) ≤ y3 then (zo_ (0 : Int32) (some (.inr ((0 : Int32))))) else (rd_ y3 400 (rd_ u2 (sL w1) (if (V 23 y3.toNatClampNeg) = (sH w1 u2) then (lt_ (u2 + (1 : Int32)) fun y8 => some (.inl y8)) else (zo_ (0 : Int32) (some (.inr ((0 : Int32))))))))))
noncomputable def iX8_isWord_L28 (V : VT) (w1 : Nat) : Int32 → Option (Int32 ⊕ Int32) := fun q => fX8_isWord_L28 V w1 (q)
noncomputable def fX8_isWord (V : VT) (w1 : Nat) : Option Int32 := if (V 1 2) = (1 : Int32) then (if ((V 1 4) - (V 1 3)) = (nI (sL w1)) then (ob_R (it_ (iX8_isWord_L28 V w1) FV (0 : Int32)) fun x15 => some x15) else (zo_ (0 : Int32) (some (0 : Int32)))) else (zo_ (0 : Int32) (some (0 : Int32)))
set_option maxHeartbeats 4000000 in
set_option maxRecDepth 100000 in
theorem wX8_isWord_L28 {p : Program} {l : Launch} {e : Env} {s : State} {m : MethodId} {args : Array Value} {below : List Frame} {meth : Method} {c : Code} {G : GT} {Z : Nat → Nat × Nat} {Q : State → Prop} (E : En p s m args c meth cX8_isWord 4 RX8 (some .boolean) G (SG Z)) {w1 : Nat} (hs_w1 : w1 < 65) {V : VT} {x : Int32} (kr : ∀ q : Int32, x = q → Q = MQ below (QI G s.heap.size q V) args s 0 0 (gA G s.heap.size)) : ∀ (n : Nat) (q : Int32), it_ (iX8_isWord_L28 V w1) n q = some x → ∀ (H : Heap) (locs : List Loc) (ls : Array Slot), HW G s.heap V H locs → lv_has ls 4 [(0, .ref (G.2.2 1)), (1, .ref (Z w1).1), (2, .int q)] → W p l e (rmD 5) s m args below meth c H locs 0 0 Q (F0 m 28 ls []) := by
  have hx := en_x E
  have hb := en_b E
  have hB := en_B E
  refine it_W (fun q : Int32 => ∀ (H : Heap) (locs : List Loc) (ls : Array Slot), HW G s.heap V H locs → lv_has ls 4 [(0, .ref (G.2.2 1)), (1, .ref (Z w1).1), (2, .int q)] → W p l e (rmD 5) s m args below meth c H locs 0 0 Q (F0 m 28 ls [])) x ?_
  intro q r h kc kx
  obtain ⟨u2, rfl⟩ : ∃ z, z = q := ⟨_, rfl⟩
  intro H locs ls hw hl
  have h : fX8_isWord_L28 V w1 u2 = some r := h
  have hw : HW G s.heap V H locs := hw
  have hl : lv_has ls 4 [(0, .ref (G.2.2 1)), (1, .ref (Z w1).1), (2, .int u2)] := hl
  have kr : ∀ q : Int32, r = .inr (q) → Q = MQ below (QI G s.heap.size q V) args s 0 0 (gA G s.heap.size) := fun q e => kr q (kx _ e).symm
  unfold fX8_isWord_L28 at h
  refine lv_iload_n hx hb dX8_isWord_28 rfl (lv_at hl 2 rfl) ?_
  refine lv_aload_n hx hb dX8_isWord_29 rfl (lv_at hl 1 rfl) ?_
  refine c_TI E hw (kJ0_length_8abf5 (l := l) (G := G) hs_w1) yy_J0_length_8abf5 lm_RX8_51 rfl hs_w1 rfl hl.1 (by decide) (by decide) rfl (Nat.le_of_ble_eq_true rfl) dX8_isWord_30 (fun H locs hw => ?_)
  refine lv_icmp_ge (tgt := 78) hx hb dX8_isWord_33 (by decide) (fun c13 => ?_) (fun c13 => ?_)
  · rw [if_pos c13] at h
    refine lv_iconst (v := (1 : Int32)) hx hb dX8_isWord_78 (by decide) ?_
    obtain ⟨z2, h⟩ := zo_some h
    rw [kr (1 : Int32) (Option.some.inj h).symm]
    exact r_rz E hw z2 dX8_isWord_79
  · rw [if_neg c13] at h
    refine lv_aload_n hx hb dX8_isWord_36 rfl (lv_at hl 0 rfl) ?_
    refine r_gi E hw 1 3 (N := 6) (C := RX8) (T := TX8) (by decide) rfl rfl (by decide) rfl iw_8 rfl lf_RX8_22 dX8_isWord_37 ?_
    refine lv_iload_n hx hb dX8_isWord_40 rfl (lv_at hl 2 rfl) ?_
    refine lv_iadd hx hb dX8_isWord_41 ?_
    obtain ⟨y3, ey3, h⟩ := lt_some h
    refine lv_eqi ey3 ?_
    refine lv_istore_n (lv' := [(3, .int y3), (0, .ref (G.2.2 1)), (1, .ref (Z w1).1), (2, .int u2)]) hx hb dX8_isWord_42 rfl hl (by decide) rfl (fun ls hl => ?_)
    refine lv_iload_n hx hb dX8_isWord_43 rfl (lv_at hl 0 rfl) ?_
    refine lv_if_lt (tgt := 70) hx hb dX8_isWord_44 (by decide) (fun c12 => ?_) (fun c12 => ?_)
    · rw [if_pos c12] at h
      refine lv_iconst (v := (0 : Int32)) hx hb dX8_isWord_70 (by decide) ?_
      obtain ⟨z4, h⟩ := zo_some h
      rw [kr (0 : Int32) (Option.some.inj h).symm]
      exact r_rz E hw z4 dX8_isWord_71
    · rw [if_neg c12] at h
      refine lv_iload_n hx hb dX8_isWord_47 rfl (lv_at hl 0 rfl) ?_
      refine lv_aload_n hx hb dX8_isWord_48 rfl (lv_at hl 1 rfl) ?_
      refine r_gr E hw 1 0 23 (N := 6) (C := RX8) (T := TX8) (by decide) rfl rfl (by decide) rfl iw_8 rfl lf_RX8_9 dX8_isWord_49 ?_
      refine r_al E hw 23 400 (by decide) (by decide) (by decide) rfl dX8_isWord_52 ?_
      refine lv_icmp_ge (tgt := 70) hx hb dX8_isWord_53 (by decide) (fun c11 => ?_) (fun c11 => ?_)
      · rw [if_pos c11] at h
        refine lv_iconst (v := (0 : Int32)) hx hb dX8_isWord_70 (by decide) ?_
        obtain ⟨z5, h⟩ := zo_some h
        rw [kr (0 : Int32) (Option.some.inj h).symm]
        exact r_rz E hw z5 dX8_isWord_71
      · rw [if_neg c11] at h
        refine lv_aload_n hx hb dX8_isWord_56 rfl (lv_at hl 1 rfl) ?_
        refine r_gr E hw 1 0 23 (N := 6) (C := RX8) (T := TX8) (by decide) rfl rfl (by decide) rfl iw_8 rfl lf_RX8_9 dX8_isWord_57 ?_
        refine lv_iload_n hx hb dX8_isWord_60 rfl (lv_at hl 0 rfl) ?_
        obtain ⟨b6, h⟩ := rd_some h
        refine r_ba E hw 23 400 (by decide) (by decide) (by decide) rfl rfl b6 dX8_isWord_61 ?_
        refine lv_aload_n hx hb dX8_isWord_62 rfl (lv_at hl 2 rfl) ?_
        refine lv_iload_n hx hb dX8_isWord_63 rfl (lv_at hl 3 rfl) ?_
        obtain ⟨b7, h⟩ := rd_some h
        refine c_TI (r := sH w1 u2) E hw (kJ0_charAt_5068e (l := l) (G := G) hs_w1 b7 (sL_in hs_w1 b7)) yy_J0_charAt_5068e lm_RX8_56 rfl hs_w1 rfl hl.1 (by decide) (by decide) rfl (Nat.le_of_ble_eq_true rfl) dX8_isWord_64 (fun H locs hw => ?_)
        refine lv_icmp_eq (tgt := 72) hx hb dX8_isWord_67 (by decide) (fun c10 => ?_) (fun c10 => ?_)
        · rw [if_pos c10] at h
          obtain ⟨y8, ey8, h⟩ := lt_some h
          refine lv_iinc (v := y8) (lv' := [(2, .int y8), (3, .int y3), (0, .ref (G.2.2 1)), (1, .ref (Z w1).1)]) hx hb dX8_isWord_72 hl (k := 3) rfl (by rw [ey8]; rfl) (by decide) rfl (fun ls hl => ?_)
          refine lv_goto (tgt := 28) hx hb dX8_isWord_75 (by decide) ?_
          exact kc y8 (Option.some.inj h).symm H locs ls hw (lv_sub hl [2, 3, 0] rfl)
        · rw [if_neg c10] at h
          refine lv_iconst (v := (0 : Int32)) hx hb dX8_isWord_70 (by decide) ?_
          obtain ⟨z9, h⟩ := zo_some h
          rw [kr (0 : Int32) (Option.some.inj h).symm]
          exact r_rz E hw z9 dX8_isWord_71
set_option maxHeartbeats 4000000 in
set_option maxRecDepth 100000 in
theorem kX8_isWord {l : Launch} {G : GT} {Z : Nat → Nat × Nat} {V : VT} {w1 : Nat} (hs_w1 : w1 < 65) {r : Int32} (h : fX8_isWord V w1 = some r) : CI l G (SG Z) yX8_isWord (.code yX8_isWord cX8_isWord 4 (some .boolean)) 5 [.ref (G.2.2 1), .ref (Z w1).1] V r V := by
  intro sz
  refine met_of (Qs := fun sz => QI G sz r V) (SG_ok Z) (by decide) (Nat.le_of_ble_eq_true rfl) ?_ sz
  intro p e s m args below meth c ls E hw hl
  have hx := en_x E
  have hb := en_b E
  have hB := en_B E
  generalize hQ : MQ _ _ _ _ _ _ _ = Q
  have kr : Q = MQ below (QI G s.heap.size r V) args s 0 0 (gA G s.heap.size) := hQ.symm
  have hl : lv_has ls 4 [(0, .ref (G.2.2 1)), (1, .ref (Z w1).1)] := hl
  obtain ⟨H, eH⟩ : ∃ H, H = s.heap := ⟨_, rfl⟩
  obtain ⟨locs, elocs⟩ : ∃ z : List Loc, z = [] := ⟨_, rfl⟩
  have hw : HW G s.heap V H locs := by rw [eH, elocs]; exact hw
  show W p l e _ s m args below meth c s.heap [] 0 0 Q (F0 m 0 ls [])
  rw [← eH, ← elocs]
  unfold fX8_isWord at h
  refine lv_aload_n hx hb dX8_isWord_0 rfl (lv_at hl 0 rfl) ?_
  refine r_gi E hw 1 2 (N := 6) (C := RX8) (T := TX8) (by decide) rfl rfl (by decide) rfl iw_8 rfl lf_RX8_19 dX8_isWord_1 ?_
  refine lv_iconst (v := (1 : Int32)) hx hb dX8_isWord_4 (by decide) ?_
  refine lv_icmp_ne (tgt := 24) hx hb dX8_isWord_5 (by decide) (fun c18 => ?_) (fun c18 => ?_)
  · rw [if_neg c18] at h
    refine lv_iconst (v := (0 : Int32)) hx hb dX8_isWord_24 (by decide) ?_
    obtain ⟨z1, h⟩ := zo_some h
    have h := Option.some.inj h
    subst h
    rw [kr]
    exact r_rz E hw z1 dX8_isWord_25
  · rw [if_pos c18] at h
    refine lv_aload_n hx hb dX8_isWord_8 rfl (lv_at hl 0 rfl) ?_
    refine r_gi E hw 1 4 (N := 6) (C := RX8) (T := TX8) (by decide) rfl rfl (by decide) rfl iw_8 rfl lf_RX8_25 dX8_isWord_9 ?_
    refine lv_aload_n hx hb dX8_isWord_12 rfl (lv_at hl 0 rfl) ?_
    refine r_gi E hw 1 3 (N := 6) (C := RX8) (T := TX8) (by decide) rfl rfl (by decide) rfl iw_8 rfl lf_RX8_22 dX8_isWord_13 ?_
    refine lv_isub hx hb dX8_isWord_16 ?_
    refine lv_aload_n hx hb dX8_isWord_17 rfl (lv_at hl 1 rfl) ?_
    refine c_TI E hw (kJ0_length_8abf5 (l := l) (G := G) hs_w1) yy_J0_length_8abf5 lm_RX8_51 rfl hs_w1 rfl hl.1 (by decide) (by decide) rfl (Nat.le_of_ble_eq_true rfl) dX8_isWord_18 (fun H locs hw => ?_)
    refine lv_icmp_eq (tgt := 26) hx hb dX8_isWord_21 (by decide) (fun c17 => ?_) (fun c17 => ?_)
    · rw [if_pos c17] at h
      refine lv_iconst (v := (0 : Int32)) hx hb dX8_isWord_26 (by decide) ?_
      refine lv_istore_n (lv' := [(2, .int (0 : Int32)), (0, .ref (G.2.2 1)), (1, .ref (Z w1).1)]) hx hb dX8_isWord_27 rfl hl (by decide) rfl (fun ls hl => ?_)
      obtain ⟨x15, h14, h⟩ := ob_R_some h
      have h := Option.some.inj h
      subst h
      exact wX8_isWord_L28 E hs_w1 (fun q e => by subst e; exact kr) FV (0 : Int32) h14 H locs ls hw (lv_sub hl [1, 2, 0] rfl)
    · rw [if_neg c17] at h
      refine lv_iconst (v := (0 : Int32)) hx hb dX8_isWord_24 (by decide) ?_
      obtain ⟨z16, h⟩ := zo_some h
      have h := Option.some.inj h
      subst h
      rw [kr]
      exact r_rz E hw z16 dX8_isWord_25
/-! ===== AllSawIt$Tape.takeWord(Ljava/lang/String;)Z ===== -/
theorem dX8_takeWord_0 : decode cX8_takeWord 0 = .ok (.aload_n 0, 1) := by decide +kernel
theorem dX8_takeWord_1 : decode cX8_takeWord 1 = .ok (.aload_n 1, 1) := by decide +kernel
theorem dX8_takeWord_2 : decode cX8_takeWord 2 = .ok (.invokevirtual 60, 3) := by decide +kernel
theorem dX8_takeWord_5 : decode cX8_takeWord 5 = .ok (.ifCond .ne 5, 3) := by decide +kernel
theorem dX8_takeWord_8 : decode cX8_takeWord 8 = .ok (.iconst 0, 1) := by decide +kernel
theorem dX8_takeWord_9 : decode cX8_takeWord 9 = .ok (.ireturn, 1) := by decide +kernel
theorem dX8_takeWord_10 : decode cX8_takeWord 10 = .ok (.aload_n 0, 1) := by decide +kernel
theorem dX8_takeWord_11 : decode cX8_takeWord 11 = .ok (.invokevirtual 31, 3) := by decide +kernel
theorem dX8_takeWord_14 : decode cX8_takeWord 14 = .ok (.iconst 1, 1) := by decide +kernel
theorem dX8_takeWord_15 : decode cX8_takeWord 15 = .ok (.ireturn, 1) := by decide +kernel
noncomputable def fX8_takeWord (V : VT) (w1 : Nat) : Option (Int32 × VT) := ob_R (fX8_isWord V w1) fun y2 => if y2 = 0 then (zo_ (0 : Int32) (some ((0 : Int32), V))) else (ob_R (fX8_step V ) fun V4 => zo_ (1 : Int32) (some ((1 : Int32), V4)))
set_option maxHeartbeats 4000000 in
set_option maxRecDepth 100000 in
theorem kX8_takeWord {l : Launch} {G : GT} {Z : Nat → Nat × Nat} {V : VT} {w1 : Nat} (hs_w1 : w1 < 65) {r : (Int32 × VT)} (h : fX8_takeWord V w1 = some r) : CI l G (SG Z) yX8_takeWord (.code yX8_takeWord cX8_takeWord 2 (some .boolean)) 6 [.ref (G.2.2 1), .ref (Z w1).1] V r.1 r.2 := by
  intro sz
  refine met_of (Qs := fun sz => QI G sz (r.1) (r.2)) (SG_ok Z) (by decide) (Nat.le_of_ble_eq_true rfl) ?_ sz
  intro p e s m args below meth c ls E hw hl
  have hx := en_x E
  have hb := en_b E
  have hB := en_B E
  generalize hQ : MQ _ _ _ _ _ _ _ = Q
  have kr : Q = MQ below (QI G s.heap.size r.1 r.2) args s 0 0 (gA G s.heap.size) := hQ.symm
  have hl : lv_has ls 2 [(0, .ref (G.2.2 1)), (1, .ref (Z w1).1)] := hl
  obtain ⟨H, eH⟩ : ∃ H, H = s.heap := ⟨_, rfl⟩
  obtain ⟨locs, elocs⟩ : ∃ z : List Loc, z = [] := ⟨_, rfl⟩
  have hw : HW G s.heap V H locs := by rw [eH, elocs]; exact hw
  show W p l e _ s m args below meth c s.heap [] 0 0 Q (F0 m 0 ls [])
  rw [← eH, ← elocs]
  unfold fX8_takeWord at h
  refine lv_aload_n hx hb dX8_takeWord_0 rfl (lv_at hl 0 rfl) ?_
  refine lv_aload_n hx hb dX8_takeWord_1 rfl (lv_at hl 1 rfl) ?_
  obtain ⟨y2, h1, h⟩ := ob_R_some h
  refine c_VI E hw (kX8_isWord (l := l) (G := G) (Z := Z) hs_w1 h1) yy_X8_isWord lm_RX8_60 rfl (by decide) rfl rfl hl.1 (by decide) (by decide) rfl (Nat.le_of_ble_eq_true rfl) dX8_takeWord_2 (fun H locs hw => ?_)
  refine lv_if_ne (tgt := 10) hx hb dX8_takeWord_5 (by decide) (fun c7 => ?_) (fun c7 => ?_)
  · rw [if_neg c7] at h
    refine lv_aload_n hx hb dX8_takeWord_10 rfl (lv_at hl 0 rfl) ?_
    obtain ⟨V4, h3, h⟩ := ob_R_some h
    refine c_VV E hw (kX8_step (l := l) (G := G) hB  h3) yy_X8_step lm_RX8_31 rfl (by decide) rfl rfl hl.1 (by decide) (by decide) rfl (Nat.le_of_ble_eq_true rfl) dX8_takeWord_11 (fun H locs hw => ?_)
    refine lv_iconst (v := (1 : Int32)) hx hb dX8_takeWord_14 (by decide) ?_
    obtain ⟨z5, h⟩ := zo_some h
    have h := Option.some.inj h
    subst h
    rw [kr]
    exact r_rz E hw z5 dX8_takeWord_15
  · rw [if_pos c7] at h
    refine lv_iconst (v := (0 : Int32)) hx hb dX8_takeWord_8 (by decide) ?_
    obtain ⟨z6, h⟩ := zo_some h
    have h := Option.some.inj h
    subst h
    rw [kr]
    exact r_rz E hw z6 dX8_takeWord_9
/-! ===== AllSawItModel.isWord(Ljava/lang/String;)Z ===== -/
theorem dX10_isWord_0 : decode cX10_isWord 0 = .ok (.aload_n 0, 1) := by decide +kernel
theorem dX10_isWord_1 : decode cX10_isWord 1 = .ok (.getfield 87, 3) := by decide +kernel
theorem dX10_isWord_4 : decode cX10_isWord 4 = .ok (.aload_n 0, 1) := by decide +kernel
theorem dX10_isWord_5 : decode cX10_isWord 5 = .ok (.getfield 97, 3) := by decide +kernel
theorem dX10_isWord_8 : decode cX10_isWord 8 = .ok (.isub, 1) := by decide +kernel
theorem dX10_isWord_9 : decode cX10_isWord 9 = .ok (.aload_n 1, 1) := by decide +kernel
theorem dX10_isWord_10 : decode cX10_isWord 10 = .ok (.invokevirtual 103, 3) := by decide +kernel
theorem dX10_isWord_13 : decode cX10_isWord 13 = .ok (.if_icmp .ne 7, 3) := by decide +kernel
theorem dX10_isWord_16 : decode cX10_isWord 16 = .ok (.iconst 1, 1) := by decide +kernel
theorem dX10_isWord_17 : decode cX10_isWord 17 = .ok (.goto 4, 3) := by decide +kernel
theorem dX10_isWord_20 : decode cX10_isWord 20 = .ok (.iconst 0, 1) := by decide +kernel
theorem dX10_isWord_21 : decode cX10_isWord 21 = .ok (.istore_n 2, 1) := by decide +kernel
theorem dX10_isWord_22 : decode cX10_isWord 22 = .ok (.iconst 0, 1) := by decide +kernel
theorem dX10_isWord_23 : decode cX10_isWord 23 = .ok (.istore_n 3, 1) := by decide +kernel
theorem dX10_isWord_24 : decode cX10_isWord 24 = .ok (.iload_n 2, 1) := by decide +kernel
theorem dX10_isWord_25 : decode cX10_isWord 25 = .ok (.ifCond .eq 42, 3) := by decide +kernel
theorem dX10_isWord_28 : decode cX10_isWord 28 = .ok (.iload_n 3, 1) := by decide +kernel
theorem dX10_isWord_29 : decode cX10_isWord 29 = .ok (.aload_n 1, 1) := by decide +kernel
theorem dX10_isWord_30 : decode cX10_isWord 30 = .ok (.invokevirtual 103, 3) := by decide +kernel
theorem dX10_isWord_33 : decode cX10_isWord 33 = .ok (.if_icmp .ge 34, 3) := by decide +kernel
theorem dX10_isWord_36 : decode cX10_isWord 36 = .ok (.aload_n 0, 1) := by decide +kernel
theorem dX10_isWord_37 : decode cX10_isWord 37 = .ok (.getfield 29, 3) := by decide +kernel
theorem dX10_isWord_40 : decode cX10_isWord 40 = .ok (.aload_n 0, 1) := by decide +kernel
theorem dX10_isWord_41 : decode cX10_isWord 41 = .ok (.getfield 97, 3) := by decide +kernel
theorem dX10_isWord_44 : decode cX10_isWord 44 = .ok (.iload_n 3, 1) := by decide +kernel
theorem dX10_isWord_45 : decode cX10_isWord 45 = .ok (.iadd, 1) := by decide +kernel
theorem dX10_isWord_46 : decode cX10_isWord 46 = .ok (.baload, 1) := by decide +kernel
theorem dX10_isWord_47 : decode cX10_isWord 47 = .ok (.aload_n 1, 1) := by decide +kernel
theorem dX10_isWord_48 : decode cX10_isWord 48 = .ok (.iload_n 3, 1) := by decide +kernel
theorem dX10_isWord_49 : decode cX10_isWord 49 = .ok (.invokevirtual 108, 3) := by decide +kernel
theorem dX10_isWord_52 : decode cX10_isWord 52 = .ok (.if_icmp .ne 7, 3) := by decide +kernel
theorem dX10_isWord_55 : decode cX10_isWord 55 = .ok (.iconst 1, 1) := by decide +kernel
theorem dX10_isWord_56 : decode cX10_isWord 56 = .ok (.goto 4, 3) := by decide +kernel
theorem dX10_isWord_59 : decode cX10_isWord 59 = .ok (.iconst 0, 1) := by decide +kernel
theorem dX10_isWord_60 : decode cX10_isWord 60 = .ok (.istore_n 2, 1) := by decide +kernel
theorem dX10_isWord_61 : decode cX10_isWord 61 = .ok (.iinc 3 1, 3) := by decide +kernel
theorem dX10_isWord_64 : decode cX10_isWord 64 = .ok (.goto (-40), 3) := by decide +kernel
theorem dX10_isWord_67 : decode cX10_isWord 67 = .ok (.iload_n 2, 1) := by decide +kernel
theorem dX10_isWord_68 : decode cX10_isWord 68 = .ok (.ireturn, 1) := by decide +kernel
noncomputable def fX10_isWord_L24 (V : VT) (w1 : Nat) (u2 : Int32) (u3 : Int32) : Option ((Int32 × Int32) ⊕ Int32) := if u2 = 0 then (zo_ u2 (some (.inr (u2)))) else (if (nI (sL w1)) ≤ u3 then (zo_ u2 (some (.inr (u2)))) else (rd_ ((V 22 12) + u3) 400 (rd_ u3 (sL w1) (if (V 81 ((V 22 12) + u3).toNatClampNeg) = (sH w1 u3) then (lt_ (u3 + (1 : Int32)) fun y6 => some (.inl ((1 : Int32), y6))) else (lt_ (u3 + (1 : Int32)) fun y5 => some (.inl ((0 : Int32), y5)))))))
noncomputable def iX10_isWord_L24 (V : VT) (w1 : Nat) : (Int32 × Int32) → Option ((Int32 × Int32) ⊕ Int32) := fun q => fX10_isWord_L24 V w1 (q.1) (q.2)
noncomputable def fX10_isWord (V : VT) (w1 : Nat) : Option Int32 := if ((V 22 10) - (V 22 12)) = (nI (sL w1)) then (ob_R (it_ (iX10_isWord_L24 V w1) FV ((1 : Int32), (0 : Int32))) fun x13 => some x13) else (ob_R (it_ (iX10_isWord_L24 V w1) FV ((0 : Int32), (0 : Int32))) fun x11 => some x11)
set_option maxHeartbeats 4000000 in
set_option maxRecDepth 100000 in
theorem wX10_isWord_L24 {p : Program} {l : Launch} {e : Env} {s : State} {m : MethodId} {args : Array Value} {below : List Frame} {meth : Method} {c : Code} {G : GT} {Z : Nat → Nat × Nat} {Q : State → Prop} (E : En p s m args c meth cX10_isWord 4 RX10 (some .boolean) G (SG Z)) {w1 : Nat} (hs_w1 : w1 < 65) {V : VT} {x : Int32} (kr : ∀ q : Int32, x = q → Q = MQ below (QI G s.heap.size q V) args s 0 0 (gA G s.heap.size)) : ∀ (n : Nat) (q : (Int32 × Int32)), it_ (iX10_isWord_L24 V w1) n q = some x → ∀ (H : Heap) (locs : List Loc) (ls : Array Slot), HW G s.heap V H locs → lv_has ls 4 [(0, .ref (G.2.2 22)), (1, .ref (Z w1).1), (2, .int (q.1)), (3, .int (q.2))] → W p l e (rmD 5) s m args below meth c H locs 0 0 Q (F0 m 24 ls []) := by
  have hx := en_x E
  have hb := en_b E
  have hB := en_B E
  refine it_W (fun q : (Int32 × Int32) => ∀ (H : Heap) (locs : List Loc) (ls : Array Slot), HW G s.heap V H locs → lv_has ls 4 [(0, .ref (G.2.2 22)), (1, .ref (Z w1).1), (2, .int (q.1)), (3, .int (q.2))] → W p l e (rmD 5) s m args below meth c H locs 0 0 Q (F0 m 24 ls [])) x ?_
  intro q r h kc kx
  obtain ⟨u2, u3⟩ := q
  intro H locs ls hw hl
  have h : fX10_isWord_L24 V w1 u2 u3 = some r := h
  have hw : HW G s.heap V H locs := hw
  have hl : lv_has ls 4 [(0, .ref (G.2.2 22)), (1, .ref (Z w1).1), (2, .int u2), (3, .int u3)] := hl
  have kr : ∀ q : Int32, r = .inr (q) → Q = MQ below (QI G s.heap.size q V) args s 0 0 (gA G s.heap.size) := fun q e => kr q (kx _ e).symm
  unfold fX10_isWord_L24 at h
  refine lv_iload_n hx hb dX10_isWord_24 rfl (lv_at hl 2 rfl) ?_
  refine lv_if_eq (tgt := 67) hx hb dX10_isWord_25 (by decide) (fun c9 => ?_) (fun c9 => ?_)
  · rw [if_pos c9] at h
    refine lv_iload_n hx hb dX10_isWord_67 rfl (lv_at hl 2 rfl) ?_
    obtain ⟨z1, h⟩ := zo_some h
    rw [kr u2 (Option.some.inj h).symm]
    exact r_rz E hw z1 dX10_isWord_68
  · rw [if_neg c9] at h
    refine lv_iload_n hx hb dX10_isWord_28 rfl (lv_at hl 3 rfl) ?_
    refine lv_aload_n hx hb dX10_isWord_29 rfl (lv_at hl 1 rfl) ?_
    refine c_TI E hw (kJ0_length_8abf5 (l := l) (G := G) hs_w1) yy_J0_length_8abf5 lm_RX10_103 rfl hs_w1 rfl hl.1 (by decide) (by decide) rfl (Nat.le_of_ble_eq_true rfl) dX10_isWord_30 (fun H locs hw => ?_)
    refine lv_icmp_ge (tgt := 67) hx hb dX10_isWord_33 (by decide) (fun c8 => ?_) (fun c8 => ?_)
    · rw [if_pos c8] at h
      refine lv_iload_n hx hb dX10_isWord_67 rfl (lv_at hl 2 rfl) ?_
      obtain ⟨z2, h⟩ := zo_some h
      rw [kr u2 (Option.some.inj h).symm]
      exact r_rz E hw z2 dX10_isWord_68
    · rw [if_neg c8] at h
      refine lv_aload_n hx hb dX10_isWord_36 rfl (lv_at hl 0 rfl) ?_
      refine r_gr E hw 22 8 81 (N := 29) (C := RX10) (T := TX10) (by decide) rfl rfl (by decide) rfl iw_10 rfl lf_RX10_29 dX10_isWord_37 ?_
      refine lv_aload_n hx hb dX10_isWord_40 rfl (lv_at hl 0 rfl) ?_
      refine r_gi E hw 22 12 (N := 29) (C := RX10) (T := TX10) (by decide) rfl rfl (by decide) rfl iw_10 rfl lf_RX10_97 dX10_isWord_41 ?_
      refine lv_iload_n hx hb dX10_isWord_44 rfl (lv_at hl 3 rfl) ?_
      refine lv_iadd hx hb dX10_isWord_45 ?_
      obtain ⟨b3, h⟩ := rd_some h
      refine r_ba E hw 81 400 (by decide) (by decide) (by decide) rfl rfl b3 dX10_isWord_46 ?_
      refine lv_aload_n hx hb dX10_isWord_47 rfl (lv_at hl 1 rfl) ?_
      refine lv_iload_n hx hb dX10_isWord_48 rfl (lv_at hl 3 rfl) ?_
      obtain ⟨b4, h⟩ := rd_some h
      refine c_TI (r := sH w1 u3) E hw (kJ0_charAt_5068e (l := l) (G := G) hs_w1 b4 (sL_in hs_w1 b4)) yy_J0_charAt_5068e lm_RX10_108 rfl hs_w1 rfl hl.1 (by decide) (by decide) rfl (Nat.le_of_ble_eq_true rfl) dX10_isWord_49 (fun H locs hw => ?_)
      refine lv_icmp_ne (tgt := 59) hx hb dX10_isWord_52 (by decide) (fun c7 => ?_) (fun c7 => ?_)
      · rw [if_neg c7] at h
        refine lv_iconst (v := (0 : Int32)) hx hb dX10_isWord_59 (by decide) ?_
        refine lv_istore_n (lv' := [(2, .int (0 : Int32)), (0, .ref (G.2.2 22)), (1, .ref (Z w1).1), (3, .int u3)]) hx hb dX10_isWord_60 rfl hl (by decide) rfl (fun ls hl => ?_)
        obtain ⟨y5, ey5, h⟩ := lt_some h
        refine lv_iinc (v := y5) (lv' := [(3, .int y5), (2, .int (0 : Int32)), (0, .ref (G.2.2 22)), (1, .ref (Z w1).1)]) hx hb dX10_isWord_61 hl (k := 3) rfl (by rw [ey5]; rfl) (by decide) rfl (fun ls hl => ?_)
        refine lv_goto (tgt := 24) hx hb dX10_isWord_64 (by decide) ?_
        exact kc ((0 : Int32), y5) (Option.some.inj h).symm H locs ls hw (lv_sub hl [2, 3, 1, 0] rfl)
      · rw [if_pos c7] at h
        refine lv_iconst (v := (1 : Int32)) hx hb dX10_isWord_55 (by decide) ?_
        refine lv_goto (tgt := 60) hx hb dX10_isWord_56 (by decide) ?_
        refine lv_istore_n (lv' := [(2, .int (1 : Int32)), (0, .ref (G.2.2 22)), (1, .ref (Z w1).1), (3, .int u3)]) hx hb dX10_isWord_60 rfl hl (by decide) rfl (fun ls hl => ?_)
        obtain ⟨y6, ey6, h⟩ := lt_some h
        refine lv_iinc (v := y6) (lv' := [(3, .int y6), (2, .int (1 : Int32)), (0, .ref (G.2.2 22)), (1, .ref (Z w1).1)]) hx hb dX10_isWord_61 hl (k := 3) rfl (by rw [ey6]; rfl) (by decide) rfl (fun ls hl => ?_)
        refine lv_goto (tgt := 24) hx hb dX10_isWord_64 (by decide) ?_
        exact kc ((1 : Int32), y6) (Option.some.inj h).symm H locs ls hw (lv_sub hl [2, 3, 1, 0] rfl)
set_option maxHeartbeats 4000000 in
set_option maxRecDepth 100000 in
theorem kX10_isWord {l : Launch} {G : GT} {Z : Nat → Nat × Nat} {V : VT} {w1 : Nat} (hs_w1 : w1 < 65) {r : Int32} (h : fX10_isWord V w1 = some r) : CI l G (SG Z) yX10_isWord (.code yX10_isWord cX10_isWord 4 (some .boolean)) 5 [.ref (G.2.2 22), .ref (Z w1).1] V r V := by
  intro sz
  refine met_of (Qs := fun sz => QI G sz r V) (SG_ok Z) (by decide) (Nat.le_of_ble_eq_true rfl) ?_ sz
  intro p e s m args below meth c ls E hw hl
  have hx := en_x E
  have hb := en_b E
  have hB := en_B E
  generalize hQ : MQ _ _ _ _ _ _ _ = Q
  have kr : Q = MQ below (QI G s.heap.size r V) args s 0 0 (gA G s.heap.size) := hQ.symm
  have hl : lv_has ls 4 [(0, .ref (G.2.2 22)), (1, .ref (Z w1).1)] := hl
  obtain ⟨H, eH⟩ : ∃ H, H = s.heap := ⟨_, rfl⟩
  obtain ⟨locs, elocs⟩ : ∃ z : List Loc, z = [] := ⟨_, rfl⟩
  have hw : HW G s.heap V H locs := by rw [eH, elocs]; exact hw
  show W p l e _ s m args below meth c s.heap [] 0 0 Q (F0 m 0 ls [])
  rw [← eH, ← elocs]
  unfold fX10_isWord at h
  refine lv_aload_n hx hb dX10_isWord_0 rfl (lv_at hl 0 rfl) ?_
  refine r_gi E hw 22 10 (N := 29) (C := RX10) (T := TX10) (by decide) rfl rfl (by decide) rfl iw_10 rfl lf_RX10_87 dX10_isWord_1 ?_
  refine lv_aload_n hx hb dX10_isWord_4 rfl (lv_at hl 0 rfl) ?_
  refine r_gi E hw 22 12 (N := 29) (C := RX10) (T := TX10) (by decide) rfl rfl (by decide) rfl iw_10 rfl lf_RX10_97 dX10_isWord_5 ?_
  refine lv_isub hx hb dX10_isWord_8 ?_
  refine lv_aload_n hx hb dX10_isWord_9 rfl (lv_at hl 1 rfl) ?_
  refine c_TI E hw (kJ0_length_8abf5 (l := l) (G := G) hs_w1) yy_J0_length_8abf5 lm_RX10_103 rfl hs_w1 rfl hl.1 (by decide) (by decide) rfl (Nat.le_of_ble_eq_true rfl) dX10_isWord_10 (fun H locs hw => ?_)
  refine lv_icmp_ne (tgt := 20) hx hb dX10_isWord_13 (by decide) (fun c14 => ?_) (fun c14 => ?_)
  · rw [if_neg c14] at h
    refine lv_iconst (v := (0 : Int32)) hx hb dX10_isWord_20 (by decide) ?_
    refine lv_istore_n (lv' := [(2, .int (0 : Int32)), (0, .ref (G.2.2 22)), (1, .ref (Z w1).1)]) hx hb dX10_isWord_21 rfl hl (by decide) rfl (fun ls hl => ?_)
    refine lv_iconst (v := (0 : Int32)) hx hb dX10_isWord_22 (by decide) ?_
    refine lv_istore_n (lv' := [(3, .int (0 : Int32)), (2, .int (0 : Int32)), (0, .ref (G.2.2 22)), (1, .ref (Z w1).1)]) hx hb dX10_isWord_23 rfl hl (by decide) rfl (fun ls hl => ?_)
    obtain ⟨x11, h10, h⟩ := ob_R_some h
    have h := Option.some.inj h
    subst h
    exact wX10_isWord_L24 E hs_w1 (fun q e => by subst e; exact kr) FV ((0 : Int32), (0 : Int32)) h10 H locs ls hw (lv_sub hl [2, 3, 1, 0] rfl)
  · rw [if_pos c14] at h
    refine lv_iconst (v := (1 : Int32)) hx hb dX10_isWord_16 (by decide) ?_
    refine lv_goto (tgt := 21) hx hb dX10_isWord_17 (by decide) ?_
    refine lv_istore_n (lv' := [(2, .int (1 : Int32)), (0, .ref (G.2.2 22)), (1, .ref (Z w1).1)]) hx hb dX10_isWord_21 rfl hl (by decide) rfl (fun ls hl => ?_)
    refine lv_iconst (v := (0 : Int32)) hx hb dX10_isWord_22 (by decide) ?_
    refine lv_istore_n (lv' := [(3, .int (0 : Int32)), (2, .int (1 : Int32)), (0, .ref (G.2.2 22)), (1, .ref (Z w1).1)]) hx hb dX10_isWord_23 rfl hl (by decide) rfl (fun ls hl => ?_)
    obtain ⟨x13, h12, h⟩ := ob_R_some h
    have h := Option.some.inj h
    subst h
    exact wX10_isWord_L24 E hs_w1 (fun q e => by subst e; exact kr) FV ((1 : Int32), (0 : Int32)) h12 H locs ls hw (lv_sub hl [2, 3, 1, 0] rfl)
/-! ===== AllSawItModel.passes(Ljava/lang/String;)Z ===== -/
theorem dX10_passes_0 : decode cX10_passes 0 = .ok (.aload_n 0, 1) := by decide +kernel
theorem dX10_passes_1 : decode cX10_passes 1 = .ok (.invokevirtual 112, 3) := by decide +kernel
theorem dX10_passes_4 : decode cX10_passes 4 = .ok (.aload_n 0, 1) := by decide +kernel
theorem dX10_passes_5 : decode cX10_passes 5 = .ok (.aload_n 1, 1) := by decide +kernel
theorem dX10_passes_6 : decode cX10_passes 6 = .ok (.invokevirtual 115, 3) := by decide +kernel
theorem dX10_passes_9 : decode cX10_passes 9 = .ok (.ifCond .eq 5, 3) := by decide +kernel
theorem dX10_passes_12 : decode cX10_passes 12 = .ok (.iconst 1, 1) := by decide +kernel
theorem dX10_passes_13 : decode cX10_passes 13 = .ok (.ireturn, 1) := by decide +kernel
theorem dX10_passes_14 : decode cX10_passes 14 = .ok (.aload_n 0, 1) := by decide +kernel
theorem dX10_passes_15 : decode cX10_passes 15 = .ok (.aload_n 0, 1) := by decide +kernel
theorem dX10_passes_16 : decode cX10_passes 16 = .ok (.getfield 97, 3) := by decide +kernel
theorem dX10_passes_19 : decode cX10_passes 19 = .ok (.putfield 87, 3) := by decide +kernel
theorem dX10_passes_22 : decode cX10_passes 22 = .ok (.iconst 0, 1) := by decide +kernel
theorem dX10_passes_23 : decode cX10_passes 23 = .ok (.ireturn, 1) := by decide +kernel
noncomputable def fX10_passes (V : VT) (w1 : Nat) : Option (Int32 × VT) := ob_R (fX10_letters V ) fun V2 => ob_R (fX10_isWord V2 w1) fun y4 => if y4 = 0 then (lt_ (va_up V2 22 (upd (V2 22) 10 (V2 22 12))) fun V5 => zo_ (0 : Int32) (some ((0 : Int32), V5))) else (zo_ (1 : Int32) (some ((1 : Int32), V2)))
set_option maxHeartbeats 4000000 in
set_option maxRecDepth 100000 in
theorem kX10_passes {l : Launch} {G : GT} {Z : Nat → Nat × Nat} {V : VT} {w1 : Nat} (hs_w1 : w1 < 65) {r : (Int32 × VT)} (h : fX10_passes V w1 = some r) : CI l G (SG Z) yX10_passes (.code yX10_passes cX10_passes 2 (some .boolean)) 6 [.ref (G.2.2 22), .ref (Z w1).1] V r.1 r.2 := by
  intro sz
  refine met_of (Qs := fun sz => QI G sz (r.1) (r.2)) (SG_ok Z) (by decide) (Nat.le_of_ble_eq_true rfl) ?_ sz
  intro p e s m args below meth c ls E hw hl
  have hx := en_x E
  have hb := en_b E
  have hB := en_B E
  generalize hQ : MQ _ _ _ _ _ _ _ = Q
  have kr : Q = MQ below (QI G s.heap.size r.1 r.2) args s 0 0 (gA G s.heap.size) := hQ.symm
  have hl : lv_has ls 2 [(0, .ref (G.2.2 22)), (1, .ref (Z w1).1)] := hl
  obtain ⟨H, eH⟩ : ∃ H, H = s.heap := ⟨_, rfl⟩
  obtain ⟨locs, elocs⟩ : ∃ z : List Loc, z = [] := ⟨_, rfl⟩
  have hw : HW G s.heap V H locs := by rw [eH, elocs]; exact hw
  show W p l e _ s m args below meth c s.heap [] 0 0 Q (F0 m 0 ls [])
  rw [← eH, ← elocs]
  unfold fX10_passes at h
  refine lv_aload_n hx hb dX10_passes_0 rfl (lv_at hl 0 rfl) ?_
  obtain ⟨V2, h1, h⟩ := ob_R_some h
  refine c_VV E hw (kX10_letters (l := l) (G := G) hB  h1) yy_X10_letters lm_RX10_112 rfl (by decide) rfl rfl hl.1 (by decide) (by decide) rfl (Nat.le_of_ble_eq_true rfl) dX10_passes_1 (fun H locs hw => ?_)
  refine lv_aload_n hx hb dX10_passes_4 rfl (lv_at hl 0 rfl) ?_
  refine lv_aload_n hx hb dX10_passes_5 rfl (lv_at hl 1 rfl) ?_
  obtain ⟨y4, h3, h⟩ := ob_R_some h
  refine c_VI E hw (kX10_isWord (l := l) (G := G) (Z := Z) hs_w1 h3) yy_X10_isWord lm_RX10_115 rfl (by decide) rfl rfl hl.1 (by decide) (by decide) rfl (Nat.le_of_ble_eq_true rfl) dX10_passes_6 (fun H locs hw => ?_)
  refine lv_if_eq (tgt := 14) hx hb dX10_passes_9 (by decide) (fun c8 => ?_) (fun c8 => ?_)
  · rw [if_pos c8] at h
    refine lv_aload_n hx hb dX10_passes_14 rfl (lv_at hl 0 rfl) ?_
    refine lv_aload_n hx hb dX10_passes_15 rfl (lv_at hl 0 rfl) ?_
    refine r_gi E hw 22 12 (N := 29) (C := RX10) (T := TX10) (by decide) rfl rfl (by decide) rfl iw_10 rfl lf_RX10_97 dX10_passes_16 ?_
    obtain ⟨V5, eV5, h⟩ := lt_some h
    refine r_pi E hw 22 10 (N := 29) (C := RX10) (T := TX10) (ty0 := tyX10) (ty := .int) (by decide) rfl rfl (by decide) rfl iw_10 rfl tyX10_ok nmX10 rfl rfl (vp_nar_int _) rfl lf_RX10_87 eV5 dX10_passes_19 (fun H locs hw => ?_)
    refine lv_iconst (v := (0 : Int32)) hx hb dX10_passes_22 (by decide) ?_
    obtain ⟨z6, h⟩ := zo_some h
    have h := Option.some.inj h
    subst h
    rw [kr]
    exact r_rz E hw z6 dX10_passes_23
  · rw [if_neg c8] at h
    refine lv_iconst (v := (1 : Int32)) hx hb dX10_passes_12 (by decide) ?_
    obtain ⟨z7, h⟩ := zo_some h
    have h := Option.some.inj h
    subst h
    rw [kr]
    exact r_rz E hw z7 dX10_passes_13
/-! ===== AllSawItModel.after(Ljava/lang/String;II)I ===== -/
theorem dX10_after_0 : decode cX10_after 0 = .ok (.aload_n 0, 1) := by decide +kernel
theorem dX10_after_1 : decode cX10_after 1 = .ok (.invokevirtual 112, 3) := by decide +kernel
theorem dX10_after_4 : decode cX10_after 4 = .ok (.aload_n 0, 1) := by decide +kernel
theorem dX10_after_5 : decode cX10_after 5 = .ok (.aload_n 1, 1) := by decide +kernel
theorem dX10_after_6 : decode cX10_after 6 = .ok (.invokevirtual 115, 3) := by decide +kernel
theorem dX10_after_9 : decode cX10_after 9 = .ok (.ifCond .eq 12, 3) := by decide +kernel
theorem dX10_after_12 : decode cX10_after 12 = .ok (.aload_n 0, 1) := by decide +kernel
theorem dX10_after_13 : decode cX10_after 13 = .ok (.iload_n 2, 1) := by decide +kernel
theorem dX10_after_14 : decode cX10_after 14 = .ok (.iload_n 3, 1) := by decide +kernel
theorem dX10_after_15 : decode cX10_after 15 = .ok (.invokevirtual 119, 3) := by decide +kernel
theorem dX10_after_18 : decode cX10_after 18 = .ok (.goto 4, 3) := by decide +kernel
theorem dX10_after_21 : decode cX10_after 21 = .ok (.iconst (-1), 1) := by decide +kernel
theorem dX10_after_22 : decode cX10_after 22 = .ok (.ireturn, 1) := by decide +kernel
noncomputable def fX10_after (V : VT) (w1 : Nat) (x2 : Int32) (x3 : Int32) : Option (Int32 × VT) := ob_R (fX10_letters V ) fun V2 => ob_R (fX10_isWord V2 w1) fun y4 => if y4 = 0 then (some ((-1 : Int32), V2)) else (ob_I (fX10_number V2 x2 x3) fun y6 V7 => some (y6, V7))
set_option maxHeartbeats 4000000 in
set_option maxRecDepth 100000 in
theorem kX10_after {l : Launch} {G : GT} {Z : Nat → Nat × Nat} {V : VT} {w1 : Nat} (hs_w1 : w1 < 65) {x2 : Int32} {x3 : Int32} {r : (Int32 × VT)} (h : fX10_after V w1 x2 x3 = some r) : CI l G (SG Z) yX10_after (.code yX10_after cX10_after 4 (some .int)) 6 [.ref (G.2.2 22), .ref (Z w1).1, .int x2, .int x3] V r.1 r.2 := by
  intro sz
  refine met_of (Qs := fun sz => QI G sz (r.1) (r.2)) (SG_ok Z) (by decide) (Nat.le_of_ble_eq_true rfl) ?_ sz
  intro p e s m args below meth c ls E hw hl
  have hx := en_x E
  have hb := en_b E
  have hB := en_B E
  generalize hQ : MQ _ _ _ _ _ _ _ = Q
  have kr : Q = MQ below (QI G s.heap.size r.1 r.2) args s 0 0 (gA G s.heap.size) := hQ.symm
  have hl : lv_has ls 4 [(0, .ref (G.2.2 22)), (1, .ref (Z w1).1), (2, .int x2), (3, .int x3)] := hl
  obtain ⟨H, eH⟩ : ∃ H, H = s.heap := ⟨_, rfl⟩
  obtain ⟨locs, elocs⟩ : ∃ z : List Loc, z = [] := ⟨_, rfl⟩
  have hw : HW G s.heap V H locs := by rw [eH, elocs]; exact hw
  show W p l e _ s m args below meth c s.heap [] 0 0 Q (F0 m 0 ls [])
  rw [← eH, ← elocs]
  unfold fX10_after at h
  refine lv_aload_n hx hb dX10_after_0 rfl (lv_at hl 0 rfl) ?_
  obtain ⟨V2, h1, h⟩ := ob_R_some h
  refine c_VV E hw (kX10_letters (l := l) (G := G) hB  h1) yy_X10_letters lm_RX10_112 rfl (by decide) rfl rfl hl.1 (by decide) (by decide) rfl (Nat.le_of_ble_eq_true rfl) dX10_after_1 (fun H locs hw => ?_)
  refine lv_aload_n hx hb dX10_after_4 rfl (lv_at hl 0 rfl) ?_
  refine lv_aload_n hx hb dX10_after_5 rfl (lv_at hl 1 rfl) ?_
  obtain ⟨y4, h3, h⟩ := ob_R_some h
  refine c_VI E hw (kX10_isWord (l := l) (G := G) (Z := Z) hs_w1 h3) yy_X10_isWord lm_RX10_115 rfl (by decide) rfl rfl hl.1 (by decide) (by decide) rfl (Nat.le_of_ble_eq_true rfl) dX10_after_6 (fun H locs hw => ?_)
  refine lv_if_eq (tgt := 21) hx hb dX10_after_9 (by decide) (fun c8 => ?_) (fun c8 => ?_)
  · rw [if_pos c8] at h
    refine lv_iconst (v := (-1 : Int32)) hx hb dX10_after_21 (by decide) ?_
    have h := Option.some.inj h
    subst h
    rw [kr]
    exact r_ri E hw dX10_after_22
  · rw [if_neg c8] at h
    refine lv_aload_n hx hb dX10_after_12 rfl (lv_at hl 0 rfl) ?_
    refine lv_iload_n hx hb dX10_after_13 rfl (lv_at hl 2 rfl) ?_
    refine lv_iload_n hx hb dX10_after_14 rfl (lv_at hl 3 rfl) ?_
    obtain ⟨y6, V7, h5, h⟩ := ob_I_some h
    refine c_VI E hw (kX10_number (l := l) (G := G) hB  h5) yy_X10_number lm_RX10_119 rfl (by decide) rfl rfl hl.1 (by decide) (by decide) rfl (Nat.le_of_ble_eq_true rfl) dX10_after_15 (fun H locs hw => ?_)
    refine lv_goto (tgt := 22) hx hb dX10_after_18 (by decide) ?_
    have h := Option.some.inj h
    subst h
    rw [kr]
    exact r_ri E hw dX10_after_22
/-! ===== AllSawItModel.readHouse()Z ===== -/
theorem dX10_readHouse_0 : decode cX10_readHouse 0 = .ok (.aload_n 0, 1) := by decide +kernel
theorem dX10_readHouse_1 : decode cX10_readHouse 1 = .ok (.invokevirtual 62, 3) := by decide +kernel
theorem dX10_readHouse_4 : decode cX10_readHouse 4 = .ok (.istore_n 1, 1) := by decide +kernel
theorem dX10_readHouse_5 : decode cX10_readHouse 5 = .ok (.iload_n 1, 1) := by decide +kernel
theorem dX10_readHouse_6 : decode cX10_readHouse 6 = .ok (.bipush 8, 2) := by decide +kernel
theorem dX10_readHouse_8 : decode cX10_readHouse 8 = .ok (.if_icmp .ne 5, 3) := by decide +kernel
theorem dX10_readHouse_11 : decode cX10_readHouse 11 = .ok (.iconst 0, 1) := by decide +kernel
theorem dX10_readHouse_12 : decode cX10_readHouse 12 = .ok (.ireturn, 1) := by decide +kernel
theorem dX10_readHouse_13 : decode cX10_readHouse 13 = .ok (.aload_n 0, 1) := by decide +kernel
theorem dX10_readHouse_14 : decode cX10_readHouse 14 = .ok (.iconst 0, 1) := by decide +kernel
theorem dX10_readHouse_15 : decode cX10_readHouse 15 = .ok (.bipush 23, 2) := by decide +kernel
theorem dX10_readHouse_17 : decode cX10_readHouse 17 = .ok (.invokevirtual 119, 3) := by decide +kernel
theorem dX10_readHouse_20 : decode cX10_readHouse 20 = .ok (.istore_n 2, 1) := by decide +kernel
theorem dX10_readHouse_21 : decode cX10_readHouse 21 = .ok (.iload_n 2, 1) := by decide +kernel
theorem dX10_readHouse_22 : decode cX10_readHouse 22 = .ok (.ifCond .ge 7, 3) := by decide +kernel
theorem dX10_readHouse_25 : decode cX10_readHouse 25 = .ok (.iconst (-1), 1) := by decide +kernel
theorem dX10_readHouse_26 : decode cX10_readHouse 26 = .ok (.goto 12, 3) := by decide +kernel
theorem dX10_readHouse_29 : decode cX10_readHouse 29 = .ok (.aload_n 0, 1) := by decide +kernel
theorem dX10_readHouse_30 : decode cX10_readHouse 30 = .ok (.ldc 122, 2) := by decide +kernel
theorem dX10_readHouse_32 : decode cX10_readHouse 32 = .ok (.iconst 0, 1) := by decide +kernel
theorem dX10_readHouse_33 : decode cX10_readHouse 33 = .ok (.bipush 23, 2) := by decide +kernel
theorem dX10_readHouse_35 : decode cX10_readHouse 35 = .ok (.invokevirtual 124, 3) := by decide +kernel
theorem dX10_readHouse_38 : decode cX10_readHouse 38 = .ok (.istore_n 3, 1) := by decide +kernel
theorem dX10_readHouse_39 : decode cX10_readHouse 39 = .ok (.iload_n 3, 1) := by decide +kernel
theorem dX10_readHouse_40 : decode cX10_readHouse 40 = .ok (.ifCond .ge 7, 3) := by decide +kernel
theorem dX10_readHouse_43 : decode cX10_readHouse 43 = .ok (.iconst (-1), 1) := by decide +kernel
theorem dX10_readHouse_44 : decode cX10_readHouse 44 = .ok (.goto 12, 3) := by decide +kernel
theorem dX10_readHouse_47 : decode cX10_readHouse 47 = .ok (.aload_n 0, 1) := by decide +kernel
theorem dX10_readHouse_48 : decode cX10_readHouse 48 = .ok (.ldc 128, 2) := by decide +kernel
theorem dX10_readHouse_50 : decode cX10_readHouse 50 = .ok (.iload_n 3, 1) := by decide +kernel
theorem dX10_readHouse_51 : decode cX10_readHouse 51 = .ok (.bipush 23, 2) := by decide +kernel
theorem dX10_readHouse_53 : decode cX10_readHouse 53 = .ok (.invokevirtual 124, 3) := by decide +kernel
theorem dX10_readHouse_56 : decode cX10_readHouse 56 = .ok (.istore 4, 2) := by decide +kernel
theorem dX10_readHouse_58 : decode cX10_readHouse 58 = .ok (.iload 4, 2) := by decide +kernel
theorem dX10_readHouse_60 : decode cX10_readHouse 60 = .ok (.ifCond .ge 7, 3) := by decide +kernel
theorem dX10_readHouse_63 : decode cX10_readHouse 63 = .ok (.iconst (-1), 1) := by decide +kernel
theorem dX10_readHouse_64 : decode cX10_readHouse 64 = .ok (.goto 12, 3) := by decide +kernel
theorem dX10_readHouse_67 : decode cX10_readHouse 67 = .ok (.aload_n 0, 1) := by decide +kernel
theorem dX10_readHouse_68 : decode cX10_readHouse 68 = .ok (.ldc 130, 2) := by decide +kernel
theorem dX10_readHouse_70 : decode cX10_readHouse 70 = .ok (.iconst 0, 1) := by decide +kernel
theorem dX10_readHouse_71 : decode cX10_readHouse 71 = .ok (.bipush 23, 2) := by decide +kernel
theorem dX10_readHouse_73 : decode cX10_readHouse 73 = .ok (.invokevirtual 124, 3) := by decide +kernel
theorem dX10_readHouse_76 : decode cX10_readHouse 76 = .ok (.istore 5, 2) := by decide +kernel
theorem dX10_readHouse_78 : decode cX10_readHouse 78 = .ok (.iload 5, 2) := by decide +kernel
theorem dX10_readHouse_80 : decode cX10_readHouse 80 = .ok (.ifCond .ge 7, 3) := by decide +kernel
theorem dX10_readHouse_83 : decode cX10_readHouse 83 = .ok (.iconst (-1), 1) := by decide +kernel
theorem dX10_readHouse_84 : decode cX10_readHouse 84 = .ok (.goto 12, 3) := by decide +kernel
theorem dX10_readHouse_87 : decode cX10_readHouse 87 = .ok (.aload_n 0, 1) := by decide +kernel
theorem dX10_readHouse_88 : decode cX10_readHouse 88 = .ok (.ldc 132, 2) := by decide +kernel
theorem dX10_readHouse_90 : decode cX10_readHouse 90 = .ok (.iconst 0, 1) := by decide +kernel
theorem dX10_readHouse_91 : decode cX10_readHouse 91 = .ok (.bipush 24, 2) := by decide +kernel
theorem dX10_readHouse_93 : decode cX10_readHouse 93 = .ok (.invokevirtual 124, 3) := by decide +kernel
theorem dX10_readHouse_96 : decode cX10_readHouse 96 = .ok (.istore 6, 2) := by decide +kernel
theorem dX10_readHouse_98 : decode cX10_readHouse 98 = .ok (.iload 6, 2) := by decide +kernel
theorem dX10_readHouse_100 : decode cX10_readHouse 100 = .ok (.ifCond .ge 5, 3) := by decide +kernel
theorem dX10_readHouse_103 : decode cX10_readHouse 103 = .ok (.iconst 0, 1) := by decide +kernel
theorem dX10_readHouse_104 : decode cX10_readHouse 104 = .ok (.ireturn, 1) := by decide +kernel
theorem dX10_readHouse_105 : decode cX10_readHouse 105 = .ok (.aload_n 0, 1) := by decide +kernel
theorem dX10_readHouse_106 : decode cX10_readHouse 106 = .ok (.ldc 134, 2) := by decide +kernel
theorem dX10_readHouse_108 : decode cX10_readHouse 108 = .ok (.invokevirtual 136, 3) := by decide +kernel
theorem dX10_readHouse_111 : decode cX10_readHouse 111 = .ok (.ifCond .eq 13, 3) := by decide +kernel
theorem dX10_readHouse_114 : decode cX10_readHouse 114 = .ok (.aload_n 0, 1) := by decide +kernel
theorem dX10_readHouse_115 : decode cX10_readHouse 115 = .ok (.iconst 0, 1) := by decide +kernel
theorem dX10_readHouse_116 : decode cX10_readHouse 116 = .ok (.bipush 9, 2) := by decide +kernel
theorem dX10_readHouse_118 : decode cX10_readHouse 118 = .ok (.invokevirtual 119, 3) := by decide +kernel
theorem dX10_readHouse_121 : decode cX10_readHouse 121 = .ok (.goto 4, 3) := by decide +kernel
theorem dX10_readHouse_124 : decode cX10_readHouse 124 = .ok (.iconst 0, 1) := by decide +kernel
theorem dX10_readHouse_125 : decode cX10_readHouse 125 = .ok (.istore 7, 2) := by decide +kernel
theorem dX10_readHouse_127 : decode cX10_readHouse 127 = .ok (.iload 7, 2) := by decide +kernel
theorem dX10_readHouse_129 : decode cX10_readHouse 129 = .ok (.ifCond .ge 5, 3) := by decide +kernel
theorem dX10_readHouse_132 : decode cX10_readHouse 132 = .ok (.iconst 0, 1) := by decide +kernel
theorem dX10_readHouse_133 : decode cX10_readHouse 133 = .ok (.ireturn, 1) := by decide +kernel
theorem dX10_readHouse_134 : decode cX10_readHouse 134 = .ok (.aload_n 0, 1) := by decide +kernel
theorem dX10_readHouse_135 : decode cX10_readHouse 135 = .ok (.getfield 13, 3) := by decide +kernel
theorem dX10_readHouse_138 : decode cX10_readHouse 138 = .ok (.iload_n 1, 1) := by decide +kernel
theorem dX10_readHouse_139 : decode cX10_readHouse 139 = .ok (.iconst 0, 1) := by decide +kernel
theorem dX10_readHouse_140 : decode cX10_readHouse 140 = .ok (.invokestatic 66, 3) := by decide +kernel
theorem dX10_readHouse_143 : decode cX10_readHouse 143 = .ok (.iload_n 2, 1) := by decide +kernel
theorem dX10_readHouse_144 : decode cX10_readHouse 144 = .ok (.iastore, 1) := by decide +kernel
theorem dX10_readHouse_145 : decode cX10_readHouse 145 = .ok (.aload_n 0, 1) := by decide +kernel
theorem dX10_readHouse_146 : decode cX10_readHouse 146 = .ok (.getfield 13, 3) := by decide +kernel
theorem dX10_readHouse_149 : decode cX10_readHouse 149 = .ok (.iload_n 1, 1) := by decide +kernel
theorem dX10_readHouse_150 : decode cX10_readHouse 150 = .ok (.iconst 1, 1) := by decide +kernel
theorem dX10_readHouse_151 : decode cX10_readHouse 151 = .ok (.invokestatic 66, 3) := by decide +kernel
theorem dX10_readHouse_154 : decode cX10_readHouse 154 = .ok (.iload_n 3, 1) := by decide +kernel
theorem dX10_readHouse_155 : decode cX10_readHouse 155 = .ok (.iastore, 1) := by decide +kernel
theorem dX10_readHouse_156 : decode cX10_readHouse 156 = .ok (.aload_n 0, 1) := by decide +kernel
theorem dX10_readHouse_157 : decode cX10_readHouse 157 = .ok (.getfield 13, 3) := by decide +kernel
theorem dX10_readHouse_160 : decode cX10_readHouse 160 = .ok (.iload_n 1, 1) := by decide +kernel
theorem dX10_readHouse_161 : decode cX10_readHouse 161 = .ok (.iconst 2, 1) := by decide +kernel
theorem dX10_readHouse_162 : decode cX10_readHouse 162 = .ok (.invokestatic 66, 3) := by decide +kernel
theorem dX10_readHouse_165 : decode cX10_readHouse 165 = .ok (.iload 4, 2) := by decide +kernel
theorem dX10_readHouse_167 : decode cX10_readHouse 167 = .ok (.iastore, 1) := by decide +kernel
theorem dX10_readHouse_168 : decode cX10_readHouse 168 = .ok (.aload_n 0, 1) := by decide +kernel
theorem dX10_readHouse_169 : decode cX10_readHouse 169 = .ok (.getfield 13, 3) := by decide +kernel
theorem dX10_readHouse_172 : decode cX10_readHouse 172 = .ok (.iload_n 1, 1) := by decide +kernel
theorem dX10_readHouse_173 : decode cX10_readHouse 173 = .ok (.iconst 3, 1) := by decide +kernel
theorem dX10_readHouse_174 : decode cX10_readHouse 174 = .ok (.invokestatic 66, 3) := by decide +kernel
theorem dX10_readHouse_177 : decode cX10_readHouse 177 = .ok (.iload 5, 2) := by decide +kernel
theorem dX10_readHouse_179 : decode cX10_readHouse 179 = .ok (.iastore, 1) := by decide +kernel
theorem dX10_readHouse_180 : decode cX10_readHouse 180 = .ok (.aload_n 0, 1) := by decide +kernel
theorem dX10_readHouse_181 : decode cX10_readHouse 181 = .ok (.getfield 13, 3) := by decide +kernel
theorem dX10_readHouse_184 : decode cX10_readHouse 184 = .ok (.iload_n 1, 1) := by decide +kernel
theorem dX10_readHouse_185 : decode cX10_readHouse 185 = .ok (.iconst 4, 1) := by decide +kernel
theorem dX10_readHouse_186 : decode cX10_readHouse 186 = .ok (.invokestatic 66, 3) := by decide +kernel
theorem dX10_readHouse_189 : decode cX10_readHouse 189 = .ok (.iload 6, 2) := by decide +kernel
theorem dX10_readHouse_191 : decode cX10_readHouse 191 = .ok (.iastore, 1) := by decide +kernel
theorem dX10_readHouse_192 : decode cX10_readHouse 192 = .ok (.aload_n 0, 1) := by decide +kernel
theorem dX10_readHouse_193 : decode cX10_readHouse 193 = .ok (.getfield 13, 3) := by decide +kernel
theorem dX10_readHouse_196 : decode cX10_readHouse 196 = .ok (.iload_n 1, 1) := by decide +kernel
theorem dX10_readHouse_197 : decode cX10_readHouse 197 = .ok (.iconst 5, 1) := by decide +kernel
theorem dX10_readHouse_198 : decode cX10_readHouse 198 = .ok (.invokestatic 66, 3) := by decide +kernel
theorem dX10_readHouse_201 : decode cX10_readHouse 201 = .ok (.iload 7, 2) := by decide +kernel
theorem dX10_readHouse_203 : decode cX10_readHouse 203 = .ok (.iastore, 1) := by decide +kernel
theorem dX10_readHouse_204 : decode cX10_readHouse 204 = .ok (.aload_n 0, 1) := by decide +kernel
theorem dX10_readHouse_205 : decode cX10_readHouse 205 = .ok (.getfield 13, 3) := by decide +kernel
theorem dX10_readHouse_208 : decode cX10_readHouse 208 = .ok (.iload_n 1, 1) := by decide +kernel
theorem dX10_readHouse_209 : decode cX10_readHouse 209 = .ok (.bipush 6, 2) := by decide +kernel
theorem dX10_readHouse_211 : decode cX10_readHouse 211 = .ok (.invokestatic 66, 3) := by decide +kernel
theorem dX10_readHouse_214 : decode cX10_readHouse 214 = .ok (.iconst 0, 1) := by decide +kernel
theorem dX10_readHouse_215 : decode cX10_readHouse 215 = .ok (.iastore, 1) := by decide +kernel
theorem dX10_readHouse_216 : decode cX10_readHouse 216 = .ok (.aload_n 0, 1) := by decide +kernel
theorem dX10_readHouse_217 : decode cX10_readHouse 217 = .ok (.getfield 13, 3) := by decide +kernel
theorem dX10_readHouse_220 : decode cX10_readHouse 220 = .ok (.iload_n 1, 1) := by decide +kernel
theorem dX10_readHouse_221 : decode cX10_readHouse 221 = .ok (.bipush 7, 2) := by decide +kernel
theorem dX10_readHouse_223 : decode cX10_readHouse 223 = .ok (.invokestatic 66, 3) := by decide +kernel
theorem dX10_readHouse_226 : decode cX10_readHouse 226 = .ok (.iconst 0, 1) := by decide +kernel
theorem dX10_readHouse_227 : decode cX10_readHouse 227 = .ok (.iastore, 1) := by decide +kernel
theorem dX10_readHouse_228 : decode cX10_readHouse 228 = .ok (.aload_n 0, 1) := by decide +kernel
theorem dX10_readHouse_229 : decode cX10_readHouse 229 = .ok (.getfield 13, 3) := by decide +kernel
theorem dX10_readHouse_232 : decode cX10_readHouse 232 = .ok (.iconst 0, 1) := by decide +kernel
theorem dX10_readHouse_233 : decode cX10_readHouse 233 = .ok (.dup2, 1) := by decide +kernel
theorem dX10_readHouse_234 : decode cX10_readHouse 234 = .ok (.iaload, 1) := by decide +kernel
theorem dX10_readHouse_235 : decode cX10_readHouse 235 = .ok (.iconst 1, 1) := by decide +kernel
theorem dX10_readHouse_236 : decode cX10_readHouse 236 = .ok (.iadd, 1) := by decide +kernel
theorem dX10_readHouse_237 : decode cX10_readHouse 237 = .ok (.iastore, 1) := by decide +kernel
theorem dX10_readHouse_238 : decode cX10_readHouse 238 = .ok (.iconst 1, 1) := by decide +kernel
theorem dX10_readHouse_239 : decode cX10_readHouse 239 = .ok (.ireturn, 1) := by decide +kernel
noncomputable def fX10_readHouse_j125 (V : VT) (u1 : Int32) (u2 : Int32) (u3 : Int32) (u4 : Int32) (u5 : Int32) (u6 : Int32) (t0 : Int32) : Option (Int32 × VT) := if 0 ≤ t0 then (ob_R (fX10_at V u1 (0 : Int32)) fun y22 => rd_ y22 1988 (lt_ (va_up V 76 (upd (V 76) y22.toNatClampNeg u2)) fun V24 => ob_R (fX10_at V24 u1 (1 : Int32)) fun y26 => rd_ y26 1988 (lt_ (va_up V24 76 (upd (V24 76) y26.toNatClampNeg u3)) fun V28 => ob_R (fX10_at V28 u1 (2 : Int32)) fun y30 => rd_ y30 1988 (lt_ (va_up V28 76 (upd (V28 76) y30.toNatClampNeg u4)) fun V32 => ob_R (fX10_at V32 u1 (3 : Int32)) fun y34 => rd_ y34 1988 (lt_ (va_up V32 76 (upd (V32 76) y34.toNatClampNeg u5)) fun V36 => ob_R (fX10_at V36 u1 (4 : Int32)) fun y38 => rd_ y38 1988 (lt_ (va_up V36 76 (upd (V36 76) y38.toNatClampNeg u6)) fun V40 => ob_R (fX10_at V40 u1 (5 : Int32)) fun y42 => rd_ y42 1988 (lt_ (va_up V40 76 (upd (V40 76) y42.toNatClampNeg t0)) fun V44 => ob_R (fX10_at V44 u1 (6 : Int32)) fun y46 => rd_ y46 1988 (lt_ (va_up V44 76 (upd (V44 76) y46.toNatClampNeg (0 : Int32))) fun V48 => ob_R (fX10_at V48 u1 (7 : Int32)) fun y50 => rd_ y50 1988 (lt_ (va_up V48 76 (upd (V48 76) y50.toNatClampNeg (0 : Int32))) fun V52 => rd_ (0 : Int32) 1988 (rd_ (0 : Int32) 1988 (lt_ (va_up V52 76 (upd (V52 76) (0 : Int32).toNatClampNeg ((V52 76 (0 : Int32).toNatClampNeg) + (1 : Int32)))) fun V55 => zo_ (1 : Int32) (some ((1 : Int32), V55))))))))))))) else (zo_ (0 : Int32) (some ((0 : Int32), V)))
noncomputable def fX10_readHouse_j96 (V : VT) (u1 : Int32) (u2 : Int32) (u3 : Int32) (u4 : Int32) (u5 : Int32) (t0 : Int32) : Option (Int32 × VT) := if 0 ≤ t0 then (ob_I (fX10_passes V 46) fun y19 V20 => if y19 = 0 then (fX10_readHouse_j125 V20 u1 u2 u3 u4 u5 t0 (0 : Int32)) else (ob_I (fX10_number V20 (0 : Int32) (9 : Int32)) fun y60 V61 => fX10_readHouse_j125 V61 u1 u2 u3 u4 u5 t0 y60)) else (zo_ (0 : Int32) (some ((0 : Int32), V)))
noncomputable def fX10_readHouse_j76 (V : VT) (u1 : Int32) (u2 : Int32) (u3 : Int32) (u4 : Int32) (t0 : Int32) : Option (Int32 × VT) := if 0 ≤ t0 then (ob_I (fX10_after V 45 (0 : Int32) (24 : Int32)) fun y16 V17 => fX10_readHouse_j96 V17 u1 u2 u3 u4 t0 y16) else (fX10_readHouse_j96 V u1 u2 u3 u4 t0 (-1 : Int32))
noncomputable def fX10_readHouse_j56 (V : VT) (u1 : Int32) (u2 : Int32) (u3 : Int32) (t0 : Int32) : Option (Int32 × VT) := if 0 ≤ t0 then (ob_I (fX10_after V 44 (0 : Int32) (23 : Int32)) fun y13 V14 => fX10_readHouse_j76 V14 u1 u2 u3 t0 y13) else (fX10_readHouse_j76 V u1 u2 u3 t0 (-1 : Int32))
noncomputable def fX10_readHouse_j38 (V : VT) (u1 : Int32) (u2 : Int32) (t0 : Int32) : Option (Int32 × VT) := if 0 ≤ t0 then (ob_I (fX10_after V 43 t0 (23 : Int32)) fun y10 V11 => fX10_readHouse_j56 V11 u1 u2 t0 y10) else (fX10_readHouse_j56 V u1 u2 t0 (-1 : Int32))
noncomputable def fX10_readHouse (V : VT) : Option (Int32 × VT) := ob_R (fX10_houses V ) fun y2 => if y2 = (8 : Int32) then (zo_ (0 : Int32) (some ((0 : Int32), V))) else (ob_I (fX10_number V (0 : Int32) (23 : Int32)) fun y4 V5 => if 0 ≤ y4 then (ob_I (fX10_after V5 42 (0 : Int32) (23 : Int32)) fun y7 V8 => fX10_readHouse_j38 V8 y2 y4 y7) else (fX10_readHouse_j38 V5 y2 y4 (-1 : Int32)))
set_option maxHeartbeats 4000000 in
set_option maxRecDepth 100000 in
theorem wX10_readHouse_j125 {p : Program} {l : Launch} {e : Env} {s : State} {m : MethodId} {args : Array Value} {below : List Frame} {meth : Method} {c : Code} {G : GT} {Z : Nat → Nat × Nat} {Q : State → Prop} (E : En p s m args c meth cX10_readHouse 8 RX10 (some .boolean) G (SG Z)) {V : VT} {u1 : Int32} {u2 : Int32} {u3 : Int32} {u4 : Int32} {u5 : Int32} {u6 : Int32} {t0 : Int32} {r : (Int32 × VT)} (h : fX10_readHouse_j125 V u1 u2 u3 u4 u5 u6 t0 = some r) (kr : Q = MQ below (QI G s.heap.size r.1 r.2) args s 0 0 (gA G s.heap.size)) {H : Heap} {locs : List Loc} {ls : Array Slot} (hw : HW G s.heap V H locs) (hl : lv_has ls 8 [(0, .ref (G.2.2 22)), (1, .int u1), (2, .int u2), (3, .int u3), (4, .int u4), (5, .int u5), (6, .int u6)]) : W p l e (rmD 7) s m args below meth c H locs 0 0 Q (F0 m 125 ls [.int t0]) := by
  have hx := en_x E
  have hb := en_b E
  have hB := en_B E
  unfold fX10_readHouse_j125 at h
  refine lv_istore (lv' := [(7, .int t0), (0, .ref (G.2.2 22)), (1, .int u1), (2, .int u2), (3, .int u3), (4, .int u4), (5, .int u5), (6, .int u6)]) hx hb dX10_readHouse_125 hl (by decide) rfl (fun ls hl => ?_)
  refine lv_iload hx hb dX10_readHouse_127 (lv_at hl 0 rfl) ?_
  refine lv_if_ge (tgt := 134) hx hb dX10_readHouse_129 (by decide) (fun c58 => ?_) (fun c58 => ?_)
  · rw [if_pos c58] at h
    refine lv_aload_n hx hb dX10_readHouse_134 rfl (lv_at hl 1 rfl) ?_
    refine r_gr E hw 22 1 76 (N := 29) (C := RX10) (T := TX10) (by decide) rfl rfl (by decide) rfl iw_10 rfl lf_RX10_13 dX10_readHouse_135 ?_
    refine lv_iload_n hx hb dX10_readHouse_138 rfl (lv_at hl 2 rfl) ?_
    refine lv_iconst (v := (0 : Int32)) hx hb dX10_readHouse_139 (by decide) ?_
    obtain ⟨y22, h21, h⟩ := ob_R_some h
    refine c_SI E hw (kX10_at (l := l) (G := G) hB  h21) yy_X10_at lm_RX10_66 rfl hl.1 (by decide) (by decide) rfl (Nat.le_of_ble_eq_true rfl) dX10_readHouse_140 (fun H locs hw => ?_)
    refine lv_iload_n hx hb dX10_readHouse_143 rfl (lv_at hl 3 rfl) ?_
    obtain ⟨b23, h⟩ := rd_some h
    obtain ⟨V24, eV24, h⟩ := lt_some h
    refine r_is E hw 76 1988 (by decide) (by decide) (by decide) rfl rfl b23 eV24 dX10_readHouse_144 (fun H locs hw => ?_)
    refine lv_aload_n hx hb dX10_readHouse_145 rfl (lv_at hl 1 rfl) ?_
    refine r_gr E hw 22 1 76 (N := 29) (C := RX10) (T := TX10) (by decide) rfl rfl (by decide) rfl iw_10 rfl lf_RX10_13 dX10_readHouse_146 ?_
    refine lv_iload_n hx hb dX10_readHouse_149 rfl (lv_at hl 2 rfl) ?_
    refine lv_iconst (v := (1 : Int32)) hx hb dX10_readHouse_150 (by decide) ?_
    obtain ⟨y26, h25, h⟩ := ob_R_some h
    refine c_SI E hw (kX10_at (l := l) (G := G) hB  h25) yy_X10_at lm_RX10_66 rfl hl.1 (by decide) (by decide) rfl (Nat.le_of_ble_eq_true rfl) dX10_readHouse_151 (fun H locs hw => ?_)
    refine lv_iload_n hx hb dX10_readHouse_154 rfl (lv_at hl 4 rfl) ?_
    obtain ⟨b27, h⟩ := rd_some h
    obtain ⟨V28, eV28, h⟩ := lt_some h
    refine r_is E hw 76 1988 (by decide) (by decide) (by decide) rfl rfl b27 eV28 dX10_readHouse_155 (fun H locs hw => ?_)
    refine lv_aload_n hx hb dX10_readHouse_156 rfl (lv_at hl 1 rfl) ?_
    refine r_gr E hw 22 1 76 (N := 29) (C := RX10) (T := TX10) (by decide) rfl rfl (by decide) rfl iw_10 rfl lf_RX10_13 dX10_readHouse_157 ?_
    refine lv_iload_n hx hb dX10_readHouse_160 rfl (lv_at hl 2 rfl) ?_
    refine lv_iconst (v := (2 : Int32)) hx hb dX10_readHouse_161 (by decide) ?_
    obtain ⟨y30, h29, h⟩ := ob_R_some h
    refine c_SI E hw (kX10_at (l := l) (G := G) hB  h29) yy_X10_at lm_RX10_66 rfl hl.1 (by decide) (by decide) rfl (Nat.le_of_ble_eq_true rfl) dX10_readHouse_162 (fun H locs hw => ?_)
    refine lv_iload hx hb dX10_readHouse_165 (lv_at hl 5 rfl) ?_
    obtain ⟨b31, h⟩ := rd_some h
    obtain ⟨V32, eV32, h⟩ := lt_some h
    refine r_is E hw 76 1988 (by decide) (by decide) (by decide) rfl rfl b31 eV32 dX10_readHouse_167 (fun H locs hw => ?_)
    refine lv_aload_n hx hb dX10_readHouse_168 rfl (lv_at hl 1 rfl) ?_
    refine r_gr E hw 22 1 76 (N := 29) (C := RX10) (T := TX10) (by decide) rfl rfl (by decide) rfl iw_10 rfl lf_RX10_13 dX10_readHouse_169 ?_
    refine lv_iload_n hx hb dX10_readHouse_172 rfl (lv_at hl 2 rfl) ?_
    refine lv_iconst (v := (3 : Int32)) hx hb dX10_readHouse_173 (by decide) ?_
    obtain ⟨y34, h33, h⟩ := ob_R_some h
    refine c_SI E hw (kX10_at (l := l) (G := G) hB  h33) yy_X10_at lm_RX10_66 rfl hl.1 (by decide) (by decide) rfl (Nat.le_of_ble_eq_true rfl) dX10_readHouse_174 (fun H locs hw => ?_)
    refine lv_iload hx hb dX10_readHouse_177 (lv_at hl 6 rfl) ?_
    obtain ⟨b35, h⟩ := rd_some h
    obtain ⟨V36, eV36, h⟩ := lt_some h
    refine r_is E hw 76 1988 (by decide) (by decide) (by decide) rfl rfl b35 eV36 dX10_readHouse_179 (fun H locs hw => ?_)
    refine lv_aload_n hx hb dX10_readHouse_180 rfl (lv_at hl 1 rfl) ?_
    refine r_gr E hw 22 1 76 (N := 29) (C := RX10) (T := TX10) (by decide) rfl rfl (by decide) rfl iw_10 rfl lf_RX10_13 dX10_readHouse_181 ?_
    refine lv_iload_n hx hb dX10_readHouse_184 rfl (lv_at hl 2 rfl) ?_
    refine lv_iconst (v := (4 : Int32)) hx hb dX10_readHouse_185 (by decide) ?_
    obtain ⟨y38, h37, h⟩ := ob_R_some h
    refine c_SI E hw (kX10_at (l := l) (G := G) hB  h37) yy_X10_at lm_RX10_66 rfl hl.1 (by decide) (by decide) rfl (Nat.le_of_ble_eq_true rfl) dX10_readHouse_186 (fun H locs hw => ?_)
    refine lv_iload hx hb dX10_readHouse_189 (lv_at hl 7 rfl) ?_
    obtain ⟨b39, h⟩ := rd_some h
    obtain ⟨V40, eV40, h⟩ := lt_some h
    refine r_is E hw 76 1988 (by decide) (by decide) (by decide) rfl rfl b39 eV40 dX10_readHouse_191 (fun H locs hw => ?_)
    refine lv_aload_n hx hb dX10_readHouse_192 rfl (lv_at hl 1 rfl) ?_
    refine r_gr E hw 22 1 76 (N := 29) (C := RX10) (T := TX10) (by decide) rfl rfl (by decide) rfl iw_10 rfl lf_RX10_13 dX10_readHouse_193 ?_
    refine lv_iload_n hx hb dX10_readHouse_196 rfl (lv_at hl 2 rfl) ?_
    refine lv_iconst (v := (5 : Int32)) hx hb dX10_readHouse_197 (by decide) ?_
    obtain ⟨y42, h41, h⟩ := ob_R_some h
    refine c_SI E hw (kX10_at (l := l) (G := G) hB  h41) yy_X10_at lm_RX10_66 rfl hl.1 (by decide) (by decide) rfl (Nat.le_of_ble_eq_true rfl) dX10_readHouse_198 (fun H locs hw => ?_)
    refine lv_iload hx hb dX10_readHouse_201 (lv_at hl 0 rfl) ?_
    obtain ⟨b43, h⟩ := rd_some h
    obtain ⟨V44, eV44, h⟩ := lt_some h
    refine r_is E hw 76 1988 (by decide) (by decide) (by decide) rfl rfl b43 eV44 dX10_readHouse_203 (fun H locs hw => ?_)
    refine lv_aload_n hx hb dX10_readHouse_204 rfl (lv_at hl 1 rfl) ?_
    refine r_gr E hw 22 1 76 (N := 29) (C := RX10) (T := TX10) (by decide) rfl rfl (by decide) rfl iw_10 rfl lf_RX10_13 dX10_readHouse_205 ?_
    refine lv_iload_n hx hb dX10_readHouse_208 rfl (lv_at hl 2 rfl) ?_
    refine lv_bipush (v := (6 : Int32)) hx hb dX10_readHouse_209 (by decide) ?_
    obtain ⟨y46, h45, h⟩ := ob_R_some h
    refine c_SI E hw (kX10_at (l := l) (G := G) hB  h45) yy_X10_at lm_RX10_66 rfl hl.1 (by decide) (by decide) rfl (Nat.le_of_ble_eq_true rfl) dX10_readHouse_211 (fun H locs hw => ?_)
    refine lv_iconst (v := (0 : Int32)) hx hb dX10_readHouse_214 (by decide) ?_
    obtain ⟨b47, h⟩ := rd_some h
    obtain ⟨V48, eV48, h⟩ := lt_some h
    refine r_is E hw 76 1988 (by decide) (by decide) (by decide) rfl rfl b47 eV48 dX10_readHouse_215 (fun H locs hw => ?_)
    refine lv_aload_n hx hb dX10_readHouse_216 rfl (lv_at hl 1 rfl) ?_
    refine r_gr E hw 22 1 76 (N := 29) (C := RX10) (T := TX10) (by decide) rfl rfl (by decide) rfl iw_10 rfl lf_RX10_13 dX10_readHouse_217 ?_
    refine lv_iload_n hx hb dX10_readHouse_220 rfl (lv_at hl 2 rfl) ?_
    refine lv_bipush (v := (7 : Int32)) hx hb dX10_readHouse_221 (by decide) ?_
    obtain ⟨y50, h49, h⟩ := ob_R_some h
    refine c_SI E hw (kX10_at (l := l) (G := G) hB  h49) yy_X10_at lm_RX10_66 rfl hl.1 (by decide) (by decide) rfl (Nat.le_of_ble_eq_true rfl) dX10_readHouse_223 (fun H locs hw => ?_)
    refine lv_iconst (v := (0 : Int32)) hx hb dX10_readHouse_226 (by decide) ?_
    obtain ⟨b51, h⟩ := rd_some h
    obtain ⟨V52, eV52, h⟩ := lt_some h
    refine r_is E hw 76 1988 (by decide) (by decide) (by decide) rfl rfl b51 eV52 dX10_readHouse_227 (fun H locs hw => ?_)
    refine lv_aload_n hx hb dX10_readHouse_228 rfl (lv_at hl 1 rfl) ?_
    refine r_gr E hw 22 1 76 (N := 29) (C := RX10) (T := TX10) (by decide) rfl rfl (by decide) rfl iw_10 rfl lf_RX10_13 dX10_readHouse_229 ?_
    refine lv_iconst (v := (0 : Int32)) hx hb dX10_readHouse_232 (by decide) ?_
    refine lv_dup2_11 hx hb dX10_readHouse_233 rfl rfl ?_
    obtain ⟨b53, h⟩ := rd_some h
    refine r_ia E hw 76 1988 (by decide) (by decide) (by decide) rfl rfl b53 dX10_readHouse_234 ?_
    refine lv_iconst (v := (1 : Int32)) hx hb dX10_readHouse_235 (by decide) ?_
    refine lv_iadd hx hb dX10_readHouse_236 ?_
    obtain ⟨b54, h⟩ := rd_some h
    obtain ⟨V55, eV55, h⟩ := lt_some h
    refine r_is E hw 76 1988 (by decide) (by decide) (by decide) rfl rfl b54 eV55 dX10_readHouse_237 (fun H locs hw => ?_)
    refine lv_iconst (v := (1 : Int32)) hx hb dX10_readHouse_238 (by decide) ?_
    obtain ⟨z56, h⟩ := zo_some h
    have h := Option.some.inj h
    subst h
    rw [kr]
    exact r_rz E hw z56 dX10_readHouse_239
  · rw [if_neg c58] at h
    refine lv_iconst (v := (0 : Int32)) hx hb dX10_readHouse_132 (by decide) ?_
    obtain ⟨z57, h⟩ := zo_some h
    have h := Option.some.inj h
    subst h
    rw [kr]
    exact r_rz E hw z57 dX10_readHouse_133
set_option maxHeartbeats 4000000 in
set_option maxRecDepth 100000 in
theorem wX10_readHouse_j96 {p : Program} {l : Launch} {e : Env} {s : State} {m : MethodId} {args : Array Value} {below : List Frame} {meth : Method} {c : Code} {G : GT} {Z : Nat → Nat × Nat} {Q : State → Prop} (E : En p s m args c meth cX10_readHouse 8 RX10 (some .boolean) G (SG Z)) {V : VT} {u1 : Int32} {u2 : Int32} {u3 : Int32} {u4 : Int32} {u5 : Int32} {t0 : Int32} {r : (Int32 × VT)} (h : fX10_readHouse_j96 V u1 u2 u3 u4 u5 t0 = some r) (kr : Q = MQ below (QI G s.heap.size r.1 r.2) args s 0 0 (gA G s.heap.size)) {H : Heap} {locs : List Loc} {ls : Array Slot} (hw : HW G s.heap V H locs) (hl : lv_has ls 8 [(0, .ref (G.2.2 22)), (1, .int u1), (2, .int u2), (3, .int u3), (4, .int u4), (5, .int u5)]) : W p l e (rmD 7) s m args below meth c H locs 0 0 Q (F0 m 96 ls [.int t0]) := by
  have hx := en_x E
  have hb := en_b E
  have hB := en_B E
  unfold fX10_readHouse_j96 at h
  refine lv_istore (lv' := [(6, .int t0), (0, .ref (G.2.2 22)), (1, .int u1), (2, .int u2), (3, .int u3), (4, .int u4), (5, .int u5)]) hx hb dX10_readHouse_96 hl (by decide) rfl (fun ls hl => ?_)
  refine lv_iload hx hb dX10_readHouse_98 (lv_at hl 0 rfl) ?_
  refine lv_if_ge (tgt := 105) hx hb dX10_readHouse_100 (by decide) (fun c64 => ?_) (fun c64 => ?_)
  · rw [if_pos c64] at h
    refine lv_aload_n hx hb dX10_readHouse_105 rfl (lv_at hl 1 rfl) ?_
    refine r_ls (w := 46) E (by decide) rfl rfl dX10_readHouse_106 ?_
    obtain ⟨y19, V20, h18, h⟩ := ob_I_some h
    refine c_VI E hw (kX10_passes (l := l) (G := G) (Z := Z) (by decide) h18) yy_X10_passes lm_RX10_136 rfl (by decide) rfl rfl hl.1 (by decide) (by decide) rfl (Nat.le_of_ble_eq_true rfl) dX10_readHouse_108 (fun H locs hw => ?_)
    refine lv_if_eq (tgt := 124) hx hb dX10_readHouse_111 (by decide) (fun c62 => ?_) (fun c62 => ?_)
    · rw [if_pos c62] at h
      refine lv_iconst (v := (0 : Int32)) hx hb dX10_readHouse_124 (by decide) ?_
      exact wX10_readHouse_j125 E h kr hw (lv_sub hl [1, 2, 3, 4, 5, 6, 0] rfl)
    · rw [if_neg c62] at h
      refine lv_aload_n hx hb dX10_readHouse_114 rfl (lv_at hl 1 rfl) ?_
      refine lv_iconst (v := (0 : Int32)) hx hb dX10_readHouse_115 (by decide) ?_
      refine lv_bipush (v := (9 : Int32)) hx hb dX10_readHouse_116 (by decide) ?_
      obtain ⟨y60, V61, h59, h⟩ := ob_I_some h
      refine c_VI E hw (kX10_number (l := l) (G := G) hB  h59) yy_X10_number lm_RX10_119 rfl (by decide) rfl rfl hl.1 (by decide) (by decide) rfl (Nat.le_of_ble_eq_true rfl) dX10_readHouse_118 (fun H locs hw => ?_)
      refine lv_goto (tgt := 125) hx hb dX10_readHouse_121 (by decide) ?_
      exact wX10_readHouse_j125 E h kr hw (lv_sub hl [1, 2, 3, 4, 5, 6, 0] rfl)
  · rw [if_neg c64] at h
    refine lv_iconst (v := (0 : Int32)) hx hb dX10_readHouse_103 (by decide) ?_
    obtain ⟨z63, h⟩ := zo_some h
    have h := Option.some.inj h
    subst h
    rw [kr]
    exact r_rz E hw z63 dX10_readHouse_104
set_option maxHeartbeats 4000000 in
set_option maxRecDepth 100000 in
theorem wX10_readHouse_j76 {p : Program} {l : Launch} {e : Env} {s : State} {m : MethodId} {args : Array Value} {below : List Frame} {meth : Method} {c : Code} {G : GT} {Z : Nat → Nat × Nat} {Q : State → Prop} (E : En p s m args c meth cX10_readHouse 8 RX10 (some .boolean) G (SG Z)) {V : VT} {u1 : Int32} {u2 : Int32} {u3 : Int32} {u4 : Int32} {t0 : Int32} {r : (Int32 × VT)} (h : fX10_readHouse_j76 V u1 u2 u3 u4 t0 = some r) (kr : Q = MQ below (QI G s.heap.size r.1 r.2) args s 0 0 (gA G s.heap.size)) {H : Heap} {locs : List Loc} {ls : Array Slot} (hw : HW G s.heap V H locs) (hl : lv_has ls 8 [(0, .ref (G.2.2 22)), (1, .int u1), (2, .int u2), (3, .int u3), (4, .int u4)]) : W p l e (rmD 7) s m args below meth c H locs 0 0 Q (F0 m 76 ls [.int t0]) := by
  have hx := en_x E
  have hb := en_b E
  have hB := en_B E
  unfold fX10_readHouse_j76 at h
  refine lv_istore (lv' := [(5, .int t0), (0, .ref (G.2.2 22)), (1, .int u1), (2, .int u2), (3, .int u3), (4, .int u4)]) hx hb dX10_readHouse_76 hl (by decide) rfl (fun ls hl => ?_)
  refine lv_iload hx hb dX10_readHouse_78 (lv_at hl 0 rfl) ?_
  refine lv_if_ge (tgt := 87) hx hb dX10_readHouse_80 (by decide) (fun c65 => ?_) (fun c65 => ?_)
  · rw [if_pos c65] at h
    refine lv_aload_n hx hb dX10_readHouse_87 rfl (lv_at hl 1 rfl) ?_
    refine r_ls (w := 45) E (by decide) rfl rfl dX10_readHouse_88 ?_
    refine lv_iconst (v := (0 : Int32)) hx hb dX10_readHouse_90 (by decide) ?_
    refine lv_bipush (v := (24 : Int32)) hx hb dX10_readHouse_91 (by decide) ?_
    obtain ⟨y16, V17, h15, h⟩ := ob_I_some h
    refine c_VI E hw (kX10_after (l := l) (G := G) (Z := Z) (by decide) h15) yy_X10_after lm_RX10_124 rfl (by decide) rfl rfl hl.1 (by decide) (by decide) rfl (Nat.le_of_ble_eq_true rfl) dX10_readHouse_93 (fun H locs hw => ?_)
    exact wX10_readHouse_j96 E h kr hw (lv_sub hl [1, 2, 3, 4, 5, 0] rfl)
  · rw [if_neg c65] at h
    refine lv_iconst (v := (-1 : Int32)) hx hb dX10_readHouse_83 (by decide) ?_
    refine lv_goto (tgt := 96) hx hb dX10_readHouse_84 (by decide) ?_
    exact wX10_readHouse_j96 E h kr hw (lv_sub hl [1, 2, 3, 4, 5, 0] rfl)
set_option maxHeartbeats 4000000 in
set_option maxRecDepth 100000 in
theorem wX10_readHouse_j56 {p : Program} {l : Launch} {e : Env} {s : State} {m : MethodId} {args : Array Value} {below : List Frame} {meth : Method} {c : Code} {G : GT} {Z : Nat → Nat × Nat} {Q : State → Prop} (E : En p s m args c meth cX10_readHouse 8 RX10 (some .boolean) G (SG Z)) {V : VT} {u1 : Int32} {u2 : Int32} {u3 : Int32} {t0 : Int32} {r : (Int32 × VT)} (h : fX10_readHouse_j56 V u1 u2 u3 t0 = some r) (kr : Q = MQ below (QI G s.heap.size r.1 r.2) args s 0 0 (gA G s.heap.size)) {H : Heap} {locs : List Loc} {ls : Array Slot} (hw : HW G s.heap V H locs) (hl : lv_has ls 8 [(0, .ref (G.2.2 22)), (1, .int u1), (2, .int u2), (3, .int u3)]) : W p l e (rmD 7) s m args below meth c H locs 0 0 Q (F0 m 56 ls [.int t0]) := by
  have hx := en_x E
  have hb := en_b E
  have hB := en_B E
  unfold fX10_readHouse_j56 at h
  refine lv_istore (lv' := [(4, .int t0), (0, .ref (G.2.2 22)), (1, .int u1), (2, .int u2), (3, .int u3)]) hx hb dX10_readHouse_56 hl (by decide) rfl (fun ls hl => ?_)
  refine lv_iload hx hb dX10_readHouse_58 (lv_at hl 0 rfl) ?_
  refine lv_if_ge (tgt := 67) hx hb dX10_readHouse_60 (by decide) (fun c66 => ?_) (fun c66 => ?_)
  · rw [if_pos c66] at h
    refine lv_aload_n hx hb dX10_readHouse_67 rfl (lv_at hl 1 rfl) ?_
    refine r_ls (w := 44) E (by decide) rfl rfl dX10_readHouse_68 ?_
    refine lv_iconst (v := (0 : Int32)) hx hb dX10_readHouse_70 (by decide) ?_
    refine lv_bipush (v := (23 : Int32)) hx hb dX10_readHouse_71 (by decide) ?_
    obtain ⟨y13, V14, h12, h⟩ := ob_I_some h
    refine c_VI E hw (kX10_after (l := l) (G := G) (Z := Z) (by decide) h12) yy_X10_after lm_RX10_124 rfl (by decide) rfl rfl hl.1 (by decide) (by decide) rfl (Nat.le_of_ble_eq_true rfl) dX10_readHouse_73 (fun H locs hw => ?_)
    exact wX10_readHouse_j76 E h kr hw (lv_sub hl [1, 2, 3, 4, 0] rfl)
  · rw [if_neg c66] at h
    refine lv_iconst (v := (-1 : Int32)) hx hb dX10_readHouse_63 (by decide) ?_
    refine lv_goto (tgt := 76) hx hb dX10_readHouse_64 (by decide) ?_
    exact wX10_readHouse_j76 E h kr hw (lv_sub hl [1, 2, 3, 4, 0] rfl)
set_option maxHeartbeats 4000000 in
set_option maxRecDepth 100000 in
theorem wX10_readHouse_j38 {p : Program} {l : Launch} {e : Env} {s : State} {m : MethodId} {args : Array Value} {below : List Frame} {meth : Method} {c : Code} {G : GT} {Z : Nat → Nat × Nat} {Q : State → Prop} (E : En p s m args c meth cX10_readHouse 8 RX10 (some .boolean) G (SG Z)) {V : VT} {u1 : Int32} {u2 : Int32} {t0 : Int32} {r : (Int32 × VT)} (h : fX10_readHouse_j38 V u1 u2 t0 = some r) (kr : Q = MQ below (QI G s.heap.size r.1 r.2) args s 0 0 (gA G s.heap.size)) {H : Heap} {locs : List Loc} {ls : Array Slot} (hw : HW G s.heap V H locs) (hl : lv_has ls 8 [(0, .ref (G.2.2 22)), (1, .int u1), (2, .int u2)]) : W p l e (rmD 7) s m args below meth c H locs 0 0 Q (F0 m 38 ls [.int t0]) := by
  have hx := en_x E
  have hb := en_b E
  have hB := en_B E
  unfold fX10_readHouse_j38 at h
  refine lv_istore_n (lv' := [(3, .int t0), (0, .ref (G.2.2 22)), (1, .int u1), (2, .int u2)]) hx hb dX10_readHouse_38 rfl hl (by decide) rfl (fun ls hl => ?_)
  refine lv_iload_n hx hb dX10_readHouse_39 rfl (lv_at hl 0 rfl) ?_
  refine lv_if_ge (tgt := 47) hx hb dX10_readHouse_40 (by decide) (fun c67 => ?_) (fun c67 => ?_)
  · rw [if_pos c67] at h
    refine lv_aload_n hx hb dX10_readHouse_47 rfl (lv_at hl 1 rfl) ?_
    refine r_ls (w := 43) E (by decide) rfl rfl dX10_readHouse_48 ?_
    refine lv_iload_n hx hb dX10_readHouse_50 rfl (lv_at hl 0 rfl) ?_
    refine lv_bipush (v := (23 : Int32)) hx hb dX10_readHouse_51 (by decide) ?_
    obtain ⟨y10, V11, h9, h⟩ := ob_I_some h
    refine c_VI E hw (kX10_after (l := l) (G := G) (Z := Z) (by decide) h9) yy_X10_after lm_RX10_124 rfl (by decide) rfl rfl hl.1 (by decide) (by decide) rfl (Nat.le_of_ble_eq_true rfl) dX10_readHouse_53 (fun H locs hw => ?_)
    exact wX10_readHouse_j56 E h kr hw (lv_sub hl [1, 2, 3, 0] rfl)
  · rw [if_neg c67] at h
    refine lv_iconst (v := (-1 : Int32)) hx hb dX10_readHouse_43 (by decide) ?_
    refine lv_goto (tgt := 56) hx hb dX10_readHouse_44 (by decide) ?_
    exact wX10_readHouse_j56 E h kr hw (lv_sub hl [1, 2, 3, 0] rfl)
set_option maxHeartbeats 4000000 in
set_option maxRecDepth 100000 in
theorem kX10_readHouse {l : Launch} {G : GT} {Z : Nat → Nat × Nat} {V : VT} {r : (Int32 × VT)} (h : fX10_readHouse V = some r) : CI l G (SG Z) yX10_readHouse (.code yX10_readHouse cX10_readHouse 8 (some .boolean)) 7 [.ref (G.2.2 22)] V r.1 r.2 := by
  intro sz
  refine met_of (Qs := fun sz => QI G sz (r.1) (r.2)) (SG_ok Z) (by decide) (Nat.le_of_ble_eq_true rfl) ?_ sz
  intro p e s m args below meth c ls E hw hl
  have hx := en_x E
  have hb := en_b E
  have hB := en_B E
  generalize hQ : MQ _ _ _ _ _ _ _ = Q
  have kr : Q = MQ below (QI G s.heap.size r.1 r.2) args s 0 0 (gA G s.heap.size) := hQ.symm
  have hl : lv_has ls 8 [(0, .ref (G.2.2 22))] := hl
  obtain ⟨H, eH⟩ : ∃ H, H = s.heap := ⟨_, rfl⟩
  obtain ⟨locs, elocs⟩ : ∃ z : List Loc, z = [] := ⟨_, rfl⟩
  have hw : HW G s.heap V H locs := by rw [eH, elocs]; exact hw
  show W p l e _ s m args below meth c s.heap [] 0 0 Q (F0 m 0 ls [])
  rw [← eH, ← elocs]
  unfold fX10_readHouse at h
  refine lv_aload_n hx hb dX10_readHouse_0 rfl (lv_at hl 0 rfl) ?_
  obtain ⟨y2, h1, h⟩ := ob_R_some h
  refine c_VI E hw (kX10_houses (l := l) (G := G) hB  h1) yy_X10_houses lm_RX10_62 rfl (by decide) rfl rfl hl.1 (by decide) (by decide) rfl (Nat.le_of_ble_eq_true rfl) dX10_readHouse_1 (fun H locs hw => ?_)
  refine lv_istore_n (lv' := [(1, .int y2), (0, .ref (G.2.2 22))]) hx hb dX10_readHouse_4 rfl hl (by decide) rfl (fun ls hl => ?_)
  refine lv_iload_n hx hb dX10_readHouse_5 rfl (lv_at hl 0 rfl) ?_
  refine lv_bipush (v := (8 : Int32)) hx hb dX10_readHouse_6 (by decide) ?_
  refine lv_icmp_ne (tgt := 13) hx hb dX10_readHouse_8 (by decide) (fun c70 => ?_) (fun c70 => ?_)
  · rw [if_neg c70] at h
    refine lv_aload_n hx hb dX10_readHouse_13 rfl (lv_at hl 1 rfl) ?_
    refine lv_iconst (v := (0 : Int32)) hx hb dX10_readHouse_14 (by decide) ?_
    refine lv_bipush (v := (23 : Int32)) hx hb dX10_readHouse_15 (by decide) ?_
    obtain ⟨y4, V5, h3, h⟩ := ob_I_some h
    refine c_VI E hw (kX10_number (l := l) (G := G) hB  h3) yy_X10_number lm_RX10_119 rfl (by decide) rfl rfl hl.1 (by decide) (by decide) rfl (Nat.le_of_ble_eq_true rfl) dX10_readHouse_17 (fun H locs hw => ?_)
    refine lv_istore_n (lv' := [(2, .int y4), (1, .int y2), (0, .ref (G.2.2 22))]) hx hb dX10_readHouse_20 rfl hl (by decide) rfl (fun ls hl => ?_)
    refine lv_iload_n hx hb dX10_readHouse_21 rfl (lv_at hl 0 rfl) ?_
    refine lv_if_ge (tgt := 29) hx hb dX10_readHouse_22 (by decide) (fun c68 => ?_) (fun c68 => ?_)
    · rw [if_pos c68] at h
      refine lv_aload_n hx hb dX10_readHouse_29 rfl (lv_at hl 2 rfl) ?_
      refine r_ls (w := 42) E (by decide) rfl rfl dX10_readHouse_30 ?_
      refine lv_iconst (v := (0 : Int32)) hx hb dX10_readHouse_32 (by decide) ?_
      refine lv_bipush (v := (23 : Int32)) hx hb dX10_readHouse_33 (by decide) ?_
      obtain ⟨y7, V8, h6, h⟩ := ob_I_some h
      refine c_VI E hw (kX10_after (l := l) (G := G) (Z := Z) (by decide) h6) yy_X10_after lm_RX10_124 rfl (by decide) rfl rfl hl.1 (by decide) (by decide) rfl (Nat.le_of_ble_eq_true rfl) dX10_readHouse_35 (fun H locs hw => ?_)
      exact wX10_readHouse_j38 E h kr hw (lv_sub hl [2, 1, 0] rfl)
    · rw [if_neg c68] at h
      refine lv_iconst (v := (-1 : Int32)) hx hb dX10_readHouse_25 (by decide) ?_
      refine lv_goto (tgt := 38) hx hb dX10_readHouse_26 (by decide) ?_
      exact wX10_readHouse_j38 E h kr hw (lv_sub hl [2, 1, 0] rfl)
  · rw [if_pos c70] at h
    refine lv_iconst (v := (0 : Int32)) hx hb dX10_readHouse_11 (by decide) ?_
    obtain ⟨z69, h⟩ := zo_some h
    have h := Option.some.inj h
    subst h
    rw [kr]
    exact r_rz E hw z69 dX10_readHouse_12
/-! ===== AllSawItModel.readDeed()Z ===== -/
theorem dX10_readDeed_0 : decode cX10_readDeed 0 = .ok (.aload_n 0, 1) := by decide +kernel
theorem dX10_readDeed_1 : decode cX10_readDeed 1 = .ok (.invokevirtual 80, 3) := by decide +kernel
theorem dX10_readDeed_4 : decode cX10_readDeed 4 = .ok (.istore_n 1, 1) := by decide +kernel
theorem dX10_readDeed_5 : decode cX10_readDeed 5 = .ok (.iload_n 1, 1) := by decide +kernel
theorem dX10_readDeed_6 : decode cX10_readDeed 6 = .ok (.bipush 10, 2) := by decide +kernel
theorem dX10_readDeed_8 : decode cX10_readDeed 8 = .ok (.if_icmp .ne 5, 3) := by decide +kernel
theorem dX10_readDeed_11 : decode cX10_readDeed 11 = .ok (.iconst 0, 1) := by decide +kernel
theorem dX10_readDeed_12 : decode cX10_readDeed 12 = .ok (.ireturn, 1) := by decide +kernel
theorem dX10_readDeed_13 : decode cX10_readDeed 13 = .ok (.aload_n 0, 1) := by decide +kernel
theorem dX10_readDeed_14 : decode cX10_readDeed 14 = .ok (.iconst 0, 1) := by decide +kernel
theorem dX10_readDeed_15 : decode cX10_readDeed 15 = .ok (.bipush 23, 2) := by decide +kernel
theorem dX10_readDeed_17 : decode cX10_readDeed 17 = .ok (.invokevirtual 119, 3) := by decide +kernel
theorem dX10_readDeed_20 : decode cX10_readDeed 20 = .ok (.istore_n 2, 1) := by decide +kernel
theorem dX10_readDeed_21 : decode cX10_readDeed 21 = .ok (.iload_n 2, 1) := by decide +kernel
theorem dX10_readDeed_22 : decode cX10_readDeed 22 = .ok (.ifCond .ge 7, 3) := by decide +kernel
theorem dX10_readDeed_25 : decode cX10_readDeed 25 = .ok (.iconst (-1), 1) := by decide +kernel
theorem dX10_readDeed_26 : decode cX10_readDeed 26 = .ok (.goto 12, 3) := by decide +kernel
theorem dX10_readDeed_29 : decode cX10_readDeed 29 = .ok (.aload_n 0, 1) := by decide +kernel
theorem dX10_readDeed_30 : decode cX10_readDeed 30 = .ok (.ldc 139, 2) := by decide +kernel
theorem dX10_readDeed_32 : decode cX10_readDeed 32 = .ok (.iconst 0, 1) := by decide +kernel
theorem dX10_readDeed_33 : decode cX10_readDeed 33 = .ok (.bipush 23, 2) := by decide +kernel
theorem dX10_readDeed_35 : decode cX10_readDeed 35 = .ok (.invokevirtual 124, 3) := by decide +kernel
theorem dX10_readDeed_38 : decode cX10_readDeed 38 = .ok (.istore_n 3, 1) := by decide +kernel
theorem dX10_readDeed_39 : decode cX10_readDeed 39 = .ok (.iload_n 3, 1) := by decide +kernel
theorem dX10_readDeed_40 : decode cX10_readDeed 40 = .ok (.ifCond .ge 5, 3) := by decide +kernel
theorem dX10_readDeed_43 : decode cX10_readDeed 43 = .ok (.iconst 0, 1) := by decide +kernel
theorem dX10_readDeed_44 : decode cX10_readDeed 44 = .ok (.ireturn, 1) := by decide +kernel
theorem dX10_readDeed_45 : decode cX10_readDeed 45 = .ok (.aload_n 0, 1) := by decide +kernel
theorem dX10_readDeed_46 : decode cX10_readDeed 46 = .ok (.ldc 140, 2) := by decide +kernel
theorem dX10_readDeed_48 : decode cX10_readDeed 48 = .ok (.invokevirtual 136, 3) := by decide +kernel
theorem dX10_readDeed_51 : decode cX10_readDeed 51 = .ok (.istore 4, 2) := by decide +kernel
theorem dX10_readDeed_53 : decode cX10_readDeed 53 = .ok (.iload 4, 2) := by decide +kernel
theorem dX10_readDeed_55 : decode cX10_readDeed 55 = .ok (.ifCond .eq 14, 3) := by decide +kernel
theorem dX10_readDeed_58 : decode cX10_readDeed 58 = .ok (.aload_n 0, 1) := by decide +kernel
theorem dX10_readDeed_59 : decode cX10_readDeed 59 = .ok (.iconst 0, 1) := by decide +kernel
theorem dX10_readDeed_60 : decode cX10_readDeed 60 = .ok (.iload_n 1, 1) := by decide +kernel
theorem dX10_readDeed_61 : decode cX10_readDeed 61 = .ok (.iconst 1, 1) := by decide +kernel
theorem dX10_readDeed_62 : decode cX10_readDeed 62 = .ok (.isub, 1) := by decide +kernel
theorem dX10_readDeed_63 : decode cX10_readDeed 63 = .ok (.invokevirtual 119, 3) := by decide +kernel
theorem dX10_readDeed_66 : decode cX10_readDeed 66 = .ok (.goto 4, 3) := by decide +kernel
theorem dX10_readDeed_69 : decode cX10_readDeed 69 = .ok (.iconst (-1), 1) := by decide +kernel
theorem dX10_readDeed_70 : decode cX10_readDeed 70 = .ok (.istore 5, 2) := by decide +kernel
theorem dX10_readDeed_72 : decode cX10_readDeed 72 = .ok (.iload 4, 2) := by decide +kernel
theorem dX10_readDeed_74 : decode cX10_readDeed 74 = .ok (.ifCond .eq 10, 3) := by decide +kernel
theorem dX10_readDeed_77 : decode cX10_readDeed 77 = .ok (.iload 5, 2) := by decide +kernel
theorem dX10_readDeed_79 : decode cX10_readDeed 79 = .ok (.ifCond .ge 5, 3) := by decide +kernel
theorem dX10_readDeed_82 : decode cX10_readDeed 82 = .ok (.iconst 0, 1) := by decide +kernel
theorem dX10_readDeed_83 : decode cX10_readDeed 83 = .ok (.ireturn, 1) := by decide +kernel
theorem dX10_readDeed_84 : decode cX10_readDeed 84 = .ok (.aload_n 0, 1) := by decide +kernel
theorem dX10_readDeed_85 : decode cX10_readDeed 85 = .ok (.getfield 13, 3) := by decide +kernel
theorem dX10_readDeed_88 : decode cX10_readDeed 88 = .ok (.iload_n 1, 1) := by decide +kernel
theorem dX10_readDeed_89 : decode cX10_readDeed 89 = .ok (.iconst 0, 1) := by decide +kernel
theorem dX10_readDeed_90 : decode cX10_readDeed 90 = .ok (.invokestatic 70, 3) := by decide +kernel
theorem dX10_readDeed_93 : decode cX10_readDeed 93 = .ok (.iload_n 2, 1) := by decide +kernel
theorem dX10_readDeed_94 : decode cX10_readDeed 94 = .ok (.iastore, 1) := by decide +kernel
theorem dX10_readDeed_95 : decode cX10_readDeed 95 = .ok (.aload_n 0, 1) := by decide +kernel
theorem dX10_readDeed_96 : decode cX10_readDeed 96 = .ok (.getfield 13, 3) := by decide +kernel
theorem dX10_readDeed_99 : decode cX10_readDeed 99 = .ok (.iload_n 1, 1) := by decide +kernel
theorem dX10_readDeed_100 : decode cX10_readDeed 100 = .ok (.iconst 1, 1) := by decide +kernel
theorem dX10_readDeed_101 : decode cX10_readDeed 101 = .ok (.invokestatic 70, 3) := by decide +kernel
theorem dX10_readDeed_104 : decode cX10_readDeed 104 = .ok (.iload_n 3, 1) := by decide +kernel
theorem dX10_readDeed_105 : decode cX10_readDeed 105 = .ok (.iastore, 1) := by decide +kernel
theorem dX10_readDeed_106 : decode cX10_readDeed 106 = .ok (.aload_n 0, 1) := by decide +kernel
theorem dX10_readDeed_107 : decode cX10_readDeed 107 = .ok (.getfield 13, 3) := by decide +kernel
theorem dX10_readDeed_110 : decode cX10_readDeed 110 = .ok (.iload_n 1, 1) := by decide +kernel
theorem dX10_readDeed_111 : decode cX10_readDeed 111 = .ok (.iconst 2, 1) := by decide +kernel
theorem dX10_readDeed_112 : decode cX10_readDeed 112 = .ok (.invokestatic 70, 3) := by decide +kernel
theorem dX10_readDeed_115 : decode cX10_readDeed 115 = .ok (.iload 5, 2) := by decide +kernel
theorem dX10_readDeed_117 : decode cX10_readDeed 117 = .ok (.iastore, 1) := by decide +kernel
theorem dX10_readDeed_118 : decode cX10_readDeed 118 = .ok (.aload_n 0, 1) := by decide +kernel
theorem dX10_readDeed_119 : decode cX10_readDeed 119 = .ok (.getfield 13, 3) := by decide +kernel
theorem dX10_readDeed_122 : decode cX10_readDeed 122 = .ok (.iload_n 1, 1) := by decide +kernel
theorem dX10_readDeed_123 : decode cX10_readDeed 123 = .ok (.iconst 3, 1) := by decide +kernel
theorem dX10_readDeed_124 : decode cX10_readDeed 124 = .ok (.invokestatic 70, 3) := by decide +kernel
theorem dX10_readDeed_127 : decode cX10_readDeed 127 = .ok (.iconst 0, 1) := by decide +kernel
theorem dX10_readDeed_128 : decode cX10_readDeed 128 = .ok (.iastore, 1) := by decide +kernel
theorem dX10_readDeed_129 : decode cX10_readDeed 129 = .ok (.aload_n 0, 1) := by decide +kernel
theorem dX10_readDeed_130 : decode cX10_readDeed 130 = .ok (.getfield 13, 3) := by decide +kernel
theorem dX10_readDeed_133 : decode cX10_readDeed 133 = .ok (.iload_n 1, 1) := by decide +kernel
theorem dX10_readDeed_134 : decode cX10_readDeed 134 = .ok (.iconst 4, 1) := by decide +kernel
theorem dX10_readDeed_135 : decode cX10_readDeed 135 = .ok (.invokestatic 70, 3) := by decide +kernel
theorem dX10_readDeed_138 : decode cX10_readDeed 138 = .ok (.iconst 0, 1) := by decide +kernel
theorem dX10_readDeed_139 : decode cX10_readDeed 139 = .ok (.iastore, 1) := by decide +kernel
theorem dX10_readDeed_140 : decode cX10_readDeed 140 = .ok (.aload_n 0, 1) := by decide +kernel
theorem dX10_readDeed_141 : decode cX10_readDeed 141 = .ok (.getfield 13, 3) := by decide +kernel
theorem dX10_readDeed_144 : decode cX10_readDeed 144 = .ok (.iload_n 1, 1) := by decide +kernel
theorem dX10_readDeed_145 : decode cX10_readDeed 145 = .ok (.iconst 5, 1) := by decide +kernel
theorem dX10_readDeed_146 : decode cX10_readDeed 146 = .ok (.invokestatic 70, 3) := by decide +kernel
theorem dX10_readDeed_149 : decode cX10_readDeed 149 = .ok (.iconst 0, 1) := by decide +kernel
theorem dX10_readDeed_150 : decode cX10_readDeed 150 = .ok (.iastore, 1) := by decide +kernel
theorem dX10_readDeed_151 : decode cX10_readDeed 151 = .ok (.aload_n 0, 1) := by decide +kernel
theorem dX10_readDeed_152 : decode cX10_readDeed 152 = .ok (.getfield 13, 3) := by decide +kernel
theorem dX10_readDeed_155 : decode cX10_readDeed 155 = .ok (.iconst 1, 1) := by decide +kernel
theorem dX10_readDeed_156 : decode cX10_readDeed 156 = .ok (.dup2, 1) := by decide +kernel
theorem dX10_readDeed_157 : decode cX10_readDeed 157 = .ok (.iaload, 1) := by decide +kernel
theorem dX10_readDeed_158 : decode cX10_readDeed 158 = .ok (.iconst 1, 1) := by decide +kernel
theorem dX10_readDeed_159 : decode cX10_readDeed 159 = .ok (.iadd, 1) := by decide +kernel
theorem dX10_readDeed_160 : decode cX10_readDeed 160 = .ok (.iastore, 1) := by decide +kernel
theorem dX10_readDeed_161 : decode cX10_readDeed 161 = .ok (.iconst 1, 1) := by decide +kernel
theorem dX10_readDeed_162 : decode cX10_readDeed 162 = .ok (.ireturn, 1) := by decide +kernel
noncomputable def fX10_readDeed_j84 (V : VT) (u1 : Int32) (u2 : Int32) (u3 : Int32) (u5 : Int32) : Option (Int32 × VT) := ob_R (fX10_deedAt V u1 (0 : Int32)) fun y13 => rd_ y13 1988 (lt_ (va_up V 76 (upd (V 76) y13.toNatClampNeg u2)) fun V15 => ob_R (fX10_deedAt V15 u1 (1 : Int32)) fun y17 => rd_ y17 1988 (lt_ (va_up V15 76 (upd (V15 76) y17.toNatClampNeg u3)) fun V19 => ob_R (fX10_deedAt V19 u1 (2 : Int32)) fun y21 => rd_ y21 1988 (lt_ (va_up V19 76 (upd (V19 76) y21.toNatClampNeg u5)) fun V23 => ob_R (fX10_deedAt V23 u1 (3 : Int32)) fun y25 => rd_ y25 1988 (lt_ (va_up V23 76 (upd (V23 76) y25.toNatClampNeg (0 : Int32))) fun V27 => ob_R (fX10_deedAt V27 u1 (4 : Int32)) fun y29 => rd_ y29 1988 (lt_ (va_up V27 76 (upd (V27 76) y29.toNatClampNeg (0 : Int32))) fun V31 => ob_R (fX10_deedAt V31 u1 (5 : Int32)) fun y33 => rd_ y33 1988 (lt_ (va_up V31 76 (upd (V31 76) y33.toNatClampNeg (0 : Int32))) fun V35 => rd_ (1 : Int32) 1988 (rd_ (1 : Int32) 1988 (lt_ (va_up V35 76 (upd (V35 76) (1 : Int32).toNatClampNeg ((V35 76 (1 : Int32).toNatClampNeg) + (1 : Int32)))) fun V38 => zo_ (1 : Int32) (some ((1 : Int32), V38))))))))))
noncomputable def fX10_readDeed_j70 (V : VT) (u1 : Int32) (u2 : Int32) (u3 : Int32) (u4 : Int32) (t0 : Int32) : Option (Int32 × VT) := if u4 = 0 then (fX10_readDeed_j84 V u1 u2 u3 t0) else (if 0 ≤ t0 then (fX10_readDeed_j84 V u1 u2 u3 t0) else (zo_ (0 : Int32) (some ((0 : Int32), V))))
noncomputable def fX10_readDeed_j38 (V : VT) (u1 : Int32) (u2 : Int32) (t0 : Int32) : Option (Int32 × VT) := if 0 ≤ t0 then (ob_I (fX10_passes V 48) fun y10 V11 => if y10 = 0 then (fX10_readDeed_j70 V11 u1 u2 t0 y10 (-1 : Int32)) else (ob_I (fX10_number V11 (0 : Int32) (u1 - (1 : Int32))) fun y44 V45 => fX10_readDeed_j70 V45 u1 u2 t0 y10 y44)) else (zo_ (0 : Int32) (some ((0 : Int32), V)))
noncomputable def fX10_readDeed (V : VT) : Option (Int32 × VT) := ob_R (fX10_deeds V ) fun y2 => if y2 = (10 : Int32) then (zo_ (0 : Int32) (some ((0 : Int32), V))) else (ob_I (fX10_number V (0 : Int32) (23 : Int32)) fun y4 V5 => if 0 ≤ y4 then (ob_I (fX10_after V5 47 (0 : Int32) (23 : Int32)) fun y7 V8 => fX10_readDeed_j38 V8 y2 y4 y7) else (fX10_readDeed_j38 V5 y2 y4 (-1 : Int32)))
set_option maxHeartbeats 4000000 in
set_option maxRecDepth 100000 in
theorem wX10_readDeed_j84 {p : Program} {l : Launch} {e : Env} {s : State} {m : MethodId} {args : Array Value} {below : List Frame} {meth : Method} {c : Code} {G : GT} {Z : Nat → Nat × Nat} {Q : State → Prop} (E : En p s m args c meth cX10_readDeed 6 RX10 (some .boolean) G (SG Z)) {V : VT} {u1 : Int32} {u2 : Int32} {u3 : Int32} {u5 : Int32} {r : (Int32 × VT)} (h : fX10_readDeed_j84 V u1 u2 u3 u5 = some r) (kr : Q = MQ below (QI G s.heap.size r.1 r.2) args s 0 0 (gA G s.heap.size)) {H : Heap} {locs : List Loc} {ls : Array Slot} (hw : HW G s.heap V H locs) (hl : lv_has ls 6 [(0, .ref (G.2.2 22)), (1, .int u1), (2, .int u2), (3, .int u3), (5, .int u5)]) : W p l e (rmD 7) s m args below meth c H locs 0 0 Q (F0 m 84 ls []) := by
  have hx := en_x E
  have hb := en_b E
  have hB := en_B E
  unfold fX10_readDeed_j84 at h
  refine lv_aload_n hx hb dX10_readDeed_84 rfl (lv_at hl 0 rfl) ?_
  refine r_gr E hw 22 1 76 (N := 29) (C := RX10) (T := TX10) (by decide) rfl rfl (by decide) rfl iw_10 rfl lf_RX10_13 dX10_readDeed_85 ?_
  refine lv_iload_n hx hb dX10_readDeed_88 rfl (lv_at hl 1 rfl) ?_
  refine lv_iconst (v := (0 : Int32)) hx hb dX10_readDeed_89 (by decide) ?_
  obtain ⟨y13, h12, h⟩ := ob_R_some h
  refine c_SI E hw (kX10_deedAt (l := l) (G := G) hB  h12) yy_X10_deedAt lm_RX10_70 rfl hl.1 (by decide) (by decide) rfl (Nat.le_of_ble_eq_true rfl) dX10_readDeed_90 (fun H locs hw => ?_)
  refine lv_iload_n hx hb dX10_readDeed_93 rfl (lv_at hl 2 rfl) ?_
  obtain ⟨b14, h⟩ := rd_some h
  obtain ⟨V15, eV15, h⟩ := lt_some h
  refine r_is E hw 76 1988 (by decide) (by decide) (by decide) rfl rfl b14 eV15 dX10_readDeed_94 (fun H locs hw => ?_)
  refine lv_aload_n hx hb dX10_readDeed_95 rfl (lv_at hl 0 rfl) ?_
  refine r_gr E hw 22 1 76 (N := 29) (C := RX10) (T := TX10) (by decide) rfl rfl (by decide) rfl iw_10 rfl lf_RX10_13 dX10_readDeed_96 ?_
  refine lv_iload_n hx hb dX10_readDeed_99 rfl (lv_at hl 1 rfl) ?_
  refine lv_iconst (v := (1 : Int32)) hx hb dX10_readDeed_100 (by decide) ?_
  obtain ⟨y17, h16, h⟩ := ob_R_some h
  refine c_SI E hw (kX10_deedAt (l := l) (G := G) hB  h16) yy_X10_deedAt lm_RX10_70 rfl hl.1 (by decide) (by decide) rfl (Nat.le_of_ble_eq_true rfl) dX10_readDeed_101 (fun H locs hw => ?_)
  refine lv_iload_n hx hb dX10_readDeed_104 rfl (lv_at hl 3 rfl) ?_
  obtain ⟨b18, h⟩ := rd_some h
  obtain ⟨V19, eV19, h⟩ := lt_some h
  refine r_is E hw 76 1988 (by decide) (by decide) (by decide) rfl rfl b18 eV19 dX10_readDeed_105 (fun H locs hw => ?_)
  refine lv_aload_n hx hb dX10_readDeed_106 rfl (lv_at hl 0 rfl) ?_
  refine r_gr E hw 22 1 76 (N := 29) (C := RX10) (T := TX10) (by decide) rfl rfl (by decide) rfl iw_10 rfl lf_RX10_13 dX10_readDeed_107 ?_
  refine lv_iload_n hx hb dX10_readDeed_110 rfl (lv_at hl 1 rfl) ?_
  refine lv_iconst (v := (2 : Int32)) hx hb dX10_readDeed_111 (by decide) ?_
  obtain ⟨y21, h20, h⟩ := ob_R_some h
  refine c_SI E hw (kX10_deedAt (l := l) (G := G) hB  h20) yy_X10_deedAt lm_RX10_70 rfl hl.1 (by decide) (by decide) rfl (Nat.le_of_ble_eq_true rfl) dX10_readDeed_112 (fun H locs hw => ?_)
  refine lv_iload hx hb dX10_readDeed_115 (lv_at hl 4 rfl) ?_
  obtain ⟨b22, h⟩ := rd_some h
  obtain ⟨V23, eV23, h⟩ := lt_some h
  refine r_is E hw 76 1988 (by decide) (by decide) (by decide) rfl rfl b22 eV23 dX10_readDeed_117 (fun H locs hw => ?_)
  refine lv_aload_n hx hb dX10_readDeed_118 rfl (lv_at hl 0 rfl) ?_
  refine r_gr E hw 22 1 76 (N := 29) (C := RX10) (T := TX10) (by decide) rfl rfl (by decide) rfl iw_10 rfl lf_RX10_13 dX10_readDeed_119 ?_
  refine lv_iload_n hx hb dX10_readDeed_122 rfl (lv_at hl 1 rfl) ?_
  refine lv_iconst (v := (3 : Int32)) hx hb dX10_readDeed_123 (by decide) ?_
  obtain ⟨y25, h24, h⟩ := ob_R_some h
  refine c_SI E hw (kX10_deedAt (l := l) (G := G) hB  h24) yy_X10_deedAt lm_RX10_70 rfl hl.1 (by decide) (by decide) rfl (Nat.le_of_ble_eq_true rfl) dX10_readDeed_124 (fun H locs hw => ?_)
  refine lv_iconst (v := (0 : Int32)) hx hb dX10_readDeed_127 (by decide) ?_
  obtain ⟨b26, h⟩ := rd_some h
  obtain ⟨V27, eV27, h⟩ := lt_some h
  refine r_is E hw 76 1988 (by decide) (by decide) (by decide) rfl rfl b26 eV27 dX10_readDeed_128 (fun H locs hw => ?_)
  refine lv_aload_n hx hb dX10_readDeed_129 rfl (lv_at hl 0 rfl) ?_
  refine r_gr E hw 22 1 76 (N := 29) (C := RX10) (T := TX10) (by decide) rfl rfl (by decide) rfl iw_10 rfl lf_RX10_13 dX10_readDeed_130 ?_
  refine lv_iload_n hx hb dX10_readDeed_133 rfl (lv_at hl 1 rfl) ?_
  refine lv_iconst (v := (4 : Int32)) hx hb dX10_readDeed_134 (by decide) ?_
  obtain ⟨y29, h28, h⟩ := ob_R_some h
  refine c_SI E hw (kX10_deedAt (l := l) (G := G) hB  h28) yy_X10_deedAt lm_RX10_70 rfl hl.1 (by decide) (by decide) rfl (Nat.le_of_ble_eq_true rfl) dX10_readDeed_135 (fun H locs hw => ?_)
  refine lv_iconst (v := (0 : Int32)) hx hb dX10_readDeed_138 (by decide) ?_
  obtain ⟨b30, h⟩ := rd_some h
  obtain ⟨V31, eV31, h⟩ := lt_some h
  refine r_is E hw 76 1988 (by decide) (by decide) (by decide) rfl rfl b30 eV31 dX10_readDeed_139 (fun H locs hw => ?_)
  refine lv_aload_n hx hb dX10_readDeed_140 rfl (lv_at hl 0 rfl) ?_
  refine r_gr E hw 22 1 76 (N := 29) (C := RX10) (T := TX10) (by decide) rfl rfl (by decide) rfl iw_10 rfl lf_RX10_13 dX10_readDeed_141 ?_
  refine lv_iload_n hx hb dX10_readDeed_144 rfl (lv_at hl 1 rfl) ?_
  refine lv_iconst (v := (5 : Int32)) hx hb dX10_readDeed_145 (by decide) ?_
  obtain ⟨y33, h32, h⟩ := ob_R_some h
  refine c_SI E hw (kX10_deedAt (l := l) (G := G) hB  h32) yy_X10_deedAt lm_RX10_70 rfl hl.1 (by decide) (by decide) rfl (Nat.le_of_ble_eq_true rfl) dX10_readDeed_146 (fun H locs hw => ?_)
  refine lv_iconst (v := (0 : Int32)) hx hb dX10_readDeed_149 (by decide) ?_
  obtain ⟨b34, h⟩ := rd_some h
  obtain ⟨V35, eV35, h⟩ := lt_some h
  refine r_is E hw 76 1988 (by decide) (by decide) (by decide) rfl rfl b34 eV35 dX10_readDeed_150 (fun H locs hw => ?_)
  refine lv_aload_n hx hb dX10_readDeed_151 rfl (lv_at hl 0 rfl) ?_
  refine r_gr E hw 22 1 76 (N := 29) (C := RX10) (T := TX10) (by decide) rfl rfl (by decide) rfl iw_10 rfl lf_RX10_13 dX10_readDeed_152 ?_
  refine lv_iconst (v := (1 : Int32)) hx hb dX10_readDeed_155 (by decide) ?_
  refine lv_dup2_11 hx hb dX10_readDeed_156 rfl rfl ?_
  obtain ⟨b36, h⟩ := rd_some h
  refine r_ia E hw 76 1988 (by decide) (by decide) (by decide) rfl rfl b36 dX10_readDeed_157 ?_
  refine lv_iconst (v := (1 : Int32)) hx hb dX10_readDeed_158 (by decide) ?_
  refine lv_iadd hx hb dX10_readDeed_159 ?_
  obtain ⟨b37, h⟩ := rd_some h
  obtain ⟨V38, eV38, h⟩ := lt_some h
  refine r_is E hw 76 1988 (by decide) (by decide) (by decide) rfl rfl b37 eV38 dX10_readDeed_160 (fun H locs hw => ?_)
  refine lv_iconst (v := (1 : Int32)) hx hb dX10_readDeed_161 (by decide) ?_
  obtain ⟨z39, h⟩ := zo_some h
  have h := Option.some.inj h
  subst h
  rw [kr]
  exact r_rz E hw z39 dX10_readDeed_162
set_option maxHeartbeats 4000000 in
set_option maxRecDepth 100000 in
theorem wX10_readDeed_j70 {p : Program} {l : Launch} {e : Env} {s : State} {m : MethodId} {args : Array Value} {below : List Frame} {meth : Method} {c : Code} {G : GT} {Z : Nat → Nat × Nat} {Q : State → Prop} (E : En p s m args c meth cX10_readDeed 6 RX10 (some .boolean) G (SG Z)) {V : VT} {u1 : Int32} {u2 : Int32} {u3 : Int32} {u4 : Int32} {t0 : Int32} {r : (Int32 × VT)} (h : fX10_readDeed_j70 V u1 u2 u3 u4 t0 = some r) (kr : Q = MQ below (QI G s.heap.size r.1 r.2) args s 0 0 (gA G s.heap.size)) {H : Heap} {locs : List Loc} {ls : Array Slot} (hw : HW G s.heap V H locs) (hl : lv_has ls 6 [(0, .ref (G.2.2 22)), (1, .int u1), (2, .int u2), (3, .int u3), (4, .int u4)]) : W p l e (rmD 7) s m args below meth c H locs 0 0 Q (F0 m 70 ls [.int t0]) := by
  have hx := en_x E
  have hb := en_b E
  have hB := en_B E
  unfold fX10_readDeed_j70 at h
  refine lv_istore (lv' := [(5, .int t0), (0, .ref (G.2.2 22)), (1, .int u1), (2, .int u2), (3, .int u3), (4, .int u4)]) hx hb dX10_readDeed_70 hl (by decide) rfl (fun ls hl => ?_)
  refine lv_iload hx hb dX10_readDeed_72 (lv_at hl 5 rfl) ?_
  refine lv_if_eq (tgt := 84) hx hb dX10_readDeed_74 (by decide) (fun c42 => ?_) (fun c42 => ?_)
  · rw [if_pos c42] at h
    exact wX10_readDeed_j84 E h kr hw (lv_sub hl [1, 2, 3, 4, 0] rfl)
  · rw [if_neg c42] at h
    refine lv_iload hx hb dX10_readDeed_77 (lv_at hl 0 rfl) ?_
    refine lv_if_ge (tgt := 84) hx hb dX10_readDeed_79 (by decide) (fun c41 => ?_) (fun c41 => ?_)
    · rw [if_pos c41] at h
      exact wX10_readDeed_j84 E h kr hw (lv_sub hl [1, 2, 3, 4, 0] rfl)
    · rw [if_neg c41] at h
      refine lv_iconst (v := (0 : Int32)) hx hb dX10_readDeed_82 (by decide) ?_
      obtain ⟨z40, h⟩ := zo_some h
      have h := Option.some.inj h
      subst h
      rw [kr]
      exact r_rz E hw z40 dX10_readDeed_83
set_option maxHeartbeats 4000000 in
set_option maxRecDepth 100000 in
theorem wX10_readDeed_j38 {p : Program} {l : Launch} {e : Env} {s : State} {m : MethodId} {args : Array Value} {below : List Frame} {meth : Method} {c : Code} {G : GT} {Z : Nat → Nat × Nat} {Q : State → Prop} (E : En p s m args c meth cX10_readDeed 6 RX10 (some .boolean) G (SG Z)) {V : VT} {u1 : Int32} {u2 : Int32} {t0 : Int32} {r : (Int32 × VT)} (h : fX10_readDeed_j38 V u1 u2 t0 = some r) (kr : Q = MQ below (QI G s.heap.size r.1 r.2) args s 0 0 (gA G s.heap.size)) {H : Heap} {locs : List Loc} {ls : Array Slot} (hw : HW G s.heap V H locs) (hl : lv_has ls 6 [(0, .ref (G.2.2 22)), (1, .int u1), (2, .int u2)]) : W p l e (rmD 7) s m args below meth c H locs 0 0 Q (F0 m 38 ls [.int t0]) := by
  have hx := en_x E
  have hb := en_b E
  have hB := en_B E
  unfold fX10_readDeed_j38 at h
  refine lv_istore_n (lv' := [(3, .int t0), (0, .ref (G.2.2 22)), (1, .int u1), (2, .int u2)]) hx hb dX10_readDeed_38 rfl hl (by decide) rfl (fun ls hl => ?_)
  refine lv_iload_n hx hb dX10_readDeed_39 rfl (lv_at hl 0 rfl) ?_
  refine lv_if_ge (tgt := 45) hx hb dX10_readDeed_40 (by decide) (fun c48 => ?_) (fun c48 => ?_)
  · rw [if_pos c48] at h
    refine lv_aload_n hx hb dX10_readDeed_45 rfl (lv_at hl 1 rfl) ?_
    refine r_ls (w := 48) E (by decide) rfl rfl dX10_readDeed_46 ?_
    obtain ⟨y10, V11, h9, h⟩ := ob_I_some h
    refine c_VI E hw (kX10_passes (l := l) (G := G) (Z := Z) (by decide) h9) yy_X10_passes lm_RX10_136 rfl (by decide) rfl rfl hl.1 (by decide) (by decide) rfl (Nat.le_of_ble_eq_true rfl) dX10_readDeed_48 (fun H locs hw => ?_)
    refine lv_istore (lv' := [(4, .int y10), (3, .int t0), (0, .ref (G.2.2 22)), (1, .int u1), (2, .int u2)]) hx hb dX10_readDeed_51 hl (by decide) rfl (fun ls hl => ?_)
    refine lv_iload hx hb dX10_readDeed_53 (lv_at hl 0 rfl) ?_
    refine lv_if_eq (tgt := 69) hx hb dX10_readDeed_55 (by decide) (fun c46 => ?_) (fun c46 => ?_)
    · rw [if_pos c46] at h
      refine lv_iconst (v := (-1 : Int32)) hx hb dX10_readDeed_69 (by decide) ?_
      exact wX10_readDeed_j70 E h kr hw (lv_sub hl [2, 3, 4, 1, 0] rfl)
    · rw [if_neg c46] at h
      refine lv_aload_n hx hb dX10_readDeed_58 rfl (lv_at hl 2 rfl) ?_
      refine lv_iconst (v := (0 : Int32)) hx hb dX10_readDeed_59 (by decide) ?_
      refine lv_iload_n hx hb dX10_readDeed_60 rfl (lv_at hl 3 rfl) ?_
      refine lv_iconst (v := (1 : Int32)) hx hb dX10_readDeed_61 (by decide) ?_
      refine lv_isub hx hb dX10_readDeed_62 ?_
      obtain ⟨y44, V45, h43, h⟩ := ob_I_some h
      refine c_VI E hw (kX10_number (l := l) (G := G) hB  h43) yy_X10_number lm_RX10_119 rfl (by decide) rfl rfl hl.1 (by decide) (by decide) rfl (Nat.le_of_ble_eq_true rfl) dX10_readDeed_63 (fun H locs hw => ?_)
      refine lv_goto (tgt := 70) hx hb dX10_readDeed_66 (by decide) ?_
      exact wX10_readDeed_j70 E h kr hw (lv_sub hl [2, 3, 4, 1, 0] rfl)
  · rw [if_neg c48] at h
    refine lv_iconst (v := (0 : Int32)) hx hb dX10_readDeed_43 (by decide) ?_
    obtain ⟨z47, h⟩ := zo_some h
    have h := Option.some.inj h
    subst h
    rw [kr]
    exact r_rz E hw z47 dX10_readDeed_44
set_option maxHeartbeats 4000000 in
set_option maxRecDepth 100000 in
theorem kX10_readDeed {l : Launch} {G : GT} {Z : Nat → Nat × Nat} {V : VT} {r : (Int32 × VT)} (h : fX10_readDeed V = some r) : CI l G (SG Z) yX10_readDeed (.code yX10_readDeed cX10_readDeed 6 (some .boolean)) 7 [.ref (G.2.2 22)] V r.1 r.2 := by
  intro sz
  refine met_of (Qs := fun sz => QI G sz (r.1) (r.2)) (SG_ok Z) (by decide) (Nat.le_of_ble_eq_true rfl) ?_ sz
  intro p e s m args below meth c ls E hw hl
  have hx := en_x E
  have hb := en_b E
  have hB := en_B E
  generalize hQ : MQ _ _ _ _ _ _ _ = Q
  have kr : Q = MQ below (QI G s.heap.size r.1 r.2) args s 0 0 (gA G s.heap.size) := hQ.symm
  have hl : lv_has ls 6 [(0, .ref (G.2.2 22))] := hl
  obtain ⟨H, eH⟩ : ∃ H, H = s.heap := ⟨_, rfl⟩
  obtain ⟨locs, elocs⟩ : ∃ z : List Loc, z = [] := ⟨_, rfl⟩
  have hw : HW G s.heap V H locs := by rw [eH, elocs]; exact hw
  show W p l e _ s m args below meth c s.heap [] 0 0 Q (F0 m 0 ls [])
  rw [← eH, ← elocs]
  unfold fX10_readDeed at h
  refine lv_aload_n hx hb dX10_readDeed_0 rfl (lv_at hl 0 rfl) ?_
  obtain ⟨y2, h1, h⟩ := ob_R_some h
  refine c_VI E hw (kX10_deeds (l := l) (G := G) hB  h1) yy_X10_deeds lm_RX10_80 rfl (by decide) rfl rfl hl.1 (by decide) (by decide) rfl (Nat.le_of_ble_eq_true rfl) dX10_readDeed_1 (fun H locs hw => ?_)
  refine lv_istore_n (lv' := [(1, .int y2), (0, .ref (G.2.2 22))]) hx hb dX10_readDeed_4 rfl hl (by decide) rfl (fun ls hl => ?_)
  refine lv_iload_n hx hb dX10_readDeed_5 rfl (lv_at hl 0 rfl) ?_
  refine lv_bipush (v := (10 : Int32)) hx hb dX10_readDeed_6 (by decide) ?_
  refine lv_icmp_ne (tgt := 13) hx hb dX10_readDeed_8 (by decide) (fun c51 => ?_) (fun c51 => ?_)
  · rw [if_neg c51] at h
    refine lv_aload_n hx hb dX10_readDeed_13 rfl (lv_at hl 1 rfl) ?_
    refine lv_iconst (v := (0 : Int32)) hx hb dX10_readDeed_14 (by decide) ?_
    refine lv_bipush (v := (23 : Int32)) hx hb dX10_readDeed_15 (by decide) ?_
    obtain ⟨y4, V5, h3, h⟩ := ob_I_some h
    refine c_VI E hw (kX10_number (l := l) (G := G) hB  h3) yy_X10_number lm_RX10_119 rfl (by decide) rfl rfl hl.1 (by decide) (by decide) rfl (Nat.le_of_ble_eq_true rfl) dX10_readDeed_17 (fun H locs hw => ?_)
    refine lv_istore_n (lv' := [(2, .int y4), (1, .int y2), (0, .ref (G.2.2 22))]) hx hb dX10_readDeed_20 rfl hl (by decide) rfl (fun ls hl => ?_)
    refine lv_iload_n hx hb dX10_readDeed_21 rfl (lv_at hl 0 rfl) ?_
    refine lv_if_ge (tgt := 29) hx hb dX10_readDeed_22 (by decide) (fun c49 => ?_) (fun c49 => ?_)
    · rw [if_pos c49] at h
      refine lv_aload_n hx hb dX10_readDeed_29 rfl (lv_at hl 2 rfl) ?_
      refine r_ls (w := 47) E (by decide) rfl rfl dX10_readDeed_30 ?_
      refine lv_iconst (v := (0 : Int32)) hx hb dX10_readDeed_32 (by decide) ?_
      refine lv_bipush (v := (23 : Int32)) hx hb dX10_readDeed_33 (by decide) ?_
      obtain ⟨y7, V8, h6, h⟩ := ob_I_some h
      refine c_VI E hw (kX10_after (l := l) (G := G) (Z := Z) (by decide) h6) yy_X10_after lm_RX10_124 rfl (by decide) rfl rfl hl.1 (by decide) (by decide) rfl (Nat.le_of_ble_eq_true rfl) dX10_readDeed_35 (fun H locs hw => ?_)
      exact wX10_readDeed_j38 E h kr hw (lv_sub hl [2, 1, 0] rfl)
    · rw [if_neg c49] at h
      refine lv_iconst (v := (-1 : Int32)) hx hb dX10_readDeed_25 (by decide) ?_
      refine lv_goto (tgt := 38) hx hb dX10_readDeed_26 (by decide) ?_
      exact wX10_readDeed_j38 E h kr hw (lv_sub hl [2, 1, 0] rfl)
  · rw [if_pos c51] at h
    refine lv_iconst (v := (0 : Int32)) hx hb dX10_readDeed_11 (by decide) ?_
    obtain ⟨z50, h⟩ := zo_some h
    have h := Option.some.inj h
    subst h
    rw [kr]
    exact r_rz E hw z50 dX10_readDeed_12
/-! ===== AllSawItModel.readStreetLine()Z ===== -/
theorem dX10_readStreetLine_0 : decode cX10_readStreetLine 0 = .ok (.aload_n 0, 1) := by decide +kernel
theorem dX10_readStreetLine_1 : decode cX10_readStreetLine 1 = .ok (.ldc 142, 2) := by decide +kernel
theorem dX10_readStreetLine_3 : decode cX10_readStreetLine 3 = .ok (.invokevirtual 115, 3) := by decide +kernel
theorem dX10_readStreetLine_6 : decode cX10_readStreetLine 6 = .ok (.ifCond .eq 8, 3) := by decide +kernel
theorem dX10_readStreetLine_9 : decode cX10_readStreetLine 9 = .ok (.aload_n 0, 1) := by decide +kernel
theorem dX10_readStreetLine_10 : decode cX10_readStreetLine 10 = .ok (.invokevirtual 144, 3) := by decide +kernel
theorem dX10_readStreetLine_13 : decode cX10_readStreetLine 13 = .ok (.ireturn, 1) := by decide +kernel
theorem dX10_readStreetLine_14 : decode cX10_readStreetLine 14 = .ok (.aload_n 0, 1) := by decide +kernel
theorem dX10_readStreetLine_15 : decode cX10_readStreetLine 15 = .ok (.ldc 148, 2) := by decide +kernel
theorem dX10_readStreetLine_17 : decode cX10_readStreetLine 17 = .ok (.invokevirtual 115, 3) := by decide +kernel
theorem dX10_readStreetLine_20 : decode cX10_readStreetLine 20 = .ok (.ifCond .eq 8, 3) := by decide +kernel
theorem dX10_readStreetLine_23 : decode cX10_readStreetLine 23 = .ok (.aload_n 0, 1) := by decide +kernel
theorem dX10_readStreetLine_24 : decode cX10_readStreetLine 24 = .ok (.invokevirtual 150, 3) := by decide +kernel
theorem dX10_readStreetLine_27 : decode cX10_readStreetLine 27 = .ok (.ireturn, 1) := by decide +kernel
theorem dX10_readStreetLine_28 : decode cX10_readStreetLine 28 = .ok (.aload_n 0, 1) := by decide +kernel
theorem dX10_readStreetLine_29 : decode cX10_readStreetLine 29 = .ok (.ldc 153, 2) := by decide +kernel
theorem dX10_readStreetLine_31 : decode cX10_readStreetLine 31 = .ok (.invokevirtual 115, 3) := by decide +kernel
theorem dX10_readStreetLine_34 : decode cX10_readStreetLine 34 = .ok (.ifCond .eq 8, 3) := by decide +kernel
theorem dX10_readStreetLine_37 : decode cX10_readStreetLine 37 = .ok (.aload_n 0, 1) := by decide +kernel
theorem dX10_readStreetLine_38 : decode cX10_readStreetLine 38 = .ok (.invokevirtual 155, 3) := by decide +kernel
theorem dX10_readStreetLine_41 : decode cX10_readStreetLine 41 = .ok (.ireturn, 1) := by decide +kernel
theorem dX10_readStreetLine_42 : decode cX10_readStreetLine 42 = .ok (.aload_n 0, 1) := by decide +kernel
theorem dX10_readStreetLine_43 : decode cX10_readStreetLine 43 = .ok (.ldc 158, 2) := by decide +kernel
theorem dX10_readStreetLine_45 : decode cX10_readStreetLine 45 = .ok (.invokevirtual 115, 3) := by decide +kernel
theorem dX10_readStreetLine_48 : decode cX10_readStreetLine 48 = .ok (.ifCond .ne 5, 3) := by decide +kernel
theorem dX10_readStreetLine_51 : decode cX10_readStreetLine 51 = .ok (.iconst 0, 1) := by decide +kernel
theorem dX10_readStreetLine_52 : decode cX10_readStreetLine 52 = .ok (.ireturn, 1) := by decide +kernel
theorem dX10_readStreetLine_53 : decode cX10_readStreetLine 53 = .ok (.aload_n 0, 1) := by decide +kernel
theorem dX10_readStreetLine_54 : decode cX10_readStreetLine 54 = .ok (.iconst 0, 1) := by decide +kernel
theorem dX10_readStreetLine_55 : decode cX10_readStreetLine 55 = .ok (.bipush 9, 2) := by decide +kernel
theorem dX10_readStreetLine_57 : decode cX10_readStreetLine 57 = .ok (.invokevirtual 119, 3) := by decide +kernel
theorem dX10_readStreetLine_60 : decode cX10_readStreetLine 60 = .ok (.istore_n 1, 1) := by decide +kernel
theorem dX10_readStreetLine_61 : decode cX10_readStreetLine 61 = .ok (.iload_n 1, 1) := by decide +kernel
theorem dX10_readStreetLine_62 : decode cX10_readStreetLine 62 = .ok (.ifCond .lt 11, 3) := by decide +kernel
theorem dX10_readStreetLine_65 : decode cX10_readStreetLine 65 = .ok (.aload_n 0, 1) := by decide +kernel
theorem dX10_readStreetLine_66 : decode cX10_readStreetLine 66 = .ok (.getfield 13, 3) := by decide +kernel
theorem dX10_readStreetLine_69 : decode cX10_readStreetLine 69 = .ok (.bipush 6, 2) := by decide +kernel
theorem dX10_readStreetLine_71 : decode cX10_readStreetLine 71 = .ok (.iload_n 1, 1) := by decide +kernel
theorem dX10_readStreetLine_72 : decode cX10_readStreetLine 72 = .ok (.iastore, 1) := by decide +kernel
theorem dX10_readStreetLine_73 : decode cX10_readStreetLine 73 = .ok (.iload_n 1, 1) := by decide +kernel
theorem dX10_readStreetLine_74 : decode cX10_readStreetLine 74 = .ok (.ifCond .lt 7, 3) := by decide +kernel
theorem dX10_readStreetLine_77 : decode cX10_readStreetLine 77 = .ok (.iconst 1, 1) := by decide +kernel
theorem dX10_readStreetLine_78 : decode cX10_readStreetLine 78 = .ok (.goto 4, 3) := by decide +kernel
theorem dX10_readStreetLine_81 : decode cX10_readStreetLine 81 = .ok (.iconst 0, 1) := by decide +kernel
theorem dX10_readStreetLine_82 : decode cX10_readStreetLine 82 = .ok (.ireturn, 1) := by decide +kernel
noncomputable def fX10_readStreetLine_j73 (V : VT) (u1 : Int32) : Option (Int32 × VT) := if u1 < 0 then (zo_ (0 : Int32) (some ((0 : Int32), V))) else (zo_ (1 : Int32) (some ((1 : Int32), V)))
noncomputable def fX10_readStreetLine (V : VT) : Option (Int32 × VT) := ob_R (fX10_isWord V 49) fun y2 => if y2 = 0 then (ob_R (fX10_isWord V 50) fun y4 => if y4 = 0 then (ob_R (fX10_isWord V 51) fun y6 => if y6 = 0 then (ob_R (fX10_isWord V 52) fun y8 => if y8 = 0 then (zo_ (0 : Int32) (some ((0 : Int32), V))) else (ob_I (fX10_number V (0 : Int32) (9 : Int32)) fun y10 V11 => if y10 < 0 then (fX10_readStreetLine_j73 V11 y10) else (rd_ (6 : Int32) 1988 (lt_ (va_up V11 76 (upd (V11 76) (6 : Int32).toNatClampNeg y10)) fun V16 => fX10_readStreetLine_j73 V16 y10)))) else (ob_I (fX10_readAway V ) fun y21 V22 => zo_ y21 (some (y21, V22)))) else (ob_I (fX10_readDeed V ) fun y26 V27 => zo_ y26 (some (y26, V27)))) else (ob_I (fX10_readHouse V ) fun y31 V32 => zo_ y31 (some (y31, V32)))
set_option maxHeartbeats 4000000 in
set_option maxRecDepth 100000 in
theorem wX10_readStreetLine_j73 {p : Program} {l : Launch} {e : Env} {s : State} {m : MethodId} {args : Array Value} {below : List Frame} {meth : Method} {c : Code} {G : GT} {Z : Nat → Nat × Nat} {Q : State → Prop} (E : En p s m args c meth cX10_readStreetLine 2 RX10 (some .boolean) G (SG Z)) {V : VT} {u1 : Int32} {r : (Int32 × VT)} (h : fX10_readStreetLine_j73 V u1 = some r) (kr : Q = MQ below (QI G s.heap.size r.1 r.2) args s 0 0 (gA G s.heap.size)) {H : Heap} {locs : List Loc} {ls : Array Slot} (hw : HW G s.heap V H locs) (hl : lv_has ls 2 [(1, .int u1)]) : W p l e (rmD 8) s m args below meth c H locs 0 0 Q (F0 m 73 ls []) := by
  have hx := en_x E
  have hb := en_b E
  have hB := en_B E
  unfold fX10_readStreetLine_j73 at h
  refine lv_iload_n hx hb dX10_readStreetLine_73 rfl (lv_at hl 0 rfl) ?_
  refine lv_if_lt (tgt := 81) hx hb dX10_readStreetLine_74 (by decide) (fun c14 => ?_) (fun c14 => ?_)
  · rw [if_pos c14] at h
    refine lv_iconst (v := (0 : Int32)) hx hb dX10_readStreetLine_81 (by decide) ?_
    obtain ⟨z12, h⟩ := zo_some h
    have h := Option.some.inj h
    subst h
    rw [kr]
    exact r_rz E hw z12 dX10_readStreetLine_82
  · rw [if_neg c14] at h
    refine lv_iconst (v := (1 : Int32)) hx hb dX10_readStreetLine_77 (by decide) ?_
    refine lv_goto (tgt := 82) hx hb dX10_readStreetLine_78 (by decide) ?_
    obtain ⟨z13, h⟩ := zo_some h
    have h := Option.some.inj h
    subst h
    rw [kr]
    exact r_rz E hw z13 dX10_readStreetLine_82
set_option maxHeartbeats 4000000 in
set_option maxRecDepth 100000 in
theorem kX10_readStreetLine {l : Launch} {G : GT} {Z : Nat → Nat × Nat} {V : VT} {r : (Int32 × VT)} (h : fX10_readStreetLine V = some r) : CI l G (SG Z) yX10_readStreetLine (.code yX10_readStreetLine cX10_readStreetLine 2 (some .boolean)) 8 [.ref (G.2.2 22)] V r.1 r.2 := by
  intro sz
  refine met_of (Qs := fun sz => QI G sz (r.1) (r.2)) (SG_ok Z) (by decide) (Nat.le_of_ble_eq_true rfl) ?_ sz
  intro p e s m args below meth c ls E hw hl
  have hx := en_x E
  have hb := en_b E
  have hB := en_B E
  generalize hQ : MQ _ _ _ _ _ _ _ = Q
  have kr : Q = MQ below (QI G s.heap.size r.1 r.2) args s 0 0 (gA G s.heap.size) := hQ.symm
  have hl : lv_has ls 2 [(0, .ref (G.2.2 22))] := hl
  obtain ⟨H, eH⟩ : ∃ H, H = s.heap := ⟨_, rfl⟩
  obtain ⟨locs, elocs⟩ : ∃ z : List Loc, z = [] := ⟨_, rfl⟩
  have hw : HW G s.heap V H locs := by rw [eH, elocs]; exact hw
  show W p l e _ s m args below meth c s.heap [] 0 0 Q (F0 m 0 ls [])
  rw [← eH, ← elocs]
  unfold fX10_readStreetLine at h
  refine lv_aload_n hx hb dX10_readStreetLine_0 rfl (lv_at hl 0 rfl) ?_
  refine r_ls (w := 49) E (by decide) rfl rfl dX10_readStreetLine_1 ?_
  obtain ⟨y2, h1, h⟩ := ob_R_some h
  refine c_VI E hw (kX10_isWord (l := l) (G := G) (Z := Z) (by decide) h1) yy_X10_isWord lm_RX10_115 rfl (by decide) rfl rfl hl.1 (by decide) (by decide) rfl (Nat.le_of_ble_eq_true rfl) dX10_readStreetLine_3 (fun H locs hw => ?_)
  refine lv_if_eq (tgt := 14) hx hb dX10_readStreetLine_6 (by decide) (fun c34 => ?_) (fun c34 => ?_)
  · rw [if_pos c34] at h
    refine lv_aload_n hx hb dX10_readStreetLine_14 rfl (lv_at hl 0 rfl) ?_
    refine r_ls (w := 50) E (by decide) rfl rfl dX10_readStreetLine_15 ?_
    obtain ⟨y4, h3, h⟩ := ob_R_some h
    refine c_VI E hw (kX10_isWord (l := l) (G := G) (Z := Z) (by decide) h3) yy_X10_isWord lm_RX10_115 rfl (by decide) rfl rfl hl.1 (by decide) (by decide) rfl (Nat.le_of_ble_eq_true rfl) dX10_readStreetLine_17 (fun H locs hw => ?_)
    refine lv_if_eq (tgt := 28) hx hb dX10_readStreetLine_20 (by decide) (fun c29 => ?_) (fun c29 => ?_)
    · rw [if_pos c29] at h
      refine lv_aload_n hx hb dX10_readStreetLine_28 rfl (lv_at hl 0 rfl) ?_
      refine r_ls (w := 51) E (by decide) rfl rfl dX10_readStreetLine_29 ?_
      obtain ⟨y6, h5, h⟩ := ob_R_some h
      refine c_VI E hw (kX10_isWord (l := l) (G := G) (Z := Z) (by decide) h5) yy_X10_isWord lm_RX10_115 rfl (by decide) rfl rfl hl.1 (by decide) (by decide) rfl (Nat.le_of_ble_eq_true rfl) dX10_readStreetLine_31 (fun H locs hw => ?_)
      refine lv_if_eq (tgt := 42) hx hb dX10_readStreetLine_34 (by decide) (fun c24 => ?_) (fun c24 => ?_)
      · rw [if_pos c24] at h
        refine lv_aload_n hx hb dX10_readStreetLine_42 rfl (lv_at hl 0 rfl) ?_
        refine r_ls (w := 52) E (by decide) rfl rfl dX10_readStreetLine_43 ?_
        obtain ⟨y8, h7, h⟩ := ob_R_some h
        refine c_VI E hw (kX10_isWord (l := l) (G := G) (Z := Z) (by decide) h7) yy_X10_isWord lm_RX10_115 rfl (by decide) rfl rfl hl.1 (by decide) (by decide) rfl (Nat.le_of_ble_eq_true rfl) dX10_readStreetLine_45 (fun H locs hw => ?_)
        refine lv_if_ne (tgt := 53) hx hb dX10_readStreetLine_48 (by decide) (fun c19 => ?_) (fun c19 => ?_)
        · rw [if_neg c19] at h
          refine lv_aload_n hx hb dX10_readStreetLine_53 rfl (lv_at hl 0 rfl) ?_
          refine lv_iconst (v := (0 : Int32)) hx hb dX10_readStreetLine_54 (by decide) ?_
          refine lv_bipush (v := (9 : Int32)) hx hb dX10_readStreetLine_55 (by decide) ?_
          obtain ⟨y10, V11, h9, h⟩ := ob_I_some h
          refine c_VI E hw (kX10_number (l := l) (G := G) hB  h9) yy_X10_number lm_RX10_119 rfl (by decide) rfl rfl hl.1 (by decide) (by decide) rfl (Nat.le_of_ble_eq_true rfl) dX10_readStreetLine_57 (fun H locs hw => ?_)
          refine lv_istore_n (lv' := [(1, .int y10), (0, .ref (G.2.2 22))]) hx hb dX10_readStreetLine_60 rfl hl (by decide) rfl (fun ls hl => ?_)
          refine lv_iload_n hx hb dX10_readStreetLine_61 rfl (lv_at hl 0 rfl) ?_
          refine lv_if_lt (tgt := 73) hx hb dX10_readStreetLine_62 (by decide) (fun c17 => ?_) (fun c17 => ?_)
          · rw [if_pos c17] at h
            exact wX10_readStreetLine_j73 E h kr hw (lv_sub hl [0] rfl)
          · rw [if_neg c17] at h
            refine lv_aload_n hx hb dX10_readStreetLine_65 rfl (lv_at hl 1 rfl) ?_
            refine r_gr E hw 22 1 76 (N := 29) (C := RX10) (T := TX10) (by decide) rfl rfl (by decide) rfl iw_10 rfl lf_RX10_13 dX10_readStreetLine_66 ?_
            refine lv_bipush (v := (6 : Int32)) hx hb dX10_readStreetLine_69 (by decide) ?_
            refine lv_iload_n hx hb dX10_readStreetLine_71 rfl (lv_at hl 0 rfl) ?_
            obtain ⟨b15, h⟩ := rd_some h
            obtain ⟨V16, eV16, h⟩ := lt_some h
            refine r_is E hw 76 1988 (by decide) (by decide) (by decide) rfl rfl b15 eV16 dX10_readStreetLine_72 (fun H locs hw => ?_)
            exact wX10_readStreetLine_j73 E h kr hw (lv_sub hl [0] rfl)
        · rw [if_pos c19] at h
          refine lv_iconst (v := (0 : Int32)) hx hb dX10_readStreetLine_51 (by decide) ?_
          obtain ⟨z18, h⟩ := zo_some h
          have h := Option.some.inj h
          subst h
          rw [kr]
          exact r_rz E hw z18 dX10_readStreetLine_52
      · rw [if_neg c24] at h
        refine lv_aload_n hx hb dX10_readStreetLine_37 rfl (lv_at hl 0 rfl) ?_
        obtain ⟨y21, V22, h20, h⟩ := ob_I_some h
        refine c_VI E hw (kX10_readAway (l := l) (G := G) hB  h20) yy_X10_readAway lm_RX10_155 rfl (by decide) rfl rfl hl.1 (by decide) (by decide) rfl (Nat.le_of_ble_eq_true rfl) dX10_readStreetLine_38 (fun H locs hw => ?_)
        obtain ⟨z23, h⟩ := zo_some h
        have h := Option.some.inj h
        subst h
        rw [kr]
        exact r_rz E hw z23 dX10_readStreetLine_41
    · rw [if_neg c29] at h
      refine lv_aload_n hx hb dX10_readStreetLine_23 rfl (lv_at hl 0 rfl) ?_
      obtain ⟨y26, V27, h25, h⟩ := ob_I_some h
      refine c_VI E hw (kX10_readDeed (l := l) (G := G) (Z := Z)  h25) yy_X10_readDeed lm_RX10_150 rfl (by decide) rfl rfl hl.1 (by decide) (by decide) rfl (Nat.le_of_ble_eq_true rfl) dX10_readStreetLine_24 (fun H locs hw => ?_)
      obtain ⟨z28, h⟩ := zo_some h
      have h := Option.some.inj h
      subst h
      rw [kr]
      exact r_rz E hw z28 dX10_readStreetLine_27
  · rw [if_neg c34] at h
    refine lv_aload_n hx hb dX10_readStreetLine_9 rfl (lv_at hl 0 rfl) ?_
    obtain ⟨y31, V32, h30, h⟩ := ob_I_some h
    refine c_VI E hw (kX10_readHouse (l := l) (G := G) (Z := Z)  h30) yy_X10_readHouse lm_RX10_144 rfl (by decide) rfl rfl hl.1 (by decide) (by decide) rfl (Nat.le_of_ble_eq_true rfl) dX10_readStreetLine_10 (fun H locs hw => ?_)
    obtain ⟨z33, h⟩ := zo_some h
    have h := Option.some.inj h
    subst h
    rw [kr]
    exact r_rz E hw z33 dX10_readStreetLine_13
/-! ===== AllSawItModel.readPart()Z ===== -/
theorem dX10_readPart_0 : decode cX10_readPart 0 = .ok (.aload_n 0, 1) := by decide +kernel
theorem dX10_readPart_1 : decode cX10_readPart 1 = .ok (.invokevirtual 112, 3) := by decide +kernel
theorem dX10_readPart_4 : decode cX10_readPart 4 = .ok (.aload_n 0, 1) := by decide +kernel
theorem dX10_readPart_5 : decode cX10_readPart 5 = .ok (.getfield 87, 3) := by decide +kernel
theorem dX10_readPart_8 : decode cX10_readPart 8 = .ok (.aload_n 0, 1) := by decide +kernel
theorem dX10_readPart_9 : decode cX10_readPart 9 = .ok (.getfield 97, 3) := by decide +kernel
theorem dX10_readPart_12 : decode cX10_readPart 12 = .ok (.if_icmp .ne 22, 3) := by decide +kernel
theorem dX10_readPart_15 : decode cX10_readPart 15 = .ok (.aload_n 0, 1) := by decide +kernel
theorem dX10_readPart_16 : decode cX10_readPart 16 = .ok (.iconst 0, 1) := by decide +kernel
theorem dX10_readPart_17 : decode cX10_readPart 17 = .ok (.sipush 999, 3) := by decide +kernel
theorem dX10_readPart_20 : decode cX10_readPart 20 = .ok (.invokevirtual 119, 3) := by decide +kernel
theorem dX10_readPart_23 : decode cX10_readPart 23 = .ok (.istore_n 1, 1) := by decide +kernel
theorem dX10_readPart_24 : decode cX10_readPart 24 = .ok (.aload_n 0, 1) := by decide +kernel
theorem dX10_readPart_25 : decode cX10_readPart 25 = .ok (.bipush 9, 2) := by decide +kernel
theorem dX10_readPart_27 : decode cX10_readPart 27 = .ok (.iload_n 1, 1) := by decide +kernel
theorem dX10_readPart_28 : decode cX10_readPart 28 = .ok (.invokevirtual 163, 3) := by decide +kernel
theorem dX10_readPart_31 : decode cX10_readPart 31 = .ok (.goto 89, 3) := by decide +kernel
theorem dX10_readPart_34 : decode cX10_readPart 34 = .ok (.aload_n 0, 1) := by decide +kernel
theorem dX10_readPart_35 : decode cX10_readPart 35 = .ok (.ldc 142, 2) := by decide +kernel
theorem dX10_readPart_37 : decode cX10_readPart 37 = .ok (.invokevirtual 115, 3) := by decide +kernel
theorem dX10_readPart_40 : decode cX10_readPart 40 = .ok (.ifCond .eq 7, 3) := by decide +kernel
theorem dX10_readPart_43 : decode cX10_readPart 43 = .ok (.iconst 0, 1) := by decide +kernel
theorem dX10_readPart_44 : decode cX10_readPart 44 = .ok (.goto 69, 3) := by decide +kernel
theorem dX10_readPart_47 : decode cX10_readPart 47 = .ok (.aload_n 0, 1) := by decide +kernel
theorem dX10_readPart_48 : decode cX10_readPart 48 = .ok (.ldc 167, 2) := by decide +kernel
theorem dX10_readPart_50 : decode cX10_readPart 50 = .ok (.invokevirtual 115, 3) := by decide +kernel
theorem dX10_readPart_53 : decode cX10_readPart 53 = .ok (.ifCond .eq 7, 3) := by decide +kernel
theorem dX10_readPart_56 : decode cX10_readPart 56 = .ok (.iconst 1, 1) := by decide +kernel
theorem dX10_readPart_57 : decode cX10_readPart 57 = .ok (.goto 56, 3) := by decide +kernel
theorem dX10_readPart_60 : decode cX10_readPart 60 = .ok (.aload_n 0, 1) := by decide +kernel
theorem dX10_readPart_61 : decode cX10_readPart 61 = .ok (.ldc 169, 2) := by decide +kernel
theorem dX10_readPart_63 : decode cX10_readPart 63 = .ok (.invokevirtual 115, 3) := by decide +kernel
theorem dX10_readPart_66 : decode cX10_readPart 66 = .ok (.ifCond .eq 7, 3) := by decide +kernel
theorem dX10_readPart_69 : decode cX10_readPart 69 = .ok (.iconst 2, 1) := by decide +kernel
theorem dX10_readPart_70 : decode cX10_readPart 70 = .ok (.goto 43, 3) := by decide +kernel
theorem dX10_readPart_73 : decode cX10_readPart 73 = .ok (.aload_n 0, 1) := by decide +kernel
theorem dX10_readPart_74 : decode cX10_readPart 74 = .ok (.ldc 171, 2) := by decide +kernel
theorem dX10_readPart_76 : decode cX10_readPart 76 = .ok (.invokevirtual 115, 3) := by decide +kernel
theorem dX10_readPart_79 : decode cX10_readPart 79 = .ok (.ifCond .eq 7, 3) := by decide +kernel
theorem dX10_readPart_82 : decode cX10_readPart 82 = .ok (.iconst 3, 1) := by decide +kernel
theorem dX10_readPart_83 : decode cX10_readPart 83 = .ok (.goto 30, 3) := by decide +kernel
theorem dX10_readPart_86 : decode cX10_readPart 86 = .ok (.aload_n 0, 1) := by decide +kernel
theorem dX10_readPart_87 : decode cX10_readPart 87 = .ok (.ldc 173, 2) := by decide +kernel
theorem dX10_readPart_89 : decode cX10_readPart 89 = .ok (.invokevirtual 115, 3) := by decide +kernel
theorem dX10_readPart_92 : decode cX10_readPart 92 = .ok (.ifCond .eq 7, 3) := by decide +kernel
theorem dX10_readPart_95 : decode cX10_readPart 95 = .ok (.iconst 4, 1) := by decide +kernel
theorem dX10_readPart_96 : decode cX10_readPart 96 = .ok (.goto 17, 3) := by decide +kernel
theorem dX10_readPart_99 : decode cX10_readPart 99 = .ok (.aload_n 0, 1) := by decide +kernel
theorem dX10_readPart_100 : decode cX10_readPart 100 = .ok (.ldc 175, 2) := by decide +kernel
theorem dX10_readPart_102 : decode cX10_readPart 102 = .ok (.invokevirtual 115, 3) := by decide +kernel
theorem dX10_readPart_105 : decode cX10_readPart 105 = .ok (.ifCond .eq 7, 3) := by decide +kernel
theorem dX10_readPart_108 : decode cX10_readPart 108 = .ok (.iconst 5, 1) := by decide +kernel
theorem dX10_readPart_109 : decode cX10_readPart 109 = .ok (.goto 4, 3) := by decide +kernel
theorem dX10_readPart_112 : decode cX10_readPart 112 = .ok (.iconst (-1), 1) := by decide +kernel
theorem dX10_readPart_113 : decode cX10_readPart 113 = .ok (.istore_n 1, 1) := by decide +kernel
theorem dX10_readPart_114 : decode cX10_readPart 114 = .ok (.aload_n 0, 1) := by decide +kernel
theorem dX10_readPart_115 : decode cX10_readPart 115 = .ok (.iload_n 1, 1) := by decide +kernel
theorem dX10_readPart_116 : decode cX10_readPart 116 = .ok (.iconst 0, 1) := by decide +kernel
theorem dX10_readPart_117 : decode cX10_readPart 117 = .ok (.invokevirtual 163, 3) := by decide +kernel
theorem dX10_readPart_120 : decode cX10_readPart 120 = .ok (.iload_n 1, 1) := by decide +kernel
theorem dX10_readPart_121 : decode cX10_readPart 121 = .ok (.ifCond .lt 7, 3) := by decide +kernel
theorem dX10_readPart_124 : decode cX10_readPart 124 = .ok (.iconst 1, 1) := by decide +kernel
theorem dX10_readPart_125 : decode cX10_readPart 125 = .ok (.goto 4, 3) := by decide +kernel
theorem dX10_readPart_128 : decode cX10_readPart 128 = .ok (.iconst 0, 1) := by decide +kernel
theorem dX10_readPart_129 : decode cX10_readPart 129 = .ok (.ireturn, 1) := by decide +kernel
noncomputable def fX10_readPart_j120 (V : VT) (u1 : Int32) : Option (Int32 × VT) := if u1 < 0 then (zo_ (0 : Int32) (some ((0 : Int32), V))) else (zo_ (1 : Int32) (some ((1 : Int32), V)))
noncomputable def fX10_readPart_j113 (V : VT) (t0 : Int32) : Option (Int32 × VT) := ob_R (fX10_emits V t0 (0 : Int32)) fun V16 => fX10_readPart_j120 V16 t0
noncomputable def fX10_readPart (V : VT) : Option (Int32 × VT) := ob_R (fX10_letters V ) fun V2 => if (V2 22 10) = (V2 22 12) then (ob_I (fX10_number V2 (0 : Int32) (999 : Int32)) fun y27 V28 => ob_R (fX10_emits V28 (9 : Int32) y27) fun V30 => fX10_readPart_j120 V30 y27) else (ob_R (fX10_isWord V2 49) fun y4 => if y4 = 0 then (ob_R (fX10_isWord V2 53) fun y6 => if y6 = 0 then (ob_R (fX10_isWord V2 54) fun y8 => if y8 = 0 then (ob_R (fX10_isWord V2 55) fun y10 => if y10 = 0 then (ob_R (fX10_isWord V2 56) fun y12 => if y12 = 0 then (ob_R (fX10_isWord V2 57) fun y14 => if y14 = 0 then (fX10_readPart_j113 V2 (-1 : Int32)) else (fX10_readPart_j113 V2 (5 : Int32))) else (fX10_readPart_j113 V2 (4 : Int32))) else (fX10_readPart_j113 V2 (3 : Int32))) else (fX10_readPart_j113 V2 (2 : Int32))) else (fX10_readPart_j113 V2 (1 : Int32))) else (fX10_readPart_j113 V2 (0 : Int32)))
set_option maxHeartbeats 4000000 in
set_option maxRecDepth 100000 in
theorem wX10_readPart_j120 {p : Program} {l : Launch} {e : Env} {s : State} {m : MethodId} {args : Array Value} {below : List Frame} {meth : Method} {c : Code} {G : GT} {Z : Nat → Nat × Nat} {Q : State → Prop} (E : En p s m args c meth cX10_readPart 2 RX10 (some .boolean) G (SG Z)) {V : VT} {u1 : Int32} {r : (Int32 × VT)} (h : fX10_readPart_j120 V u1 = some r) (kr : Q = MQ below (QI G s.heap.size r.1 r.2) args s 0 0 (gA G s.heap.size)) {H : Heap} {locs : List Loc} {ls : Array Slot} (hw : HW G s.heap V H locs) (hl : lv_has ls 2 [(1, .int u1)]) : W p l e (rmD 6) s m args below meth c H locs 0 0 Q (F0 m 120 ls []) := by
  have hx := en_x E
  have hb := en_b E
  have hB := en_B E
  unfold fX10_readPart_j120 at h
  refine lv_iload_n hx hb dX10_readPart_120 rfl (lv_at hl 0 rfl) ?_
  refine lv_if_lt (tgt := 128) hx hb dX10_readPart_121 (by decide) (fun c19 => ?_) (fun c19 => ?_)
  · rw [if_pos c19] at h
    refine lv_iconst (v := (0 : Int32)) hx hb dX10_readPart_128 (by decide) ?_
    obtain ⟨z17, h⟩ := zo_some h
    have h := Option.some.inj h
    subst h
    rw [kr]
    exact r_rz E hw z17 dX10_readPart_129
  · rw [if_neg c19] at h
    refine lv_iconst (v := (1 : Int32)) hx hb dX10_readPart_124 (by decide) ?_
    refine lv_goto (tgt := 129) hx hb dX10_readPart_125 (by decide) ?_
    obtain ⟨z18, h⟩ := zo_some h
    have h := Option.some.inj h
    subst h
    rw [kr]
    exact r_rz E hw z18 dX10_readPart_129
set_option maxHeartbeats 4000000 in
set_option maxRecDepth 100000 in
theorem wX10_readPart_j113 {p : Program} {l : Launch} {e : Env} {s : State} {m : MethodId} {args : Array Value} {below : List Frame} {meth : Method} {c : Code} {G : GT} {Z : Nat → Nat × Nat} {Q : State → Prop} (E : En p s m args c meth cX10_readPart 2 RX10 (some .boolean) G (SG Z)) {V : VT} {t0 : Int32} {r : (Int32 × VT)} (h : fX10_readPart_j113 V t0 = some r) (kr : Q = MQ below (QI G s.heap.size r.1 r.2) args s 0 0 (gA G s.heap.size)) {H : Heap} {locs : List Loc} {ls : Array Slot} (hw : HW G s.heap V H locs) (hl : lv_has ls 2 [(0, .ref (G.2.2 22))]) : W p l e (rmD 6) s m args below meth c H locs 0 0 Q (F0 m 113 ls [.int t0]) := by
  have hx := en_x E
  have hb := en_b E
  have hB := en_B E
  unfold fX10_readPart_j113 at h
  refine lv_istore_n (lv' := [(1, .int t0), (0, .ref (G.2.2 22))]) hx hb dX10_readPart_113 rfl hl (by decide) rfl (fun ls hl => ?_)
  refine lv_aload_n hx hb dX10_readPart_114 rfl (lv_at hl 1 rfl) ?_
  refine lv_iload_n hx hb dX10_readPart_115 rfl (lv_at hl 0 rfl) ?_
  refine lv_iconst (v := (0 : Int32)) hx hb dX10_readPart_116 (by decide) ?_
  obtain ⟨V16, h15, h⟩ := ob_R_some h
  refine c_VV E hw (kX10_emits (l := l) (G := G) hB  h15) yy_X10_emits lm_RX10_163 rfl (by decide) rfl rfl hl.1 (by decide) (by decide) rfl (Nat.le_of_ble_eq_true rfl) dX10_readPart_117 (fun H locs hw => ?_)
  exact wX10_readPart_j120 E h kr hw (lv_sub hl [0] rfl)
set_option maxHeartbeats 4000000 in
set_option maxRecDepth 100000 in
theorem kX10_readPart {l : Launch} {G : GT} {Z : Nat → Nat × Nat} {V : VT} {r : (Int32 × VT)} (h : fX10_readPart V = some r) : CI l G (SG Z) yX10_readPart (.code yX10_readPart cX10_readPart 2 (some .boolean)) 6 [.ref (G.2.2 22)] V r.1 r.2 := by
  intro sz
  refine met_of (Qs := fun sz => QI G sz (r.1) (r.2)) (SG_ok Z) (by decide) (Nat.le_of_ble_eq_true rfl) ?_ sz
  intro p e s m args below meth c ls E hw hl
  have hx := en_x E
  have hb := en_b E
  have hB := en_B E
  generalize hQ : MQ _ _ _ _ _ _ _ = Q
  have kr : Q = MQ below (QI G s.heap.size r.1 r.2) args s 0 0 (gA G s.heap.size) := hQ.symm
  have hl : lv_has ls 2 [(0, .ref (G.2.2 22))] := hl
  obtain ⟨H, eH⟩ : ∃ H, H = s.heap := ⟨_, rfl⟩
  obtain ⟨locs, elocs⟩ : ∃ z : List Loc, z = [] := ⟨_, rfl⟩
  have hw : HW G s.heap V H locs := by rw [eH, elocs]; exact hw
  show W p l e _ s m args below meth c s.heap [] 0 0 Q (F0 m 0 ls [])
  rw [← eH, ← elocs]
  unfold fX10_readPart at h
  refine lv_aload_n hx hb dX10_readPart_0 rfl (lv_at hl 0 rfl) ?_
  obtain ⟨V2, h1, h⟩ := ob_R_some h
  refine c_VV E hw (kX10_letters (l := l) (G := G) hB  h1) yy_X10_letters lm_RX10_112 rfl (by decide) rfl rfl hl.1 (by decide) (by decide) rfl (Nat.le_of_ble_eq_true rfl) dX10_readPart_1 (fun H locs hw => ?_)
  refine lv_aload_n hx hb dX10_readPart_4 rfl (lv_at hl 0 rfl) ?_
  refine r_gi E hw 22 10 (N := 29) (C := RX10) (T := TX10) (by decide) rfl rfl (by decide) rfl iw_10 rfl lf_RX10_87 dX10_readPart_5 ?_
  refine lv_aload_n hx hb dX10_readPart_8 rfl (lv_at hl 0 rfl) ?_
  refine r_gi E hw 22 12 (N := 29) (C := RX10) (T := TX10) (by decide) rfl rfl (by decide) rfl iw_10 rfl lf_RX10_97 dX10_readPart_9 ?_
  refine lv_icmp_ne (tgt := 34) hx hb dX10_readPart_12 (by decide) (fun c31 => ?_) (fun c31 => ?_)
  · rw [if_neg c31] at h
    refine lv_aload_n hx hb dX10_readPart_34 rfl (lv_at hl 0 rfl) ?_
    refine r_ls (w := 49) E (by decide) rfl rfl dX10_readPart_35 ?_
    obtain ⟨y4, h3, h⟩ := ob_R_some h
    refine c_VI E hw (kX10_isWord (l := l) (G := G) (Z := Z) (by decide) h3) yy_X10_isWord lm_RX10_115 rfl (by decide) rfl rfl hl.1 (by decide) (by decide) rfl (Nat.le_of_ble_eq_true rfl) dX10_readPart_37 (fun H locs hw => ?_)
    refine lv_if_eq (tgt := 47) hx hb dX10_readPart_40 (by decide) (fun c25 => ?_) (fun c25 => ?_)
    · rw [if_pos c25] at h
      refine lv_aload_n hx hb dX10_readPart_47 rfl (lv_at hl 0 rfl) ?_
      refine r_ls (w := 53) E (by decide) rfl rfl dX10_readPart_48 ?_
      obtain ⟨y6, h5, h⟩ := ob_R_some h
      refine c_VI E hw (kX10_isWord (l := l) (G := G) (Z := Z) (by decide) h5) yy_X10_isWord lm_RX10_115 rfl (by decide) rfl rfl hl.1 (by decide) (by decide) rfl (Nat.le_of_ble_eq_true rfl) dX10_readPart_50 (fun H locs hw => ?_)
      refine lv_if_eq (tgt := 60) hx hb dX10_readPart_53 (by decide) (fun c24 => ?_) (fun c24 => ?_)
      · rw [if_pos c24] at h
        refine lv_aload_n hx hb dX10_readPart_60 rfl (lv_at hl 0 rfl) ?_
        refine r_ls (w := 54) E (by decide) rfl rfl dX10_readPart_61 ?_
        obtain ⟨y8, h7, h⟩ := ob_R_some h
        refine c_VI E hw (kX10_isWord (l := l) (G := G) (Z := Z) (by decide) h7) yy_X10_isWord lm_RX10_115 rfl (by decide) rfl rfl hl.1 (by decide) (by decide) rfl (Nat.le_of_ble_eq_true rfl) dX10_readPart_63 (fun H locs hw => ?_)
        refine lv_if_eq (tgt := 73) hx hb dX10_readPart_66 (by decide) (fun c23 => ?_) (fun c23 => ?_)
        · rw [if_pos c23] at h
          refine lv_aload_n hx hb dX10_readPart_73 rfl (lv_at hl 0 rfl) ?_
          refine r_ls (w := 55) E (by decide) rfl rfl dX10_readPart_74 ?_
          obtain ⟨y10, h9, h⟩ := ob_R_some h
          refine c_VI E hw (kX10_isWord (l := l) (G := G) (Z := Z) (by decide) h9) yy_X10_isWord lm_RX10_115 rfl (by decide) rfl rfl hl.1 (by decide) (by decide) rfl (Nat.le_of_ble_eq_true rfl) dX10_readPart_76 (fun H locs hw => ?_)
          refine lv_if_eq (tgt := 86) hx hb dX10_readPart_79 (by decide) (fun c22 => ?_) (fun c22 => ?_)
          · rw [if_pos c22] at h
            refine lv_aload_n hx hb dX10_readPart_86 rfl (lv_at hl 0 rfl) ?_
            refine r_ls (w := 56) E (by decide) rfl rfl dX10_readPart_87 ?_
            obtain ⟨y12, h11, h⟩ := ob_R_some h
            refine c_VI E hw (kX10_isWord (l := l) (G := G) (Z := Z) (by decide) h11) yy_X10_isWord lm_RX10_115 rfl (by decide) rfl rfl hl.1 (by decide) (by decide) rfl (Nat.le_of_ble_eq_true rfl) dX10_readPart_89 (fun H locs hw => ?_)
            refine lv_if_eq (tgt := 99) hx hb dX10_readPart_92 (by decide) (fun c21 => ?_) (fun c21 => ?_)
            · rw [if_pos c21] at h
              refine lv_aload_n hx hb dX10_readPart_99 rfl (lv_at hl 0 rfl) ?_
              refine r_ls (w := 57) E (by decide) rfl rfl dX10_readPart_100 ?_
              obtain ⟨y14, h13, h⟩ := ob_R_some h
              refine c_VI E hw (kX10_isWord (l := l) (G := G) (Z := Z) (by decide) h13) yy_X10_isWord lm_RX10_115 rfl (by decide) rfl rfl hl.1 (by decide) (by decide) rfl (Nat.le_of_ble_eq_true rfl) dX10_readPart_102 (fun H locs hw => ?_)
              refine lv_if_eq (tgt := 112) hx hb dX10_readPart_105 (by decide) (fun c20 => ?_) (fun c20 => ?_)
              · rw [if_pos c20] at h
                refine lv_iconst (v := (-1 : Int32)) hx hb dX10_readPart_112 (by decide) ?_
                exact wX10_readPart_j113 E h kr hw (lv_sub hl [0] rfl)
              · rw [if_neg c20] at h
                refine lv_iconst (v := (5 : Int32)) hx hb dX10_readPart_108 (by decide) ?_
                refine lv_goto (tgt := 113) hx hb dX10_readPart_109 (by decide) ?_
                exact wX10_readPart_j113 E h kr hw (lv_sub hl [0] rfl)
            · rw [if_neg c21] at h
              refine lv_iconst (v := (4 : Int32)) hx hb dX10_readPart_95 (by decide) ?_
              refine lv_goto (tgt := 113) hx hb dX10_readPart_96 (by decide) ?_
              exact wX10_readPart_j113 E h kr hw (lv_sub hl [0] rfl)
          · rw [if_neg c22] at h
            refine lv_iconst (v := (3 : Int32)) hx hb dX10_readPart_82 (by decide) ?_
            refine lv_goto (tgt := 113) hx hb dX10_readPart_83 (by decide) ?_
            exact wX10_readPart_j113 E h kr hw (lv_sub hl [0] rfl)
        · rw [if_neg c23] at h
          refine lv_iconst (v := (2 : Int32)) hx hb dX10_readPart_69 (by decide) ?_
          refine lv_goto (tgt := 113) hx hb dX10_readPart_70 (by decide) ?_
          exact wX10_readPart_j113 E h kr hw (lv_sub hl [0] rfl)
      · rw [if_neg c24] at h
        refine lv_iconst (v := (1 : Int32)) hx hb dX10_readPart_56 (by decide) ?_
        refine lv_goto (tgt := 113) hx hb dX10_readPart_57 (by decide) ?_
        exact wX10_readPart_j113 E h kr hw (lv_sub hl [0] rfl)
    · rw [if_neg c25] at h
      refine lv_iconst (v := (0 : Int32)) hx hb dX10_readPart_43 (by decide) ?_
      refine lv_goto (tgt := 113) hx hb dX10_readPart_44 (by decide) ?_
      exact wX10_readPart_j113 E h kr hw (lv_sub hl [0] rfl)
  · rw [if_pos c31] at h
    refine lv_aload_n hx hb dX10_readPart_15 rfl (lv_at hl 0 rfl) ?_
    refine lv_iconst (v := (0 : Int32)) hx hb dX10_readPart_16 (by decide) ?_
    refine lv_sipush (v := (999 : Int32)) hx hb dX10_readPart_17 (by decide) ?_
    obtain ⟨y27, V28, h26, h⟩ := ob_I_some h
    refine c_VI E hw (kX10_number (l := l) (G := G) hB  h26) yy_X10_number lm_RX10_119 rfl (by decide) rfl rfl hl.1 (by decide) (by decide) rfl (Nat.le_of_ble_eq_true rfl) dX10_readPart_20 (fun H locs hw => ?_)
    refine lv_istore_n (lv' := [(1, .int y27), (0, .ref (G.2.2 22))]) hx hb dX10_readPart_23 rfl hl (by decide) rfl (fun ls hl => ?_)
    refine lv_aload_n hx hb dX10_readPart_24 rfl (lv_at hl 1 rfl) ?_
    refine lv_bipush (v := (9 : Int32)) hx hb dX10_readPart_25 (by decide) ?_
    refine lv_iload_n hx hb dX10_readPart_27 rfl (lv_at hl 0 rfl) ?_
    obtain ⟨V30, h29, h⟩ := ob_R_some h
    refine c_VV E hw (kX10_emits (l := l) (G := G) hB  h29) yy_X10_emits lm_RX10_163 rfl (by decide) rfl rfl hl.1 (by decide) (by decide) rfl (Nat.le_of_ble_eq_true rfl) dX10_readPart_28 (fun H locs hw => ?_)
    refine lv_goto (tgt := 120) hx hb dX10_readPart_31 (by decide) ?_
    exact wX10_readPart_j120 E h kr hw (lv_sub hl [0] rfl)
/-! ===== AllSawItModel.readSum()Z ===== -/
theorem dX10_readSum_0 : decode cX10_readSum 0 = .ok (.aload_n 0, 1) := by decide +kernel
theorem dX10_readSum_1 : decode cX10_readSum 1 = .ok (.invokevirtual 177, 3) := by decide +kernel
theorem dX10_readSum_4 : decode cX10_readSum 4 = .ok (.ifCond .ne 5, 3) := by decide +kernel
theorem dX10_readSum_7 : decode cX10_readSum 7 = .ok (.iconst 0, 1) := by decide +kernel
theorem dX10_readSum_8 : decode cX10_readSum 8 = .ok (.ireturn, 1) := by decide +kernel
theorem dX10_readSum_9 : decode cX10_readSum 9 = .ok (.aload_n 0, 1) := by decide +kernel
theorem dX10_readSum_10 : decode cX10_readSum 10 = .ok (.bipush 43, 2) := by decide +kernel
theorem dX10_readSum_12 : decode cX10_readSum 12 = .ok (.invokevirtual 180, 3) := by decide +kernel
theorem dX10_readSum_15 : decode cX10_readSum 15 = .ok (.ifCond .eq 22, 3) := by decide +kernel
theorem dX10_readSum_18 : decode cX10_readSum 18 = .ok (.aload_n 0, 1) := by decide +kernel
theorem dX10_readSum_19 : decode cX10_readSum 19 = .ok (.invokevirtual 177, 3) := by decide +kernel
theorem dX10_readSum_22 : decode cX10_readSum 22 = .ok (.ifCond .ne 5, 3) := by decide +kernel
theorem dX10_readSum_25 : decode cX10_readSum 25 = .ok (.iconst 0, 1) := by decide +kernel
theorem dX10_readSum_26 : decode cX10_readSum 26 = .ok (.ireturn, 1) := by decide +kernel
theorem dX10_readSum_27 : decode cX10_readSum 27 = .ok (.aload_n 0, 1) := by decide +kernel
theorem dX10_readSum_28 : decode cX10_readSum 28 = .ok (.bipush 10, 2) := by decide +kernel
theorem dX10_readSum_30 : decode cX10_readSum 30 = .ok (.iconst 0, 1) := by decide +kernel
theorem dX10_readSum_31 : decode cX10_readSum 31 = .ok (.invokevirtual 163, 3) := by decide +kernel
theorem dX10_readSum_34 : decode cX10_readSum 34 = .ok (.goto (-25), 3) := by decide +kernel
theorem dX10_readSum_37 : decode cX10_readSum 37 = .ok (.iconst 1, 1) := by decide +kernel
theorem dX10_readSum_38 : decode cX10_readSum 38 = .ok (.ireturn, 1) := by decide +kernel
noncomputable def fX10_readSum_L9 (V : VT) : Option (VT ⊕ (Int32 × VT)) := ob_I (fX10_sign V (43 : Int32)) fun y5 V6 => if y5 = 0 then (zo_ (1 : Int32) (some (.inr (((1 : Int32), V6))))) else (ob_I (fX10_readPart V6 ) fun y9 V10 => if y9 = 0 then (zo_ (0 : Int32) (some (.inr (((0 : Int32), V10))))) else (ob_R (fX10_emits V10 (10 : Int32) (0 : Int32)) fun V12 => some (.inl V12)))
noncomputable def iX10_readSum_L9 : VT → Option (VT ⊕ (Int32 × VT)) := fun q => fX10_readSum_L9 (q)
noncomputable def fX10_readSum (V : VT) : Option (Int32 × VT) := ob_I (fX10_readPart V ) fun y2 V3 => if y2 = 0 then (zo_ (0 : Int32) (some ((0 : Int32), V3))) else (ob_R (it_ (iX10_readSum_L9) FV V3) fun x17 => some x17)
set_option maxHeartbeats 4000000 in
set_option maxRecDepth 100000 in
theorem wX10_readSum_L9 {p : Program} {l : Launch} {e : Env} {s : State} {m : MethodId} {args : Array Value} {below : List Frame} {meth : Method} {c : Code} {G : GT} {Z : Nat → Nat × Nat} {Q : State → Prop} (E : En p s m args c meth cX10_readSum 1 RX10 (some .boolean) G (SG Z)) {x : (Int32 × VT)} (kr : ∀ q : (Int32 × VT), x = q → Q = MQ below (QI G s.heap.size q.1 q.2) args s 0 0 (gA G s.heap.size)) : ∀ (n : Nat) (q : VT), it_ (iX10_readSum_L9) n q = some x → ∀ (H : Heap) (locs : List Loc) (ls : Array Slot), HW G s.heap q H locs → lv_has ls 1 [(0, .ref (G.2.2 22))] → W p l e (rmD 7) s m args below meth c H locs 0 0 Q (F0 m 9 ls []) := by
  have hx := en_x E
  have hb := en_b E
  have hB := en_B E
  refine it_W (fun q : VT => ∀ (H : Heap) (locs : List Loc) (ls : Array Slot), HW G s.heap q H locs → lv_has ls 1 [(0, .ref (G.2.2 22))] → W p l e (rmD 7) s m args below meth c H locs 0 0 Q (F0 m 9 ls [])) x ?_
  intro q r h kc kx
  obtain ⟨V, rfl⟩ : ∃ z, z = q := ⟨_, rfl⟩
  intro H locs ls hw hl
  have h : fX10_readSum_L9 V = some r := h
  have hw : HW G s.heap V H locs := hw
  have hl : lv_has ls 1 [(0, .ref (G.2.2 22))] := hl
  have kr : ∀ q : (Int32 × VT), r = .inr (q) → Q = MQ below (QI G s.heap.size q.1 q.2) args s 0 0 (gA G s.heap.size) := fun q e => kr q (kx _ e).symm
  unfold fX10_readSum_L9 at h
  refine lv_aload_n hx hb dX10_readSum_9 rfl (lv_at hl 0 rfl) ?_
  refine lv_bipush (v := (43 : Int32)) hx hb dX10_readSum_10 (by decide) ?_
  obtain ⟨y5, V6, h4, h⟩ := ob_I_some h
  refine c_VI E hw (kX10_sign (l := l) (G := G) hB  h4) yy_X10_sign lm_RX10_180 rfl (by decide) rfl rfl hl.1 (by decide) (by decide) rfl (Nat.le_of_ble_eq_true rfl) dX10_readSum_12 (fun H locs hw => ?_)
  refine lv_if_eq (tgt := 37) hx hb dX10_readSum_15 (by decide) (fun c15 => ?_) (fun c15 => ?_)
  · rw [if_pos c15] at h
    refine lv_iconst (v := (1 : Int32)) hx hb dX10_readSum_37 (by decide) ?_
    obtain ⟨z7, h⟩ := zo_some h
    rw [kr ((1 : Int32), V6) (Option.some.inj h).symm]
    exact r_rz E hw z7 dX10_readSum_38
  · rw [if_neg c15] at h
    refine lv_aload_n hx hb dX10_readSum_18 rfl (lv_at hl 0 rfl) ?_
    obtain ⟨y9, V10, h8, h⟩ := ob_I_some h
    refine c_VI E hw (kX10_readPart (l := l) (G := G) (Z := Z)  h8) yy_X10_readPart lm_RX10_177 rfl (by decide) rfl rfl hl.1 (by decide) (by decide) rfl (Nat.le_of_ble_eq_true rfl) dX10_readSum_19 (fun H locs hw => ?_)
    refine lv_if_ne (tgt := 27) hx hb dX10_readSum_22 (by decide) (fun c14 => ?_) (fun c14 => ?_)
    · rw [if_neg c14] at h
      refine lv_aload_n hx hb dX10_readSum_27 rfl (lv_at hl 0 rfl) ?_
      refine lv_bipush (v := (10 : Int32)) hx hb dX10_readSum_28 (by decide) ?_
      refine lv_iconst (v := (0 : Int32)) hx hb dX10_readSum_30 (by decide) ?_
      obtain ⟨V12, h11, h⟩ := ob_R_some h
      refine c_VV E hw (kX10_emits (l := l) (G := G) hB  h11) yy_X10_emits lm_RX10_163 rfl (by decide) rfl rfl hl.1 (by decide) (by decide) rfl (Nat.le_of_ble_eq_true rfl) dX10_readSum_31 (fun H locs hw => ?_)
      refine lv_goto (tgt := 9) hx hb dX10_readSum_34 (by decide) ?_
      exact kc V12 (Option.some.inj h).symm H locs ls hw (lv_sub hl [0] rfl)
    · rw [if_pos c14] at h
      refine lv_iconst (v := (0 : Int32)) hx hb dX10_readSum_25 (by decide) ?_
      obtain ⟨z13, h⟩ := zo_some h
      rw [kr ((0 : Int32), V10) (Option.some.inj h).symm]
      exact r_rz E hw z13 dX10_readSum_26
set_option maxHeartbeats 4000000 in
set_option maxRecDepth 100000 in
theorem kX10_readSum {l : Launch} {G : GT} {Z : Nat → Nat × Nat} {V : VT} {r : (Int32 × VT)} (h : fX10_readSum V = some r) : CI l G (SG Z) yX10_readSum (.code yX10_readSum cX10_readSum 1 (some .boolean)) 7 [.ref (G.2.2 22)] V r.1 r.2 := by
  intro sz
  refine met_of (Qs := fun sz => QI G sz (r.1) (r.2)) (SG_ok Z) (by decide) (Nat.le_of_ble_eq_true rfl) ?_ sz
  intro p e s m args below meth c ls E hw hl
  have hx := en_x E
  have hb := en_b E
  have hB := en_B E
  generalize hQ : MQ _ _ _ _ _ _ _ = Q
  have kr : Q = MQ below (QI G s.heap.size r.1 r.2) args s 0 0 (gA G s.heap.size) := hQ.symm
  have hl : lv_has ls 1 [(0, .ref (G.2.2 22))] := hl
  obtain ⟨H, eH⟩ : ∃ H, H = s.heap := ⟨_, rfl⟩
  obtain ⟨locs, elocs⟩ : ∃ z : List Loc, z = [] := ⟨_, rfl⟩
  have hw : HW G s.heap V H locs := by rw [eH, elocs]; exact hw
  show W p l e _ s m args below meth c s.heap [] 0 0 Q (F0 m 0 ls [])
  rw [← eH, ← elocs]
  unfold fX10_readSum at h
  refine lv_aload_n hx hb dX10_readSum_0 rfl (lv_at hl 0 rfl) ?_
  obtain ⟨y2, V3, h1, h⟩ := ob_I_some h
  refine c_VI E hw (kX10_readPart (l := l) (G := G) (Z := Z)  h1) yy_X10_readPart lm_RX10_177 rfl (by decide) rfl rfl hl.1 (by decide) (by decide) rfl (Nat.le_of_ble_eq_true rfl) dX10_readSum_1 (fun H locs hw => ?_)
  refine lv_if_ne (tgt := 9) hx hb dX10_readSum_4 (by decide) (fun c19 => ?_) (fun c19 => ?_)
  · rw [if_neg c19] at h
    obtain ⟨x17, h16, h⟩ := ob_R_some h
    have h := Option.some.inj h
    subst h
    exact wX10_readSum_L9 E (fun q e => by subst e; exact kr) FV V3 h16 H locs ls hw (lv_sub hl [0] rfl)
  · rw [if_pos c19] at h
    refine lv_iconst (v := (0 : Int32)) hx hb dX10_readSum_7 (by decide) ?_
    obtain ⟨z18, h⟩ := zo_some h
    have h := Option.some.inj h
    subst h
    rw [kr]
    exact r_rz E hw z18 dX10_readSum_8
/-! ===== AllSawItModel.readTag()Z ===== -/
theorem dX10_readTag_0 : decode cX10_readTag 0 = .ok (.aload_n 0, 1) := by decide +kernel
theorem dX10_readTag_1 : decode cX10_readTag 1 = .ok (.invokevirtual 112, 3) := by decide +kernel
theorem dX10_readTag_4 : decode cX10_readTag 4 = .ok (.aload_n 0, 1) := by decide +kernel
theorem dX10_readTag_5 : decode cX10_readTag 5 = .ok (.ldc 130, 2) := by decide +kernel
theorem dX10_readTag_7 : decode cX10_readTag 7 = .ok (.invokevirtual 115, 3) := by decide +kernel
theorem dX10_readTag_10 : decode cX10_readTag 10 = .ok (.ifCond .eq 8, 3) := by decide +kernel
theorem dX10_readTag_13 : decode cX10_readTag 13 = .ok (.bipush 6, 2) := by decide +kernel
theorem dX10_readTag_15 : decode cX10_readTag 15 = .ok (.goto 32, 3) := by decide +kernel
theorem dX10_readTag_18 : decode cX10_readTag 18 = .ok (.aload_n 0, 1) := by decide +kernel
theorem dX10_readTag_19 : decode cX10_readTag 19 = .ok (.ldc 153, 2) := by decide +kernel
theorem dX10_readTag_21 : decode cX10_readTag 21 = .ok (.invokevirtual 115, 3) := by decide +kernel
theorem dX10_readTag_24 : decode cX10_readTag 24 = .ok (.ifCond .eq 8, 3) := by decide +kernel
theorem dX10_readTag_27 : decode cX10_readTag 27 = .ok (.bipush 7, 2) := by decide +kernel
theorem dX10_readTag_29 : decode cX10_readTag 29 = .ok (.goto 18, 3) := by decide +kernel
theorem dX10_readTag_32 : decode cX10_readTag 32 = .ok (.aload_n 0, 1) := by decide +kernel
theorem dX10_readTag_33 : decode cX10_readTag 33 = .ok (.ldc 184, 2) := by decide +kernel
theorem dX10_readTag_35 : decode cX10_readTag 35 = .ok (.invokevirtual 115, 3) := by decide +kernel
theorem dX10_readTag_38 : decode cX10_readTag 38 = .ok (.ifCond .eq 8, 3) := by decide +kernel
theorem dX10_readTag_41 : decode cX10_readTag 41 = .ok (.bipush 8, 2) := by decide +kernel
theorem dX10_readTag_43 : decode cX10_readTag 43 = .ok (.goto 4, 3) := by decide +kernel
theorem dX10_readTag_46 : decode cX10_readTag 46 = .ok (.iconst (-1), 1) := by decide +kernel
theorem dX10_readTag_47 : decode cX10_readTag 47 = .ok (.istore_n 1, 1) := by decide +kernel
theorem dX10_readTag_48 : decode cX10_readTag 48 = .ok (.iload_n 1, 1) := by decide +kernel
theorem dX10_readTag_49 : decode cX10_readTag 49 = .ok (.ifCond .lt 12, 3) := by decide +kernel
theorem dX10_readTag_52 : decode cX10_readTag 52 = .ok (.aload_n 0, 1) := by decide +kernel
theorem dX10_readTag_53 : decode cX10_readTag 53 = .ok (.iload_n 1, 1) := by decide +kernel
theorem dX10_readTag_54 : decode cX10_readTag 54 = .ok (.iconst 0, 1) := by decide +kernel
theorem dX10_readTag_55 : decode cX10_readTag 55 = .ok (.invokevirtual 163, 3) := by decide +kernel
theorem dX10_readTag_58 : decode cX10_readTag 58 = .ok (.goto 11, 3) := by decide +kernel
theorem dX10_readTag_61 : decode cX10_readTag 61 = .ok (.aload_n 0, 1) := by decide +kernel
theorem dX10_readTag_62 : decode cX10_readTag 62 = .ok (.aload_n 0, 1) := by decide +kernel
theorem dX10_readTag_63 : decode cX10_readTag 63 = .ok (.getfield 97, 3) := by decide +kernel
theorem dX10_readTag_66 : decode cX10_readTag 66 = .ok (.putfield 87, 3) := by decide +kernel
theorem dX10_readTag_69 : decode cX10_readTag 69 = .ok (.iload_n 1, 1) := by decide +kernel
theorem dX10_readTag_70 : decode cX10_readTag 70 = .ok (.ifCond .lt 7, 3) := by decide +kernel
theorem dX10_readTag_73 : decode cX10_readTag 73 = .ok (.iconst 1, 1) := by decide +kernel
theorem dX10_readTag_74 : decode cX10_readTag 74 = .ok (.goto 4, 3) := by decide +kernel
theorem dX10_readTag_77 : decode cX10_readTag 77 = .ok (.iconst 0, 1) := by decide +kernel
theorem dX10_readTag_78 : decode cX10_readTag 78 = .ok (.ireturn, 1) := by decide +kernel
noncomputable def fX10_readTag_j69 (V : VT) (u1 : Int32) : Option (Int32 × VT) := if u1 < 0 then (zo_ (0 : Int32) (some ((0 : Int32), V))) else (zo_ (1 : Int32) (some ((1 : Int32), V)))
noncomputable def fX10_readTag_j47 (V : VT) (t0 : Int32) : Option (Int32 × VT) := if t0 < 0 then (lt_ (va_up V 22 (upd (V 22) 10 (V 22 12))) fun V9 => fX10_readTag_j69 V9 t0) else (ob_R (fX10_emits V t0 (0 : Int32)) fun V14 => fX10_readTag_j69 V14 t0)
noncomputable def fX10_readTag (V : VT) : Option (Int32 × VT) := ob_R (fX10_letters V ) fun V2 => ob_R (fX10_isWord V2 44) fun y4 => if y4 = 0 then (ob_R (fX10_isWord V2 51) fun y6 => if y6 = 0 then (ob_R (fX10_isWord V2 58) fun y8 => if y8 = 0 then (fX10_readTag_j47 V2 (-1 : Int32)) else (fX10_readTag_j47 V2 (8 : Int32))) else (fX10_readTag_j47 V2 (7 : Int32))) else (fX10_readTag_j47 V2 (6 : Int32))
set_option maxHeartbeats 4000000 in
set_option maxRecDepth 100000 in
theorem wX10_readTag_j69 {p : Program} {l : Launch} {e : Env} {s : State} {m : MethodId} {args : Array Value} {below : List Frame} {meth : Method} {c : Code} {G : GT} {Z : Nat → Nat × Nat} {Q : State → Prop} (E : En p s m args c meth cX10_readTag 2 RX10 (some .boolean) G (SG Z)) {V : VT} {u1 : Int32} {r : (Int32 × VT)} (h : fX10_readTag_j69 V u1 = some r) (kr : Q = MQ below (QI G s.heap.size r.1 r.2) args s 0 0 (gA G s.heap.size)) {H : Heap} {locs : List Loc} {ls : Array Slot} (hw : HW G s.heap V H locs) (hl : lv_has ls 2 [(1, .int u1)]) : W p l e (rmD 6) s m args below meth c H locs 0 0 Q (F0 m 69 ls []) := by
  have hx := en_x E
  have hb := en_b E
  have hB := en_B E
  unfold fX10_readTag_j69 at h
  refine lv_iload_n hx hb dX10_readTag_69 rfl (lv_at hl 0 rfl) ?_
  refine lv_if_lt (tgt := 77) hx hb dX10_readTag_70 (by decide) (fun c12 => ?_) (fun c12 => ?_)
  · rw [if_pos c12] at h
    refine lv_iconst (v := (0 : Int32)) hx hb dX10_readTag_77 (by decide) ?_
    obtain ⟨z10, h⟩ := zo_some h
    have h := Option.some.inj h
    subst h
    rw [kr]
    exact r_rz E hw z10 dX10_readTag_78
  · rw [if_neg c12] at h
    refine lv_iconst (v := (1 : Int32)) hx hb dX10_readTag_73 (by decide) ?_
    refine lv_goto (tgt := 78) hx hb dX10_readTag_74 (by decide) ?_
    obtain ⟨z11, h⟩ := zo_some h
    have h := Option.some.inj h
    subst h
    rw [kr]
    exact r_rz E hw z11 dX10_readTag_78
set_option maxHeartbeats 4000000 in
set_option maxRecDepth 100000 in
theorem wX10_readTag_j47 {p : Program} {l : Launch} {e : Env} {s : State} {m : MethodId} {args : Array Value} {below : List Frame} {meth : Method} {c : Code} {G : GT} {Z : Nat → Nat × Nat} {Q : State → Prop} (E : En p s m args c meth cX10_readTag 2 RX10 (some .boolean) G (SG Z)) {V : VT} {t0 : Int32} {r : (Int32 × VT)} (h : fX10_readTag_j47 V t0 = some r) (kr : Q = MQ below (QI G s.heap.size r.1 r.2) args s 0 0 (gA G s.heap.size)) {H : Heap} {locs : List Loc} {ls : Array Slot} (hw : HW G s.heap V H locs) (hl : lv_has ls 2 [(0, .ref (G.2.2 22))]) : W p l e (rmD 6) s m args below meth c H locs 0 0 Q (F0 m 47 ls [.int t0]) := by
  have hx := en_x E
  have hb := en_b E
  have hB := en_B E
  unfold fX10_readTag_j47 at h
  refine lv_istore_n (lv' := [(1, .int t0), (0, .ref (G.2.2 22))]) hx hb dX10_readTag_47 rfl hl (by decide) rfl (fun ls hl => ?_)
  refine lv_iload_n hx hb dX10_readTag_48 rfl (lv_at hl 0 rfl) ?_
  refine lv_if_lt (tgt := 61) hx hb dX10_readTag_49 (by decide) (fun c15 => ?_) (fun c15 => ?_)
  · rw [if_pos c15] at h
    refine lv_aload_n hx hb dX10_readTag_61 rfl (lv_at hl 1 rfl) ?_
    refine lv_aload_n hx hb dX10_readTag_62 rfl (lv_at hl 1 rfl) ?_
    refine r_gi E hw 22 12 (N := 29) (C := RX10) (T := TX10) (by decide) rfl rfl (by decide) rfl iw_10 rfl lf_RX10_97 dX10_readTag_63 ?_
    obtain ⟨V9, eV9, h⟩ := lt_some h
    refine r_pi E hw 22 10 (N := 29) (C := RX10) (T := TX10) (ty0 := tyX10) (ty := .int) (by decide) rfl rfl (by decide) rfl iw_10 rfl tyX10_ok nmX10 rfl rfl (vp_nar_int _) rfl lf_RX10_87 eV9 dX10_readTag_66 (fun H locs hw => ?_)
    exact wX10_readTag_j69 E h kr hw (lv_sub hl [0] rfl)
  · rw [if_neg c15] at h
    refine lv_aload_n hx hb dX10_readTag_52 rfl (lv_at hl 1 rfl) ?_
    refine lv_iload_n hx hb dX10_readTag_53 rfl (lv_at hl 0 rfl) ?_
    refine lv_iconst (v := (0 : Int32)) hx hb dX10_readTag_54 (by decide) ?_
    obtain ⟨V14, h13, h⟩ := ob_R_some h
    refine c_VV E hw (kX10_emits (l := l) (G := G) hB  h13) yy_X10_emits lm_RX10_163 rfl (by decide) rfl rfl hl.1 (by decide) (by decide) rfl (Nat.le_of_ble_eq_true rfl) dX10_readTag_55 (fun H locs hw => ?_)
    refine lv_goto (tgt := 69) hx hb dX10_readTag_58 (by decide) ?_
    exact wX10_readTag_j69 E h kr hw (lv_sub hl [0] rfl)
set_option maxHeartbeats 4000000 in
set_option maxRecDepth 100000 in
theorem kX10_readTag {l : Launch} {G : GT} {Z : Nat → Nat × Nat} {V : VT} {r : (Int32 × VT)} (h : fX10_readTag V = some r) : CI l G (SG Z) yX10_readTag (.code yX10_readTag cX10_readTag 2 (some .boolean)) 6 [.ref (G.2.2 22)] V r.1 r.2 := by
  intro sz
  refine met_of (Qs := fun sz => QI G sz (r.1) (r.2)) (SG_ok Z) (by decide) (Nat.le_of_ble_eq_true rfl) ?_ sz
  intro p e s m args below meth c ls E hw hl
  have hx := en_x E
  have hb := en_b E
  have hB := en_B E
  generalize hQ : MQ _ _ _ _ _ _ _ = Q
  have kr : Q = MQ below (QI G s.heap.size r.1 r.2) args s 0 0 (gA G s.heap.size) := hQ.symm
  have hl : lv_has ls 2 [(0, .ref (G.2.2 22))] := hl
  obtain ⟨H, eH⟩ : ∃ H, H = s.heap := ⟨_, rfl⟩
  obtain ⟨locs, elocs⟩ : ∃ z : List Loc, z = [] := ⟨_, rfl⟩
  have hw : HW G s.heap V H locs := by rw [eH, elocs]; exact hw
  show W p l e _ s m args below meth c s.heap [] 0 0 Q (F0 m 0 ls [])
  rw [← eH, ← elocs]
  unfold fX10_readTag at h
  refine lv_aload_n hx hb dX10_readTag_0 rfl (lv_at hl 0 rfl) ?_
  obtain ⟨V2, h1, h⟩ := ob_R_some h
  refine c_VV E hw (kX10_letters (l := l) (G := G) hB  h1) yy_X10_letters lm_RX10_112 rfl (by decide) rfl rfl hl.1 (by decide) (by decide) rfl (Nat.le_of_ble_eq_true rfl) dX10_readTag_1 (fun H locs hw => ?_)
  refine lv_aload_n hx hb dX10_readTag_4 rfl (lv_at hl 0 rfl) ?_
  refine r_ls (w := 44) E (by decide) rfl rfl dX10_readTag_5 ?_
  obtain ⟨y4, h3, h⟩ := ob_R_some h
  refine c_VI E hw (kX10_isWord (l := l) (G := G) (Z := Z) (by decide) h3) yy_X10_isWord lm_RX10_115 rfl (by decide) rfl rfl hl.1 (by decide) (by decide) rfl (Nat.le_of_ble_eq_true rfl) dX10_readTag_7 (fun H locs hw => ?_)
  refine lv_if_eq (tgt := 18) hx hb dX10_readTag_10 (by decide) (fun c18 => ?_) (fun c18 => ?_)
  · rw [if_pos c18] at h
    refine lv_aload_n hx hb dX10_readTag_18 rfl (lv_at hl 0 rfl) ?_
    refine r_ls (w := 51) E (by decide) rfl rfl dX10_readTag_19 ?_
    obtain ⟨y6, h5, h⟩ := ob_R_some h
    refine c_VI E hw (kX10_isWord (l := l) (G := G) (Z := Z) (by decide) h5) yy_X10_isWord lm_RX10_115 rfl (by decide) rfl rfl hl.1 (by decide) (by decide) rfl (Nat.le_of_ble_eq_true rfl) dX10_readTag_21 (fun H locs hw => ?_)
    refine lv_if_eq (tgt := 32) hx hb dX10_readTag_24 (by decide) (fun c17 => ?_) (fun c17 => ?_)
    · rw [if_pos c17] at h
      refine lv_aload_n hx hb dX10_readTag_32 rfl (lv_at hl 0 rfl) ?_
      refine r_ls (w := 58) E (by decide) rfl rfl dX10_readTag_33 ?_
      obtain ⟨y8, h7, h⟩ := ob_R_some h
      refine c_VI E hw (kX10_isWord (l := l) (G := G) (Z := Z) (by decide) h7) yy_X10_isWord lm_RX10_115 rfl (by decide) rfl rfl hl.1 (by decide) (by decide) rfl (Nat.le_of_ble_eq_true rfl) dX10_readTag_35 (fun H locs hw => ?_)
      refine lv_if_eq (tgt := 46) hx hb dX10_readTag_38 (by decide) (fun c16 => ?_) (fun c16 => ?_)
      · rw [if_pos c16] at h
        refine lv_iconst (v := (-1 : Int32)) hx hb dX10_readTag_46 (by decide) ?_
        exact wX10_readTag_j47 E h kr hw (lv_sub hl [0] rfl)
      · rw [if_neg c16] at h
        refine lv_bipush (v := (8 : Int32)) hx hb dX10_readTag_41 (by decide) ?_
        refine lv_goto (tgt := 47) hx hb dX10_readTag_43 (by decide) ?_
        exact wX10_readTag_j47 E h kr hw (lv_sub hl [0] rfl)
    · rw [if_neg c17] at h
      refine lv_bipush (v := (7 : Int32)) hx hb dX10_readTag_27 (by decide) ?_
      refine lv_goto (tgt := 47) hx hb dX10_readTag_29 (by decide) ?_
      exact wX10_readTag_j47 E h kr hw (lv_sub hl [0] rfl)
  · rw [if_neg c18] at h
    refine lv_bipush (v := (6 : Int32)) hx hb dX10_readTag_13 (by decide) ?_
    refine lv_goto (tgt := 47) hx hb dX10_readTag_15 (by decide) ?_
    exact wX10_readTag_j47 E h kr hw (lv_sub hl [0] rfl)
/-! ===== AllSawIt$LawText.factCode(LAllSawIt$Tape;)I ===== -/
theorem dX4_factCode_0 : decode cX4_factCode 0 = .ok (.aload_n 0, 1) := by decide +kernel
theorem dX4_factCode_1 : decode cX4_factCode 1 = .ok (.ldc 77, 2) := by decide +kernel
theorem dX4_factCode_3 : decode cX4_factCode 3 = .ok (.invokevirtual 27, 3) := by decide +kernel
theorem dX4_factCode_6 : decode cX4_factCode 6 = .ok (.ifCond .eq 5, 3) := by decide +kernel
theorem dX4_factCode_9 : decode cX4_factCode 9 = .ok (.iconst 0, 1) := by decide +kernel
theorem dX4_factCode_10 : decode cX4_factCode 10 = .ok (.ireturn, 1) := by decide +kernel
theorem dX4_factCode_11 : decode cX4_factCode 11 = .ok (.aload_n 0, 1) := by decide +kernel
theorem dX4_factCode_12 : decode cX4_factCode 12 = .ok (.ldc 79, 2) := by decide +kernel
theorem dX4_factCode_14 : decode cX4_factCode 14 = .ok (.invokevirtual 27, 3) := by decide +kernel
theorem dX4_factCode_17 : decode cX4_factCode 17 = .ok (.ifCond .eq 5, 3) := by decide +kernel
theorem dX4_factCode_20 : decode cX4_factCode 20 = .ok (.iconst 1, 1) := by decide +kernel
theorem dX4_factCode_21 : decode cX4_factCode 21 = .ok (.ireturn, 1) := by decide +kernel
theorem dX4_factCode_22 : decode cX4_factCode 22 = .ok (.aload_n 0, 1) := by decide +kernel
theorem dX4_factCode_23 : decode cX4_factCode 23 = .ok (.ldc 81, 2) := by decide +kernel
theorem dX4_factCode_25 : decode cX4_factCode 25 = .ok (.invokevirtual 27, 3) := by decide +kernel
theorem dX4_factCode_28 : decode cX4_factCode 28 = .ok (.ifCond .eq 7, 3) := by decide +kernel
theorem dX4_factCode_31 : decode cX4_factCode 31 = .ok (.iconst 2, 1) := by decide +kernel
theorem dX4_factCode_32 : decode cX4_factCode 32 = .ok (.goto 4, 3) := by decide +kernel
theorem dX4_factCode_35 : decode cX4_factCode 35 = .ok (.iconst (-1), 1) := by decide +kernel
theorem dX4_factCode_36 : decode cX4_factCode 36 = .ok (.ireturn, 1) := by decide +kernel
noncomputable def fX4_factCode (V : VT) : Option Int32 := ob_R (fX8_isWord V 22) fun y2 => if y2 = 0 then (ob_R (fX8_isWord V 23) fun y4 => if y4 = 0 then (ob_R (fX8_isWord V 24) fun y6 => if y6 = 0 then (some (-1 : Int32)) else (some (2 : Int32))) else (some (1 : Int32))) else (some (0 : Int32))
set_option maxHeartbeats 4000000 in
set_option maxRecDepth 100000 in
theorem kX4_factCode {l : Launch} {G : GT} {Z : Nat → Nat × Nat} {V : VT} {r : Int32} (h : fX4_factCode V = some r) : CI l G (SG Z) yX4_factCode (.code yX4_factCode cX4_factCode 1 (some .int)) 6 [.ref (G.2.2 1)] V r V := by
  intro sz
  refine met_of (Qs := fun sz => QI G sz r V) (SG_ok Z) (by decide) (Nat.le_of_ble_eq_true rfl) ?_ sz
  intro p e s m args below meth c ls E hw hl
  have hx := en_x E
  have hb := en_b E
  have hB := en_B E
  generalize hQ : MQ _ _ _ _ _ _ _ = Q
  have kr : Q = MQ below (QI G s.heap.size r V) args s 0 0 (gA G s.heap.size) := hQ.symm
  have hl : lv_has ls 1 [(0, .ref (G.2.2 1))] := hl
  obtain ⟨H, eH⟩ : ∃ H, H = s.heap := ⟨_, rfl⟩
  obtain ⟨locs, elocs⟩ : ∃ z : List Loc, z = [] := ⟨_, rfl⟩
  have hw : HW G s.heap V H locs := by rw [eH, elocs]; exact hw
  show W p l e _ s m args below meth c s.heap [] 0 0 Q (F0 m 0 ls [])
  rw [← eH, ← elocs]
  unfold fX4_factCode at h
  refine lv_aload_n hx hb dX4_factCode_0 rfl (lv_at hl 0 rfl) ?_
  refine r_ls (w := 22) E (by decide) rfl rfl dX4_factCode_1 ?_
  obtain ⟨y2, h1, h⟩ := ob_R_some h
  refine c_VI E hw (kX8_isWord (l := l) (G := G) (Z := Z) (by decide) h1) yy_X8_isWord lm_RX4_27 rfl (by decide) rfl rfl hl.1 (by decide) (by decide) rfl (Nat.le_of_ble_eq_true rfl) dX4_factCode_3 (fun H locs hw => ?_)
  refine lv_if_eq (tgt := 11) hx hb dX4_factCode_6 (by decide) (fun c9 => ?_) (fun c9 => ?_)
  · rw [if_pos c9] at h
    refine lv_aload_n hx hb dX4_factCode_11 rfl (lv_at hl 0 rfl) ?_
    refine r_ls (w := 23) E (by decide) rfl rfl dX4_factCode_12 ?_
    obtain ⟨y4, h3, h⟩ := ob_R_some h
    refine c_VI E hw (kX8_isWord (l := l) (G := G) (Z := Z) (by decide) h3) yy_X8_isWord lm_RX4_27 rfl (by decide) rfl rfl hl.1 (by decide) (by decide) rfl (Nat.le_of_ble_eq_true rfl) dX4_factCode_14 (fun H locs hw => ?_)
    refine lv_if_eq (tgt := 22) hx hb dX4_factCode_17 (by decide) (fun c8 => ?_) (fun c8 => ?_)
    · rw [if_pos c8] at h
      refine lv_aload_n hx hb dX4_factCode_22 rfl (lv_at hl 0 rfl) ?_
      refine r_ls (w := 24) E (by decide) rfl rfl dX4_factCode_23 ?_
      obtain ⟨y6, h5, h⟩ := ob_R_some h
      refine c_VI E hw (kX8_isWord (l := l) (G := G) (Z := Z) (by decide) h5) yy_X8_isWord lm_RX4_27 rfl (by decide) rfl rfl hl.1 (by decide) (by decide) rfl (Nat.le_of_ble_eq_true rfl) dX4_factCode_25 (fun H locs hw => ?_)
      refine lv_if_eq (tgt := 35) hx hb dX4_factCode_28 (by decide) (fun c7 => ?_) (fun c7 => ?_)
      · rw [if_pos c7] at h
        refine lv_iconst (v := (-1 : Int32)) hx hb dX4_factCode_35 (by decide) ?_
        have h := Option.some.inj h
        subst h
        rw [kr]
        exact r_ri E hw dX4_factCode_36
      · rw [if_neg c7] at h
        refine lv_iconst (v := (2 : Int32)) hx hb dX4_factCode_31 (by decide) ?_
        refine lv_goto (tgt := 36) hx hb dX4_factCode_32 (by decide) ?_
        have h := Option.some.inj h
        subst h
        rw [kr]
        exact r_ri E hw dX4_factCode_36
    · rw [if_neg c8] at h
      refine lv_iconst (v := (1 : Int32)) hx hb dX4_factCode_20 (by decide) ?_
      have h := Option.some.inj h
      subst h
      rw [kr]
      exact r_ri E hw dX4_factCode_21
  · rw [if_neg c9] at h
    refine lv_iconst (v := (0 : Int32)) hx hb dX4_factCode_9 (by decide) ?_
    have h := Option.some.inj h
    subst h
    rw [kr]
    exact r_ri E hw dX4_factCode_10
/-! ===== AllSawIt$LawText.partCode(LAllSawIt$Tape;)I ===== -/
theorem dX4_partCode_0 : decode cX4_partCode 0 = .ok (.aload_n 0, 1) := by decide +kernel
theorem dX4_partCode_1 : decode cX4_partCode 1 = .ok (.iconst 0, 1) := by decide +kernel
theorem dX4_partCode_2 : decode cX4_partCode 2 = .ok (.sipush 999, 3) := by decide +kernel
theorem dX4_partCode_5 : decode cX4_partCode 5 = .ok (.invokevirtual 89, 3) := by decide +kernel
theorem dX4_partCode_8 : decode cX4_partCode 8 = .ok (.ifCond .eq 11, 3) := by decide +kernel
theorem dX4_partCode_11 : decode cX4_partCode 11 = .ok (.bipush 100, 2) := by decide +kernel
theorem dX4_partCode_13 : decode cX4_partCode 13 = .ok (.aload_n 0, 1) := by decide +kernel
theorem dX4_partCode_14 : decode cX4_partCode 14 = .ok (.getfield 93, 3) := by decide +kernel
theorem dX4_partCode_17 : decode cX4_partCode 17 = .ok (.iadd, 1) := by decide +kernel
theorem dX4_partCode_18 : decode cX4_partCode 18 = .ok (.ireturn, 1) := by decide +kernel
theorem dX4_partCode_19 : decode cX4_partCode 19 = .ok (.aload_n 0, 1) := by decide +kernel
theorem dX4_partCode_20 : decode cX4_partCode 20 = .ok (.ldc 97, 2) := by decide +kernel
theorem dX4_partCode_22 : decode cX4_partCode 22 = .ok (.invokevirtual 27, 3) := by decide +kernel
theorem dX4_partCode_25 : decode cX4_partCode 25 = .ok (.ifCond .eq 6, 3) := by decide +kernel
theorem dX4_partCode_28 : decode cX4_partCode 28 = .ok (.bipush 12, 2) := by decide +kernel
theorem dX4_partCode_30 : decode cX4_partCode 30 = .ok (.ireturn, 1) := by decide +kernel
theorem dX4_partCode_31 : decode cX4_partCode 31 = .ok (.aload_n 0, 1) := by decide +kernel
theorem dX4_partCode_32 : decode cX4_partCode 32 = .ok (.ldc 99, 2) := by decide +kernel
theorem dX4_partCode_34 : decode cX4_partCode 34 = .ok (.invokevirtual 27, 3) := by decide +kernel
theorem dX4_partCode_37 : decode cX4_partCode 37 = .ok (.ifCond .eq 6, 3) := by decide +kernel
theorem dX4_partCode_40 : decode cX4_partCode 40 = .ok (.bipush 13, 2) := by decide +kernel
theorem dX4_partCode_42 : decode cX4_partCode 42 = .ok (.ireturn, 1) := by decide +kernel
theorem dX4_partCode_43 : decode cX4_partCode 43 = .ok (.aload_n 0, 1) := by decide +kernel
theorem dX4_partCode_44 : decode cX4_partCode 44 = .ok (.ldc 101, 2) := by decide +kernel
theorem dX4_partCode_46 : decode cX4_partCode 46 = .ok (.invokevirtual 27, 3) := by decide +kernel
theorem dX4_partCode_49 : decode cX4_partCode 49 = .ok (.ifCond .eq 6, 3) := by decide +kernel
theorem dX4_partCode_52 : decode cX4_partCode 52 = .ok (.bipush 14, 2) := by decide +kernel
theorem dX4_partCode_54 : decode cX4_partCode 54 = .ok (.ireturn, 1) := by decide +kernel
theorem dX4_partCode_55 : decode cX4_partCode 55 = .ok (.aload_n 0, 1) := by decide +kernel
theorem dX4_partCode_56 : decode cX4_partCode 56 = .ok (.ldc 103, 2) := by decide +kernel
theorem dX4_partCode_58 : decode cX4_partCode 58 = .ok (.invokevirtual 27, 3) := by decide +kernel
theorem dX4_partCode_61 : decode cX4_partCode 61 = .ok (.ifCond .eq 6, 3) := by decide +kernel
theorem dX4_partCode_64 : decode cX4_partCode 64 = .ok (.bipush 15, 2) := by decide +kernel
theorem dX4_partCode_66 : decode cX4_partCode 66 = .ok (.ireturn, 1) := by decide +kernel
theorem dX4_partCode_67 : decode cX4_partCode 67 = .ok (.aload_n 0, 1) := by decide +kernel
theorem dX4_partCode_68 : decode cX4_partCode 68 = .ok (.ldc 105, 2) := by decide +kernel
theorem dX4_partCode_70 : decode cX4_partCode 70 = .ok (.invokevirtual 27, 3) := by decide +kernel
theorem dX4_partCode_73 : decode cX4_partCode 73 = .ok (.ifCond .eq 6, 3) := by decide +kernel
theorem dX4_partCode_76 : decode cX4_partCode 76 = .ok (.bipush 16, 2) := by decide +kernel
theorem dX4_partCode_78 : decode cX4_partCode 78 = .ok (.ireturn, 1) := by decide +kernel
theorem dX4_partCode_79 : decode cX4_partCode 79 = .ok (.aload_n 0, 1) := by decide +kernel
theorem dX4_partCode_80 : decode cX4_partCode 80 = .ok (.ldc 107, 2) := by decide +kernel
theorem dX4_partCode_82 : decode cX4_partCode 82 = .ok (.invokevirtual 27, 3) := by decide +kernel
theorem dX4_partCode_85 : decode cX4_partCode 85 = .ok (.ifCond .eq 8, 3) := by decide +kernel
theorem dX4_partCode_88 : decode cX4_partCode 88 = .ok (.bipush 17, 2) := by decide +kernel
theorem dX4_partCode_90 : decode cX4_partCode 90 = .ok (.goto 4, 3) := by decide +kernel
theorem dX4_partCode_93 : decode cX4_partCode 93 = .ok (.iconst (-1), 1) := by decide +kernel
theorem dX4_partCode_94 : decode cX4_partCode 94 = .ok (.ireturn, 1) := by decide +kernel
noncomputable def fX4_partCode (V : VT) : Option Int32 := ob_R (fX8_isNumber V (0 : Int32) (999 : Int32)) fun y2 => if y2 = 0 then (ob_R (fX8_isWord V 25) fun y4 => if y4 = 0 then (ob_R (fX8_isWord V 26) fun y6 => if y6 = 0 then (ob_R (fX8_isWord V 27) fun y8 => if y8 = 0 then (ob_R (fX8_isWord V 28) fun y10 => if y10 = 0 then (ob_R (fX8_isWord V 29) fun y12 => if y12 = 0 then (ob_R (fX8_isWord V 30) fun y14 => if y14 = 0 then (some (-1 : Int32)) else (some (17 : Int32))) else (some (16 : Int32))) else (some (15 : Int32))) else (some (14 : Int32))) else (some (13 : Int32))) else (some (12 : Int32))) else (some ((100 : Int32) + (V 1 5)))
set_option maxHeartbeats 4000000 in
set_option maxRecDepth 100000 in
theorem kX4_partCode {l : Launch} {G : GT} {Z : Nat → Nat × Nat} {V : VT} {r : Int32} (h : fX4_partCode V = some r) : CI l G (SG Z) yX4_partCode (.code yX4_partCode cX4_partCode 1 (some .int)) 6 [.ref (G.2.2 1)] V r V := by
  intro sz
  refine met_of (Qs := fun sz => QI G sz r V) (SG_ok Z) (by decide) (Nat.le_of_ble_eq_true rfl) ?_ sz
  intro p e s m args below meth c ls E hw hl
  have hx := en_x E
  have hb := en_b E
  have hB := en_B E
  generalize hQ : MQ _ _ _ _ _ _ _ = Q
  have kr : Q = MQ below (QI G s.heap.size r V) args s 0 0 (gA G s.heap.size) := hQ.symm
  have hl : lv_has ls 1 [(0, .ref (G.2.2 1))] := hl
  obtain ⟨H, eH⟩ : ∃ H, H = s.heap := ⟨_, rfl⟩
  obtain ⟨locs, elocs⟩ : ∃ z : List Loc, z = [] := ⟨_, rfl⟩
  have hw : HW G s.heap V H locs := by rw [eH, elocs]; exact hw
  show W p l e _ s m args below meth c s.heap [] 0 0 Q (F0 m 0 ls [])
  rw [← eH, ← elocs]
  unfold fX4_partCode at h
  refine lv_aload_n hx hb dX4_partCode_0 rfl (lv_at hl 0 rfl) ?_
  refine lv_iconst (v := (0 : Int32)) hx hb dX4_partCode_1 (by decide) ?_
  refine lv_sipush (v := (999 : Int32)) hx hb dX4_partCode_2 (by decide) ?_
  obtain ⟨y2, h1, h⟩ := ob_R_some h
  refine c_VI E hw (kX8_isNumber (l := l) (G := G) hB  h1) yy_X8_isNumber lm_RX4_89 rfl (by decide) rfl rfl hl.1 (by decide) (by decide) rfl (Nat.le_of_ble_eq_true rfl) dX4_partCode_5 (fun H locs hw => ?_)
  refine lv_if_eq (tgt := 19) hx hb dX4_partCode_8 (by decide) (fun c21 => ?_) (fun c21 => ?_)
  · rw [if_pos c21] at h
    refine lv_aload_n hx hb dX4_partCode_19 rfl (lv_at hl 0 rfl) ?_
    refine r_ls (w := 25) E (by decide) rfl rfl dX4_partCode_20 ?_
    obtain ⟨y4, h3, h⟩ := ob_R_some h
    refine c_VI E hw (kX8_isWord (l := l) (G := G) (Z := Z) (by decide) h3) yy_X8_isWord lm_RX4_27 rfl (by decide) rfl rfl hl.1 (by decide) (by decide) rfl (Nat.le_of_ble_eq_true rfl) dX4_partCode_22 (fun H locs hw => ?_)
    refine lv_if_eq (tgt := 31) hx hb dX4_partCode_25 (by decide) (fun c20 => ?_) (fun c20 => ?_)
    · rw [if_pos c20] at h
      refine lv_aload_n hx hb dX4_partCode_31 rfl (lv_at hl 0 rfl) ?_
      refine r_ls (w := 26) E (by decide) rfl rfl dX4_partCode_32 ?_
      obtain ⟨y6, h5, h⟩ := ob_R_some h
      refine c_VI E hw (kX8_isWord (l := l) (G := G) (Z := Z) (by decide) h5) yy_X8_isWord lm_RX4_27 rfl (by decide) rfl rfl hl.1 (by decide) (by decide) rfl (Nat.le_of_ble_eq_true rfl) dX4_partCode_34 (fun H locs hw => ?_)
      refine lv_if_eq (tgt := 43) hx hb dX4_partCode_37 (by decide) (fun c19 => ?_) (fun c19 => ?_)
      · rw [if_pos c19] at h
        refine lv_aload_n hx hb dX4_partCode_43 rfl (lv_at hl 0 rfl) ?_
        refine r_ls (w := 27) E (by decide) rfl rfl dX4_partCode_44 ?_
        obtain ⟨y8, h7, h⟩ := ob_R_some h
        refine c_VI E hw (kX8_isWord (l := l) (G := G) (Z := Z) (by decide) h7) yy_X8_isWord lm_RX4_27 rfl (by decide) rfl rfl hl.1 (by decide) (by decide) rfl (Nat.le_of_ble_eq_true rfl) dX4_partCode_46 (fun H locs hw => ?_)
        refine lv_if_eq (tgt := 55) hx hb dX4_partCode_49 (by decide) (fun c18 => ?_) (fun c18 => ?_)
        · rw [if_pos c18] at h
          refine lv_aload_n hx hb dX4_partCode_55 rfl (lv_at hl 0 rfl) ?_
          refine r_ls (w := 28) E (by decide) rfl rfl dX4_partCode_56 ?_
          obtain ⟨y10, h9, h⟩ := ob_R_some h
          refine c_VI E hw (kX8_isWord (l := l) (G := G) (Z := Z) (by decide) h9) yy_X8_isWord lm_RX4_27 rfl (by decide) rfl rfl hl.1 (by decide) (by decide) rfl (Nat.le_of_ble_eq_true rfl) dX4_partCode_58 (fun H locs hw => ?_)
          refine lv_if_eq (tgt := 67) hx hb dX4_partCode_61 (by decide) (fun c17 => ?_) (fun c17 => ?_)
          · rw [if_pos c17] at h
            refine lv_aload_n hx hb dX4_partCode_67 rfl (lv_at hl 0 rfl) ?_
            refine r_ls (w := 29) E (by decide) rfl rfl dX4_partCode_68 ?_
            obtain ⟨y12, h11, h⟩ := ob_R_some h
            refine c_VI E hw (kX8_isWord (l := l) (G := G) (Z := Z) (by decide) h11) yy_X8_isWord lm_RX4_27 rfl (by decide) rfl rfl hl.1 (by decide) (by decide) rfl (Nat.le_of_ble_eq_true rfl) dX4_partCode_70 (fun H locs hw => ?_)
            refine lv_if_eq (tgt := 79) hx hb dX4_partCode_73 (by decide) (fun c16 => ?_) (fun c16 => ?_)
            · rw [if_pos c16] at h
              refine lv_aload_n hx hb dX4_partCode_79 rfl (lv_at hl 0 rfl) ?_
              refine r_ls (w := 30) E (by decide) rfl rfl dX4_partCode_80 ?_
              obtain ⟨y14, h13, h⟩ := ob_R_some h
              refine c_VI E hw (kX8_isWord (l := l) (G := G) (Z := Z) (by decide) h13) yy_X8_isWord lm_RX4_27 rfl (by decide) rfl rfl hl.1 (by decide) (by decide) rfl (Nat.le_of_ble_eq_true rfl) dX4_partCode_82 (fun H locs hw => ?_)
              refine lv_if_eq (tgt := 93) hx hb dX4_partCode_85 (by decide) (fun c15 => ?_) (fun c15 => ?_)
              · rw [if_pos c15] at h
                refine lv_iconst (v := (-1 : Int32)) hx hb dX4_partCode_93 (by decide) ?_
                have h := Option.some.inj h
                subst h
                rw [kr]
                exact r_ri E hw dX4_partCode_94
              · rw [if_neg c15] at h
                refine lv_bipush (v := (17 : Int32)) hx hb dX4_partCode_88 (by decide) ?_
                refine lv_goto (tgt := 94) hx hb dX4_partCode_90 (by decide) ?_
                have h := Option.some.inj h
                subst h
                rw [kr]
                exact r_ri E hw dX4_partCode_94
            · rw [if_neg c16] at h
              refine lv_bipush (v := (16 : Int32)) hx hb dX4_partCode_76 (by decide) ?_
              have h := Option.some.inj h
              subst h
              rw [kr]
              exact r_ri E hw dX4_partCode_78
          · rw [if_neg c17] at h
            refine lv_bipush (v := (15 : Int32)) hx hb dX4_partCode_64 (by decide) ?_
            have h := Option.some.inj h
            subst h
            rw [kr]
            exact r_ri E hw dX4_partCode_66
        · rw [if_neg c18] at h
          refine lv_bipush (v := (14 : Int32)) hx hb dX4_partCode_52 (by decide) ?_
          have h := Option.some.inj h
          subst h
          rw [kr]
          exact r_ri E hw dX4_partCode_54
      · rw [if_neg c19] at h
        refine lv_bipush (v := (13 : Int32)) hx hb dX4_partCode_40 (by decide) ?_
        have h := Option.some.inj h
        subst h
        rw [kr]
        exact r_ri E hw dX4_partCode_42
    · rw [if_neg c20] at h
      refine lv_bipush (v := (12 : Int32)) hx hb dX4_partCode_28 (by decide) ?_
      have h := Option.some.inj h
      subst h
      rw [kr]
      exact r_ri E hw dX4_partCode_30
  · rw [if_neg c21] at h
    refine lv_bipush (v := (100 : Int32)) hx hb dX4_partCode_11 (by decide) ?_
    refine lv_aload_n hx hb dX4_partCode_13 rfl (lv_at hl 0 rfl) ?_
    refine r_giN E hw 1 5 (N := 6) (C := RX8) (T := TX8) (by decide) rfl rfl (by decide) rfl iw_8 rfl lf_RX4_93 dX4_partCode_14 ?_
    refine lv_iadd hx hb dX4_partCode_17 ?_
    have h := Option.some.inj h
    subst h
    rw [kr]
    exact r_ri E hw dX4_partCode_18
/-! ===== AllSawIt$StreetText.houseNumber(LAllSawIt$Tape;LAllSawIt$State;Ljava/lang/String;III)Z ===== -/
theorem dX7_houseNumber_0 : decode cX7_houseNumber 0 = .ok (.aload_n 0, 1) := by decide +kernel
theorem dX7_houseNumber_1 : decode cX7_houseNumber 1 = .ok (.aload_n 2, 1) := by decide +kernel
theorem dX7_houseNumber_2 : decode cX7_houseNumber 2 = .ok (.invokevirtual 53, 3) := by decide +kernel
theorem dX7_houseNumber_5 : decode cX7_houseNumber 5 = .ok (.ifCond .eq 14, 3) := by decide +kernel
theorem dX7_houseNumber_8 : decode cX7_houseNumber 8 = .ok (.aload_n 0, 1) := by decide +kernel
theorem dX7_houseNumber_9 : decode cX7_houseNumber 9 = .ok (.iload 4, 2) := by decide +kernel
theorem dX7_houseNumber_11 : decode cX7_houseNumber 11 = .ok (.iload 5, 2) := by decide +kernel
theorem dX7_houseNumber_13 : decode cX7_houseNumber 13 = .ok (.invokevirtual 86, 3) := by decide +kernel
theorem dX7_houseNumber_16 : decode cX7_houseNumber 16 = .ok (.ifCond .ne 5, 3) := by decide +kernel
theorem dX7_houseNumber_19 : decode cX7_houseNumber 19 = .ok (.iconst 0, 1) := by decide +kernel
theorem dX7_houseNumber_20 : decode cX7_houseNumber 20 = .ok (.ireturn, 1) := by decide +kernel
theorem dX7_houseNumber_21 : decode cX7_houseNumber 21 = .ok (.aload_n 1, 1) := by decide +kernel
theorem dX7_houseNumber_22 : decode cX7_houseNumber 22 = .ok (.aload_n 1, 1) := by decide +kernel
theorem dX7_houseNumber_23 : decode cX7_houseNumber 23 = .ok (.getfield 34, 3) := by decide +kernel
theorem dX7_houseNumber_26 : decode cX7_houseNumber 26 = .ok (.iload_n 3, 1) := by decide +kernel
theorem dX7_houseNumber_27 : decode cX7_houseNumber 27 = .ok (.aload_n 0, 1) := by decide +kernel
theorem dX7_houseNumber_28 : decode cX7_houseNumber 28 = .ok (.getfield 90, 3) := by decide +kernel
theorem dX7_houseNumber_31 : decode cX7_houseNumber 31 = .ok (.invokevirtual 64, 3) := by decide +kernel
theorem dX7_houseNumber_34 : decode cX7_houseNumber 34 = .ok (.aload_n 0, 1) := by decide +kernel
theorem dX7_houseNumber_35 : decode cX7_houseNumber 35 = .ok (.invokevirtual 93, 3) := by decide +kernel
theorem dX7_houseNumber_38 : decode cX7_houseNumber 38 = .ok (.iconst 1, 1) := by decide +kernel
theorem dX7_houseNumber_39 : decode cX7_houseNumber 39 = .ok (.ireturn, 1) := by decide +kernel
noncomputable def fX7_houseNumber (V : VT) (i : Nat) (w1 : Nat) (x2 : Int32) (x3 : Int32) (x4 : Int32) : Option (Int32 × VT) := ob_I (fX8_takeWord V w1) fun y2 V3 => if y2 = 0 then (zo_ (0 : Int32) (some ((0 : Int32), V3))) else (ob_R (fX8_isNumber V3 x3 x4) fun y6 => if y6 = 0 then (zo_ (0 : Int32) (some ((0 : Int32), V3))) else (ob_R (fX6_setHouse V3 i (V3 i 3) x2 (V3 1 5)) fun V8 => ob_R (fX8_step V8 ) fun V10 => zo_ (1 : Int32) (some ((1 : Int32), V10))))
set_option maxHeartbeats 4000000 in
set_option maxRecDepth 100000 in
theorem kX7_houseNumber {l : Launch} {G : GT} {Z : Nat → Nat × Nat} {V : VT} {i : Nat} (hs_i : isSt i) {w1 : Nat} (hs_w1 : w1 < 65) {x2 : Int32} {x3 : Int32} {x4 : Int32} {r : (Int32 × VT)} (h : fX7_houseNumber V i w1 x2 x3 x4 = some r) : CI l G (SG Z) yX7_houseNumber (.code yX7_houseNumber cX7_houseNumber 6 (some .boolean)) 7 [.ref (G.2.2 1), .ref (G.2.2 i), .ref (Z w1).1, .int x2, .int x3, .int x4] V r.1 r.2 := by
  intro sz
  refine met_of (Qs := fun sz => QI G sz (r.1) (r.2)) (SG_ok Z) (by decide) (Nat.le_of_ble_eq_true rfl) ?_ sz
  intro p e s m args below meth c ls E hw hl
  have hx := en_x E
  have hb := en_b E
  have hB := en_B E
  generalize hQ : MQ _ _ _ _ _ _ _ = Q
  have kr : Q = MQ below (QI G s.heap.size r.1 r.2) args s 0 0 (gA G s.heap.size) := hQ.symm
  have hl : lv_has ls 6 [(0, .ref (G.2.2 1)), (1, .ref (G.2.2 i)), (2, .ref (Z w1).1), (3, .int x2), (4, .int x3), (5, .int x4)] := hl
  obtain ⟨H, eH⟩ : ∃ H, H = s.heap := ⟨_, rfl⟩
  obtain ⟨locs, elocs⟩ : ∃ z : List Loc, z = [] := ⟨_, rfl⟩
  have hw : HW G s.heap V H locs := by rw [eH, elocs]; exact hw
  show W p l e _ s m args below meth c s.heap [] 0 0 Q (F0 m 0 ls [])
  rw [← eH, ← elocs]
  unfold fX7_houseNumber at h
  refine lv_aload_n hx hb dX7_houseNumber_0 rfl (lv_at hl 0 rfl) ?_
  refine lv_aload_n hx hb dX7_houseNumber_1 rfl (lv_at hl 2 rfl) ?_
  obtain ⟨y2, V3, h1, h⟩ := ob_I_some h
  refine c_VI E hw (kX8_takeWord (l := l) (G := G) (Z := Z) hs_w1 h1) yy_X8_takeWord lm_RX7_53 rfl (by decide) rfl rfl hl.1 (by decide) (by decide) rfl (Nat.le_of_ble_eq_true rfl) dX7_houseNumber_2 (fun H locs hw => ?_)
  refine lv_if_eq (tgt := 19) hx hb dX7_houseNumber_5 (by decide) (fun c14 => ?_) (fun c14 => ?_)
  · rw [if_pos c14] at h
    refine lv_iconst (v := (0 : Int32)) hx hb dX7_houseNumber_19 (by decide) ?_
    obtain ⟨z4, h⟩ := zo_some h
    have h := Option.some.inj h
    subst h
    rw [kr]
    exact r_rz E hw z4 dX7_houseNumber_20
  · rw [if_neg c14] at h
    refine lv_aload_n hx hb dX7_houseNumber_8 rfl (lv_at hl 0 rfl) ?_
    refine lv_iload hx hb dX7_houseNumber_9 (lv_at hl 4 rfl) ?_
    refine lv_iload hx hb dX7_houseNumber_11 (lv_at hl 5 rfl) ?_
    obtain ⟨y6, h5, h⟩ := ob_R_some h
    refine c_VI E hw (kX8_isNumber (l := l) (G := G) hB  h5) yy_X8_isNumber lm_RX7_86 rfl (by decide) rfl rfl hl.1 (by decide) (by decide) rfl (Nat.le_of_ble_eq_true rfl) dX7_houseNumber_13 (fun H locs hw => ?_)
    refine lv_if_ne (tgt := 21) hx hb dX7_houseNumber_16 (by decide) (fun c13 => ?_) (fun c13 => ?_)
    · rw [if_neg c13] at h
      refine lv_aload_n hx hb dX7_houseNumber_21 rfl (lv_at hl 1 rfl) ?_
      refine lv_aload_n hx hb dX7_houseNumber_22 rfl (lv_at hl 1 rfl) ?_
      refine r_giN E hw i 3 (N := 13) (C := RX6) (T := TX6) (st_lt hs_i) (st_c hs_i) (st_N hs_i) (by decide) (st_n hs_i (k := 3) (by decide)) iw_6 rfl lf_RX7_34 dX7_houseNumber_23 ?_
      refine lv_iload_n hx hb dX7_houseNumber_26 rfl (lv_at hl 3 rfl) ?_
      refine lv_aload_n hx hb dX7_houseNumber_27 rfl (lv_at hl 0 rfl) ?_
      refine r_giN E hw 1 5 (N := 6) (C := RX8) (T := TX8) (by decide) rfl rfl (by decide) rfl iw_8 rfl lf_RX7_90 dX7_houseNumber_28 ?_
      obtain ⟨V8, h7, h⟩ := ob_R_some h
      refine c_VV E hw (kX6_setHouse (l := l) (G := G) hB hs_i h7) yy_X6_setHouse lm_RX7_64 rfl (st_lt hs_i) (st_c hs_i) rfl hl.1 (by decide) (by decide) rfl (Nat.le_of_ble_eq_true rfl) dX7_houseNumber_31 (fun H locs hw => ?_)
      refine lv_aload_n hx hb dX7_houseNumber_34 rfl (lv_at hl 0 rfl) ?_
      obtain ⟨V10, h9, h⟩ := ob_R_some h
      refine c_VV E hw (kX8_step (l := l) (G := G) hB  h9) yy_X8_step lm_RX7_93 rfl (by decide) rfl rfl hl.1 (by decide) (by decide) rfl (Nat.le_of_ble_eq_true rfl) dX7_houseNumber_35 (fun H locs hw => ?_)
      refine lv_iconst (v := (1 : Int32)) hx hb dX7_houseNumber_38 (by decide) ?_
      obtain ⟨z11, h⟩ := zo_some h
      have h := Option.some.inj h
      subst h
      rw [kr]
      exact r_rz E hw z11 dX7_houseNumber_39
    · rw [if_pos c13] at h
      refine lv_iconst (v := (0 : Int32)) hx hb dX7_houseNumber_19 (by decide) ?_
      obtain ⟨z12, h⟩ := zo_some h
      have h := Option.some.inj h
      subst h
      rw [kr]
      exact r_rz E hw z12 dX7_houseNumber_20
/-! ===== AllSawIt$StreetText.deedNumber(LAllSawIt$Tape;LAllSawIt$State;Ljava/lang/String;II)Z ===== -/
theorem dX7_deedNumber_0 : decode cX7_deedNumber 0 = .ok (.aload_n 0, 1) := by decide +kernel
theorem dX7_deedNumber_1 : decode cX7_deedNumber 1 = .ok (.aload_n 2, 1) := by decide +kernel
theorem dX7_deedNumber_2 : decode cX7_deedNumber 2 = .ok (.invokevirtual 53, 3) := by decide +kernel
theorem dX7_deedNumber_5 : decode cX7_deedNumber 5 = .ok (.ifCond .eq 13, 3) := by decide +kernel
theorem dX7_deedNumber_8 : decode cX7_deedNumber 8 = .ok (.aload_n 0, 1) := by decide +kernel
theorem dX7_deedNumber_9 : decode cX7_deedNumber 9 = .ok (.iconst 0, 1) := by decide +kernel
theorem dX7_deedNumber_10 : decode cX7_deedNumber 10 = .ok (.iload 4, 2) := by decide +kernel
theorem dX7_deedNumber_12 : decode cX7_deedNumber 12 = .ok (.invokevirtual 86, 3) := by decide +kernel
theorem dX7_deedNumber_15 : decode cX7_deedNumber 15 = .ok (.ifCond .ne 5, 3) := by decide +kernel
theorem dX7_deedNumber_18 : decode cX7_deedNumber 18 = .ok (.iconst 0, 1) := by decide +kernel
theorem dX7_deedNumber_19 : decode cX7_deedNumber 19 = .ok (.ireturn, 1) := by decide +kernel
theorem dX7_deedNumber_20 : decode cX7_deedNumber 20 = .ok (.aload_n 1, 1) := by decide +kernel
theorem dX7_deedNumber_21 : decode cX7_deedNumber 21 = .ok (.aload_n 1, 1) := by decide +kernel
theorem dX7_deedNumber_22 : decode cX7_deedNumber 22 = .ok (.getfield 45, 3) := by decide +kernel
theorem dX7_deedNumber_25 : decode cX7_deedNumber 25 = .ok (.iload_n 3, 1) := by decide +kernel
theorem dX7_deedNumber_26 : decode cX7_deedNumber 26 = .ok (.aload_n 0, 1) := by decide +kernel
theorem dX7_deedNumber_27 : decode cX7_deedNumber 27 = .ok (.getfield 90, 3) := by decide +kernel
theorem dX7_deedNumber_30 : decode cX7_deedNumber 30 = .ok (.invokevirtual 96, 3) := by decide +kernel
theorem dX7_deedNumber_33 : decode cX7_deedNumber 33 = .ok (.aload_n 0, 1) := by decide +kernel
theorem dX7_deedNumber_34 : decode cX7_deedNumber 34 = .ok (.invokevirtual 93, 3) := by decide +kernel
theorem dX7_deedNumber_37 : decode cX7_deedNumber 37 = .ok (.iconst 1, 1) := by decide +kernel
theorem dX7_deedNumber_38 : decode cX7_deedNumber 38 = .ok (.ireturn, 1) := by decide +kernel
noncomputable def fX7_deedNumber (V : VT) (i : Nat) (w1 : Nat) (x2 : Int32) (x3 : Int32) : Option (Int32 × VT) := ob_I (fX8_takeWord V w1) fun y2 V3 => if y2 = 0 then (zo_ (0 : Int32) (some ((0 : Int32), V3))) else (ob_R (fX8_isNumber V3 (0 : Int32) x3) fun y6 => if y6 = 0 then (zo_ (0 : Int32) (some ((0 : Int32), V3))) else (ob_R (fX6_setDeed V3 i (V3 i 4) x2 (V3 1 5)) fun V8 => ob_R (fX8_step V8 ) fun V10 => zo_ (1 : Int32) (some ((1 : Int32), V10))))
set_option maxHeartbeats 4000000 in
set_option maxRecDepth 100000 in
theorem kX7_deedNumber {l : Launch} {G : GT} {Z : Nat → Nat × Nat} {V : VT} {i : Nat} (hs_i : isSt i) {w1 : Nat} (hs_w1 : w1 < 65) {x2 : Int32} {x3 : Int32} {r : (Int32 × VT)} (h : fX7_deedNumber V i w1 x2 x3 = some r) : CI l G (SG Z) yX7_deedNumber (.code yX7_deedNumber cX7_deedNumber 5 (some .boolean)) 7 [.ref (G.2.2 1), .ref (G.2.2 i), .ref (Z w1).1, .int x2, .int x3] V r.1 r.2 := by
  intro sz
  refine met_of (Qs := fun sz => QI G sz (r.1) (r.2)) (SG_ok Z) (by decide) (Nat.le_of_ble_eq_true rfl) ?_ sz
  intro p e s m args below meth c ls E hw hl
  have hx := en_x E
  have hb := en_b E
  have hB := en_B E
  generalize hQ : MQ _ _ _ _ _ _ _ = Q
  have kr : Q = MQ below (QI G s.heap.size r.1 r.2) args s 0 0 (gA G s.heap.size) := hQ.symm
  have hl : lv_has ls 5 [(0, .ref (G.2.2 1)), (1, .ref (G.2.2 i)), (2, .ref (Z w1).1), (3, .int x2), (4, .int x3)] := hl
  obtain ⟨H, eH⟩ : ∃ H, H = s.heap := ⟨_, rfl⟩
  obtain ⟨locs, elocs⟩ : ∃ z : List Loc, z = [] := ⟨_, rfl⟩
  have hw : HW G s.heap V H locs := by rw [eH, elocs]; exact hw
  show W p l e _ s m args below meth c s.heap [] 0 0 Q (F0 m 0 ls [])
  rw [← eH, ← elocs]
  unfold fX7_deedNumber at h
  refine lv_aload_n hx hb dX7_deedNumber_0 rfl (lv_at hl 0 rfl) ?_
  refine lv_aload_n hx hb dX7_deedNumber_1 rfl (lv_at hl 2 rfl) ?_
  obtain ⟨y2, V3, h1, h⟩ := ob_I_some h
  refine c_VI E hw (kX8_takeWord (l := l) (G := G) (Z := Z) hs_w1 h1) yy_X8_takeWord lm_RX7_53 rfl (by decide) rfl rfl hl.1 (by decide) (by decide) rfl (Nat.le_of_ble_eq_true rfl) dX7_deedNumber_2 (fun H locs hw => ?_)
  refine lv_if_eq (tgt := 18) hx hb dX7_deedNumber_5 (by decide) (fun c14 => ?_) (fun c14 => ?_)
  · rw [if_pos c14] at h
    refine lv_iconst (v := (0 : Int32)) hx hb dX7_deedNumber_18 (by decide) ?_
    obtain ⟨z4, h⟩ := zo_some h
    have h := Option.some.inj h
    subst h
    rw [kr]
    exact r_rz E hw z4 dX7_deedNumber_19
  · rw [if_neg c14] at h
    refine lv_aload_n hx hb dX7_deedNumber_8 rfl (lv_at hl 0 rfl) ?_
    refine lv_iconst (v := (0 : Int32)) hx hb dX7_deedNumber_9 (by decide) ?_
    refine lv_iload hx hb dX7_deedNumber_10 (lv_at hl 4 rfl) ?_
    obtain ⟨y6, h5, h⟩ := ob_R_some h
    refine c_VI E hw (kX8_isNumber (l := l) (G := G) hB  h5) yy_X8_isNumber lm_RX7_86 rfl (by decide) rfl rfl hl.1 (by decide) (by decide) rfl (Nat.le_of_ble_eq_true rfl) dX7_deedNumber_12 (fun H locs hw => ?_)
    refine lv_if_ne (tgt := 20) hx hb dX7_deedNumber_15 (by decide) (fun c13 => ?_) (fun c13 => ?_)
    · rw [if_neg c13] at h
      refine lv_aload_n hx hb dX7_deedNumber_20 rfl (lv_at hl 1 rfl) ?_
      refine lv_aload_n hx hb dX7_deedNumber_21 rfl (lv_at hl 1 rfl) ?_
      refine r_giN E hw i 4 (N := 13) (C := RX6) (T := TX6) (st_lt hs_i) (st_c hs_i) (st_N hs_i) (by decide) (st_n hs_i (k := 4) (by decide)) iw_6 rfl lf_RX7_45 dX7_deedNumber_22 ?_
      refine lv_iload_n hx hb dX7_deedNumber_25 rfl (lv_at hl 3 rfl) ?_
      refine lv_aload_n hx hb dX7_deedNumber_26 rfl (lv_at hl 0 rfl) ?_
      refine r_giN E hw 1 5 (N := 6) (C := RX8) (T := TX8) (by decide) rfl rfl (by decide) rfl iw_8 rfl lf_RX7_90 dX7_deedNumber_27 ?_
      obtain ⟨V8, h7, h⟩ := ob_R_some h
      refine c_VV E hw (kX6_setDeed (l := l) (G := G) hB hs_i h7) yy_X6_setDeed lm_RX7_96 rfl (st_lt hs_i) (st_c hs_i) rfl hl.1 (by decide) (by decide) rfl (Nat.le_of_ble_eq_true rfl) dX7_deedNumber_30 (fun H locs hw => ?_)
      refine lv_aload_n hx hb dX7_deedNumber_33 rfl (lv_at hl 0 rfl) ?_
      obtain ⟨V10, h9, h⟩ := ob_R_some h
      refine c_VV E hw (kX8_step (l := l) (G := G) hB  h9) yy_X8_step lm_RX7_93 rfl (by decide) rfl rfl hl.1 (by decide) (by decide) rfl (Nat.le_of_ble_eq_true rfl) dX7_deedNumber_34 (fun H locs hw => ?_)
      refine lv_iconst (v := (1 : Int32)) hx hb dX7_deedNumber_37 (by decide) ?_
      obtain ⟨z11, h⟩ := zo_some h
      have h := Option.some.inj h
      subst h
      rw [kr]
      exact r_rz E hw z11 dX7_deedNumber_38
    · rw [if_pos c13] at h
      refine lv_iconst (v := (0 : Int32)) hx hb dX7_deedNumber_18 (by decide) ?_
      obtain ⟨z12, h⟩ := zo_some h
      have h := Option.some.inj h
      subst h
      rw [kr]
      exact r_rz E hw z12 dX7_deedNumber_19
/-! ===== AllSawIt$LawText.readSum(LAllSawIt$Tape;LAllSawIt$Law;)Z ===== -/
theorem dX4_readSum_0 : decode cX4_readSum 0 = .ok (.iconst 0, 1) := by decide +kernel
theorem dX4_readSum_1 : decode cX4_readSum 1 = .ok (.istore_n 2, 1) := by decide +kernel
theorem dX4_readSum_2 : decode cX4_readSum 2 = .ok (.iload_n 2, 1) := by decide +kernel
theorem dX4_readSum_3 : decode cX4_readSum 3 = .ok (.sipush 400, 3) := by decide +kernel
theorem dX4_readSum_6 : decode cX4_readSum 6 = .ok (.if_icmp .ge 45, 3) := by decide +kernel
theorem dX4_readSum_9 : decode cX4_readSum 9 = .ok (.aload_n 0, 1) := by decide +kernel
theorem dX4_readSum_10 : decode cX4_readSum 10 = .ok (.invokestatic 86, 3) := by decide +kernel
theorem dX4_readSum_13 : decode cX4_readSum 13 = .ok (.istore_n 3, 1) := by decide +kernel
theorem dX4_readSum_14 : decode cX4_readSum 14 = .ok (.iload_n 3, 1) := by decide +kernel
theorem dX4_readSum_15 : decode cX4_readSum 15 = .ok (.iconst (-1), 1) := by decide +kernel
theorem dX4_readSum_16 : decode cX4_readSum 16 = .ok (.if_icmp .ne 5, 3) := by decide +kernel
theorem dX4_readSum_19 : decode cX4_readSum 19 = .ok (.iconst 0, 1) := by decide +kernel
theorem dX4_readSum_20 : decode cX4_readSum 20 = .ok (.ireturn, 1) := by decide +kernel
theorem dX4_readSum_21 : decode cX4_readSum 21 = .ok (.aload_n 1, 1) := by decide +kernel
theorem dX4_readSum_22 : decode cX4_readSum 22 = .ok (.iload_n 3, 1) := by decide +kernel
theorem dX4_readSum_23 : decode cX4_readSum 23 = .ok (.invokevirtual 41, 3) := by decide +kernel
theorem dX4_readSum_26 : decode cX4_readSum 26 = .ok (.aload_n 0, 1) := by decide +kernel
theorem dX4_readSum_27 : decode cX4_readSum 27 = .ok (.invokevirtual 33, 3) := by decide +kernel
theorem dX4_readSum_30 : decode cX4_readSum 30 = .ok (.aload_n 0, 1) := by decide +kernel
theorem dX4_readSum_31 : decode cX4_readSum 31 = .ok (.bipush 43, 2) := by decide +kernel
theorem dX4_readSum_33 : decode cX4_readSum 33 = .ok (.invokevirtual 66, 3) := by decide +kernel
theorem dX4_readSum_36 : decode cX4_readSum 36 = .ok (.ifCond .ne 5, 3) := by decide +kernel
theorem dX4_readSum_39 : decode cX4_readSum 39 = .ok (.iconst 1, 1) := by decide +kernel
theorem dX4_readSum_40 : decode cX4_readSum 40 = .ok (.ireturn, 1) := by decide +kernel
theorem dX4_readSum_41 : decode cX4_readSum 41 = .ok (.aload_n 0, 1) := by decide +kernel
theorem dX4_readSum_42 : decode cX4_readSum 42 = .ok (.invokevirtual 33, 3) := by decide +kernel
theorem dX4_readSum_45 : decode cX4_readSum 45 = .ok (.iinc 2 1, 3) := by decide +kernel
theorem dX4_readSum_48 : decode cX4_readSum 48 = .ok (.goto (-46), 3) := by decide +kernel
theorem dX4_readSum_51 : decode cX4_readSum 51 = .ok (.iconst 0, 1) := by decide +kernel
theorem dX4_readSum_52 : decode cX4_readSum 52 = .ok (.ireturn, 1) := by decide +kernel
noncomputable def fX4_readSum_L2 (V : VT) (u2 : Int32) : Option ((VT × Int32) ⊕ (Int32 × VT)) := if (400 : Int32) ≤ u2 then (zo_ (0 : Int32) (some (.inr (((0 : Int32), V))))) else (ob_R (fX4_partCode V ) fun y3 => if y3 = (-1 : Int32) then (zo_ (0 : Int32) (some (.inr (((0 : Int32), V))))) else (ob_R (fX3_put V y3) fun V5 => ob_R (fX8_step V5 ) fun V7 => ob_R (fX8_isSign V7 (43 : Int32)) fun y9 => if y9 = 0 then (zo_ (1 : Int32) (some (.inr (((1 : Int32), V7))))) else (ob_R (fX8_step V7 ) fun V11 => lt_ (u2 + (1 : Int32)) fun y12 => some (.inl (V11, y12)))))
noncomputable def iX4_readSum_L2 : (VT × Int32) → Option ((VT × Int32) ⊕ (Int32 × VT)) := fun q => fX4_readSum_L2 (q.1) (q.2)
noncomputable def fX4_readSum (V : VT) : Option (Int32 × VT) := ob_R (it_ (iX4_readSum_L2) FV (V, (0 : Int32))) fun x19 => some x19
set_option maxHeartbeats 4000000 in
set_option maxRecDepth 100000 in
theorem wX4_readSum_L2 {p : Program} {l : Launch} {e : Env} {s : State} {m : MethodId} {args : Array Value} {below : List Frame} {meth : Method} {c : Code} {G : GT} {Z : Nat → Nat × Nat} {Q : State → Prop} (E : En p s m args c meth cX4_readSum 4 RX4 (some .boolean) G (SG Z)) {x : (Int32 × VT)} (kr : ∀ q : (Int32 × VT), x = q → Q = MQ below (QI G s.heap.size q.1 q.2) args s 0 0 (gA G s.heap.size)) : ∀ (n : Nat) (q : (VT × Int32)), it_ (iX4_readSum_L2) n q = some x → ∀ (H : Heap) (locs : List Loc) (ls : Array Slot), HW G s.heap (q.1) H locs → lv_has ls 4 [(0, .ref (G.2.2 1)), (1, .ref (G.2.2 18)), (2, .int (q.2))] → W p l e (rmD 7) s m args below meth c H locs 0 0 Q (F0 m 2 ls []) := by
  have hx := en_x E
  have hb := en_b E
  have hB := en_B E
  refine it_W (fun q : (VT × Int32) => ∀ (H : Heap) (locs : List Loc) (ls : Array Slot), HW G s.heap (q.1) H locs → lv_has ls 4 [(0, .ref (G.2.2 1)), (1, .ref (G.2.2 18)), (2, .int (q.2))] → W p l e (rmD 7) s m args below meth c H locs 0 0 Q (F0 m 2 ls [])) x ?_
  intro q r h kc kx
  obtain ⟨V, u2⟩ := q
  intro H locs ls hw hl
  have h : fX4_readSum_L2 V u2 = some r := h
  have hw : HW G s.heap V H locs := hw
  have hl : lv_has ls 4 [(0, .ref (G.2.2 1)), (1, .ref (G.2.2 18)), (2, .int u2)] := hl
  have kr : ∀ q : (Int32 × VT), r = .inr (q) → Q = MQ below (QI G s.heap.size q.1 q.2) args s 0 0 (gA G s.heap.size) := fun q e => kr q (kx _ e).symm
  unfold fX4_readSum_L2 at h
  refine lv_iload_n hx hb dX4_readSum_2 rfl (lv_at hl 2 rfl) ?_
  refine lv_sipush (v := (400 : Int32)) hx hb dX4_readSum_3 (by decide) ?_
  refine lv_icmp_ge (tgt := 51) hx hb dX4_readSum_6 (by decide) (fun c17 => ?_) (fun c17 => ?_)
  · rw [if_pos c17] at h
    refine lv_iconst (v := (0 : Int32)) hx hb dX4_readSum_51 (by decide) ?_
    obtain ⟨z1, h⟩ := zo_some h
    rw [kr ((0 : Int32), V) (Option.some.inj h).symm]
    exact r_rz E hw z1 dX4_readSum_52
  · rw [if_neg c17] at h
    refine lv_aload_n hx hb dX4_readSum_9 rfl (lv_at hl 0 rfl) ?_
    obtain ⟨y3, h2, h⟩ := ob_R_some h
    refine c_SI E hw (kX4_partCode (l := l) (G := G) (Z := Z)  h2) yy_X4_partCode lm_RX4_86 rfl hl.1 (by decide) (by decide) rfl (Nat.le_of_ble_eq_true rfl) dX4_readSum_10 (fun H locs hw => ?_)
    refine lv_istore_n (lv' := [(3, .int y3), (0, .ref (G.2.2 1)), (1, .ref (G.2.2 18)), (2, .int u2)]) hx hb dX4_readSum_13 rfl hl (by decide) rfl (fun ls hl => ?_)
    refine lv_iload_n hx hb dX4_readSum_14 rfl (lv_at hl 0 rfl) ?_
    refine lv_iconst (v := (-1 : Int32)) hx hb dX4_readSum_15 (by decide) ?_
    refine lv_icmp_ne (tgt := 21) hx hb dX4_readSum_16 (by decide) (fun c16 => ?_) (fun c16 => ?_)
    · rw [if_neg c16] at h
      refine lv_aload_n hx hb dX4_readSum_21 rfl (lv_at hl 2 rfl) ?_
      refine lv_iload_n hx hb dX4_readSum_22 rfl (lv_at hl 0 rfl) ?_
      obtain ⟨V5, h4, h⟩ := ob_R_some h
      refine c_VV E hw (kX3_put (l := l) (G := G) hB  h4) yy_X3_put lm_RX4_41 rfl (by decide) rfl rfl hl.1 (by decide) (by decide) rfl (Nat.le_of_ble_eq_true rfl) dX4_readSum_23 (fun H locs hw => ?_)
      refine lv_aload_n hx hb dX4_readSum_26 rfl (lv_at hl 1 rfl) ?_
      obtain ⟨V7, h6, h⟩ := ob_R_some h
      refine c_VV E hw (kX8_step (l := l) (G := G) hB  h6) yy_X8_step lm_RX4_33 rfl (by decide) rfl rfl hl.1 (by decide) (by decide) rfl (Nat.le_of_ble_eq_true rfl) dX4_readSum_27 (fun H locs hw => ?_)
      refine lv_aload_n hx hb dX4_readSum_30 rfl (lv_at hl 1 rfl) ?_
      refine lv_bipush (v := (43 : Int32)) hx hb dX4_readSum_31 (by decide) ?_
      obtain ⟨y9, h8, h⟩ := ob_R_some h
      refine c_VI E hw (kX8_isSign (l := l) (G := G) hB  h8) yy_X8_isSign lm_RX4_66 rfl (by decide) rfl rfl hl.1 (by decide) (by decide) rfl (Nat.le_of_ble_eq_true rfl) dX4_readSum_33 (fun H locs hw => ?_)
      refine lv_if_ne (tgt := 41) hx hb dX4_readSum_36 (by decide) (fun c14 => ?_) (fun c14 => ?_)
      · rw [if_neg c14] at h
        refine lv_aload_n hx hb dX4_readSum_41 rfl (lv_at hl 1 rfl) ?_
        obtain ⟨V11, h10, h⟩ := ob_R_some h
        refine c_VV E hw (kX8_step (l := l) (G := G) hB  h10) yy_X8_step lm_RX4_33 rfl (by decide) rfl rfl hl.1 (by decide) (by decide) rfl (Nat.le_of_ble_eq_true rfl) dX4_readSum_42 (fun H locs hw => ?_)
        obtain ⟨y12, ey12, h⟩ := lt_some h
        refine lv_iinc (v := y12) (lv' := [(2, .int y12), (3, .int y3), (0, .ref (G.2.2 1)), (1, .ref (G.2.2 18))]) hx hb dX4_readSum_45 hl (k := 3) rfl (by rw [ey12]; rfl) (by decide) rfl (fun ls hl => ?_)
        refine lv_goto (tgt := 2) hx hb dX4_readSum_48 (by decide) ?_
        exact kc (V11, y12) (Option.some.inj h).symm H locs ls hw (lv_sub hl [2, 3, 0] rfl)
      · rw [if_pos c14] at h
        refine lv_iconst (v := (1 : Int32)) hx hb dX4_readSum_39 (by decide) ?_
        obtain ⟨z13, h⟩ := zo_some h
        rw [kr ((1 : Int32), V7) (Option.some.inj h).symm]
        exact r_rz E hw z13 dX4_readSum_40
    · rw [if_pos c16] at h
      refine lv_iconst (v := (0 : Int32)) hx hb dX4_readSum_19 (by decide) ?_
      obtain ⟨z15, h⟩ := zo_some h
      rw [kr ((0 : Int32), V) (Option.some.inj h).symm]
      exact r_rz E hw z15 dX4_readSum_20
set_option maxHeartbeats 4000000 in
set_option maxRecDepth 100000 in
theorem kX4_readSum {l : Launch} {G : GT} {Z : Nat → Nat × Nat} {V : VT} {r : (Int32 × VT)} (h : fX4_readSum V = some r) : CI l G (SG Z) yX4_readSum (.code yX4_readSum cX4_readSum 4 (some .boolean)) 7 [.ref (G.2.2 1), .ref (G.2.2 18)] V r.1 r.2 := by
  intro sz
  refine met_of (Qs := fun sz => QI G sz (r.1) (r.2)) (SG_ok Z) (by decide) (Nat.le_of_ble_eq_true rfl) ?_ sz
  intro p e s m args below meth c ls E hw hl
  have hx := en_x E
  have hb := en_b E
  have hB := en_B E
  generalize hQ : MQ _ _ _ _ _ _ _ = Q
  have kr : Q = MQ below (QI G s.heap.size r.1 r.2) args s 0 0 (gA G s.heap.size) := hQ.symm
  have hl : lv_has ls 4 [(0, .ref (G.2.2 1)), (1, .ref (G.2.2 18))] := hl
  obtain ⟨H, eH⟩ : ∃ H, H = s.heap := ⟨_, rfl⟩
  obtain ⟨locs, elocs⟩ : ∃ z : List Loc, z = [] := ⟨_, rfl⟩
  have hw : HW G s.heap V H locs := by rw [eH, elocs]; exact hw
  show W p l e _ s m args below meth c s.heap [] 0 0 Q (F0 m 0 ls [])
  rw [← eH, ← elocs]
  unfold fX4_readSum at h
  refine lv_iconst (v := (0 : Int32)) hx hb dX4_readSum_0 (by decide) ?_
  refine lv_istore_n (lv' := [(2, .int (0 : Int32)), (0, .ref (G.2.2 1)), (1, .ref (G.2.2 18))]) hx hb dX4_readSum_1 rfl hl (by decide) rfl (fun ls hl => ?_)
  obtain ⟨x19, h18, h⟩ := ob_R_some h
  have h := Option.some.inj h
  subst h
  exact wX4_readSum_L2 E (fun q e => by subst e; exact kr) FV (V, (0 : Int32)) h18 H locs ls hw (lv_sub hl [1, 2, 0] rfl)
/-! ===== AllSawIt$StreetText.readHouse(LAllSawIt$Tape;LAllSawIt$State;)Z ===== -/
theorem dX7_readHouse_0 : decode cX7_readHouse 0 = .ok (.aload_n 1, 1) := by decide +kernel
theorem dX7_readHouse_1 : decode cX7_readHouse 1 = .ok (.getfield 34, 3) := by decide +kernel
theorem dX7_readHouse_4 : decode cX7_readHouse 4 = .ok (.istore_n 2, 1) := by decide +kernel
theorem dX7_readHouse_5 : decode cX7_readHouse 5 = .ok (.aload_n 1, 1) := by decide +kernel
theorem dX7_readHouse_6 : decode cX7_readHouse 6 = .ok (.iload_n 2, 1) := by decide +kernel
theorem dX7_readHouse_7 : decode cX7_readHouse 7 = .ok (.iconst 5, 1) := by decide +kernel
theorem dX7_readHouse_8 : decode cX7_readHouse 8 = .ok (.iconst 0, 1) := by decide +kernel
theorem dX7_readHouse_9 : decode cX7_readHouse 9 = .ok (.invokevirtual 64, 3) := by decide +kernel
theorem dX7_readHouse_12 : decode cX7_readHouse 12 = .ok (.aload_n 1, 1) := by decide +kernel
theorem dX7_readHouse_13 : decode cX7_readHouse 13 = .ok (.iload_n 2, 1) := by decide +kernel
theorem dX7_readHouse_14 : decode cX7_readHouse 14 = .ok (.bipush 6, 2) := by decide +kernel
theorem dX7_readHouse_16 : decode cX7_readHouse 16 = .ok (.iconst 0, 1) := by decide +kernel
theorem dX7_readHouse_17 : decode cX7_readHouse 17 = .ok (.invokevirtual 64, 3) := by decide +kernel
theorem dX7_readHouse_20 : decode cX7_readHouse 20 = .ok (.aload_n 0, 1) := by decide +kernel
theorem dX7_readHouse_21 : decode cX7_readHouse 21 = .ok (.aload_n 1, 1) := by decide +kernel
theorem dX7_readHouse_22 : decode cX7_readHouse 22 = .ok (.ldc 28, 2) := by decide +kernel
theorem dX7_readHouse_24 : decode cX7_readHouse 24 = .ok (.iconst 0, 1) := by decide +kernel
theorem dX7_readHouse_25 : decode cX7_readHouse 25 = .ok (.iconst 0, 1) := by decide +kernel
theorem dX7_readHouse_26 : decode cX7_readHouse 26 = .ok (.bipush 23, 2) := by decide +kernel
theorem dX7_readHouse_28 : decode cX7_readHouse 28 = .ok (.invokestatic 68, 3) := by decide +kernel
theorem dX7_readHouse_31 : decode cX7_readHouse 31 = .ok (.ifCond .eq 68, 3) := by decide +kernel
theorem dX7_readHouse_34 : decode cX7_readHouse 34 = .ok (.aload_n 0, 1) := by decide +kernel
theorem dX7_readHouse_35 : decode cX7_readHouse 35 = .ok (.aload_n 1, 1) := by decide +kernel
theorem dX7_readHouse_36 : decode cX7_readHouse 36 = .ok (.ldc 72, 2) := by decide +kernel
theorem dX7_readHouse_38 : decode cX7_readHouse 38 = .ok (.iconst 1, 1) := by decide +kernel
theorem dX7_readHouse_39 : decode cX7_readHouse 39 = .ok (.iconst 0, 1) := by decide +kernel
theorem dX7_readHouse_40 : decode cX7_readHouse 40 = .ok (.bipush 23, 2) := by decide +kernel
theorem dX7_readHouse_42 : decode cX7_readHouse 42 = .ok (.invokestatic 68, 3) := by decide +kernel
theorem dX7_readHouse_45 : decode cX7_readHouse 45 = .ok (.ifCond .eq 54, 3) := by decide +kernel
theorem dX7_readHouse_48 : decode cX7_readHouse 48 = .ok (.aload_n 0, 1) := by decide +kernel
theorem dX7_readHouse_49 : decode cX7_readHouse 49 = .ok (.aload_n 1, 1) := by decide +kernel
theorem dX7_readHouse_50 : decode cX7_readHouse 50 = .ok (.ldc 74, 2) := by decide +kernel
theorem dX7_readHouse_52 : decode cX7_readHouse 52 = .ok (.iconst 2, 1) := by decide +kernel
theorem dX7_readHouse_53 : decode cX7_readHouse 53 = .ok (.aload_n 1, 1) := by decide +kernel
theorem dX7_readHouse_54 : decode cX7_readHouse 54 = .ok (.iload_n 2, 1) := by decide +kernel
theorem dX7_readHouse_55 : decode cX7_readHouse 55 = .ok (.iconst 1, 1) := by decide +kernel
theorem dX7_readHouse_56 : decode cX7_readHouse 56 = .ok (.invokevirtual 76, 3) := by decide +kernel
theorem dX7_readHouse_59 : decode cX7_readHouse 59 = .ok (.bipush 23, 2) := by decide +kernel
theorem dX7_readHouse_61 : decode cX7_readHouse 61 = .ok (.invokestatic 68, 3) := by decide +kernel
theorem dX7_readHouse_64 : decode cX7_readHouse 64 = .ok (.ifCond .eq 35, 3) := by decide +kernel
theorem dX7_readHouse_67 : decode cX7_readHouse 67 = .ok (.aload_n 0, 1) := by decide +kernel
theorem dX7_readHouse_68 : decode cX7_readHouse 68 = .ok (.aload_n 1, 1) := by decide +kernel
theorem dX7_readHouse_69 : decode cX7_readHouse 69 = .ok (.ldc 80, 2) := by decide +kernel
theorem dX7_readHouse_71 : decode cX7_readHouse 71 = .ok (.iconst 3, 1) := by decide +kernel
theorem dX7_readHouse_72 : decode cX7_readHouse 72 = .ok (.iconst 0, 1) := by decide +kernel
theorem dX7_readHouse_73 : decode cX7_readHouse 73 = .ok (.bipush 23, 2) := by decide +kernel
theorem dX7_readHouse_75 : decode cX7_readHouse 75 = .ok (.invokestatic 68, 3) := by decide +kernel
theorem dX7_readHouse_78 : decode cX7_readHouse 78 = .ok (.ifCond .eq 21, 3) := by decide +kernel
theorem dX7_readHouse_81 : decode cX7_readHouse 81 = .ok (.aload_n 0, 1) := by decide +kernel
theorem dX7_readHouse_82 : decode cX7_readHouse 82 = .ok (.aload_n 1, 1) := by decide +kernel
theorem dX7_readHouse_83 : decode cX7_readHouse 83 = .ok (.ldc 82, 2) := by decide +kernel
theorem dX7_readHouse_85 : decode cX7_readHouse 85 = .ok (.iconst 4, 1) := by decide +kernel
theorem dX7_readHouse_86 : decode cX7_readHouse 86 = .ok (.iconst 0, 1) := by decide +kernel
theorem dX7_readHouse_87 : decode cX7_readHouse 87 = .ok (.bipush 24, 2) := by decide +kernel
theorem dX7_readHouse_89 : decode cX7_readHouse 89 = .ok (.invokestatic 68, 3) := by decide +kernel
theorem dX7_readHouse_92 : decode cX7_readHouse 92 = .ok (.ifCond .eq 7, 3) := by decide +kernel
theorem dX7_readHouse_95 : decode cX7_readHouse 95 = .ok (.iconst 1, 1) := by decide +kernel
theorem dX7_readHouse_96 : decode cX7_readHouse 96 = .ok (.goto 4, 3) := by decide +kernel
theorem dX7_readHouse_99 : decode cX7_readHouse 99 = .ok (.iconst 0, 1) := by decide +kernel
theorem dX7_readHouse_100 : decode cX7_readHouse 100 = .ok (.istore_n 3, 1) := by decide +kernel
theorem dX7_readHouse_101 : decode cX7_readHouse 101 = .ok (.iload_n 3, 1) := by decide +kernel
theorem dX7_readHouse_102 : decode cX7_readHouse 102 = .ok (.ifCond .eq 24, 3) := by decide +kernel
theorem dX7_readHouse_105 : decode cX7_readHouse 105 = .ok (.aload_n 0, 1) := by decide +kernel
theorem dX7_readHouse_106 : decode cX7_readHouse 106 = .ok (.ldc 84, 2) := by decide +kernel
theorem dX7_readHouse_108 : decode cX7_readHouse 108 = .ok (.invokevirtual 30, 3) := by decide +kernel
theorem dX7_readHouse_111 : decode cX7_readHouse 111 = .ok (.ifCond .eq 15, 3) := by decide +kernel
theorem dX7_readHouse_114 : decode cX7_readHouse 114 = .ok (.aload_n 0, 1) := by decide +kernel
theorem dX7_readHouse_115 : decode cX7_readHouse 115 = .ok (.aload_n 1, 1) := by decide +kernel
theorem dX7_readHouse_116 : decode cX7_readHouse 116 = .ok (.ldc 84, 2) := by decide +kernel
theorem dX7_readHouse_118 : decode cX7_readHouse 118 = .ok (.iconst 5, 1) := by decide +kernel
theorem dX7_readHouse_119 : decode cX7_readHouse 119 = .ok (.iconst 0, 1) := by decide +kernel
theorem dX7_readHouse_120 : decode cX7_readHouse 120 = .ok (.bipush 9, 2) := by decide +kernel
theorem dX7_readHouse_122 : decode cX7_readHouse 122 = .ok (.invokestatic 68, 3) := by decide +kernel
theorem dX7_readHouse_125 : decode cX7_readHouse 125 = .ok (.istore_n 3, 1) := by decide +kernel
theorem dX7_readHouse_126 : decode cX7_readHouse 126 = .ok (.aload_n 1, 1) := by decide +kernel
theorem dX7_readHouse_127 : decode cX7_readHouse 127 = .ok (.dup, 1) := by decide +kernel
theorem dX7_readHouse_128 : decode cX7_readHouse 128 = .ok (.getfield 34, 3) := by decide +kernel
theorem dX7_readHouse_131 : decode cX7_readHouse 131 = .ok (.iconst 1, 1) := by decide +kernel
theorem dX7_readHouse_132 : decode cX7_readHouse 132 = .ok (.iadd, 1) := by decide +kernel
theorem dX7_readHouse_133 : decode cX7_readHouse 133 = .ok (.putfield 34, 3) := by decide +kernel
theorem dX7_readHouse_136 : decode cX7_readHouse 136 = .ok (.iload_n 3, 1) := by decide +kernel
theorem dX7_readHouse_137 : decode cX7_readHouse 137 = .ok (.ireturn, 1) := by decide +kernel
noncomputable def fX7_readHouse_j100 (V : VT) (i : Nat) (t0 : Int32) : Option (Int32 × VT) := if t0 = 0 then (lt_ (va_up V i (upd (V i) 3 ((V i 3) + (1 : Int32)))) fun V9 => zo_ t0 (some (t0, V9))) else (ob_R (fX8_isWord V 39) fun y12 => if y12 = 0 then (lt_ (va_up V i (upd (V i) 3 ((V i 3) + (1 : Int32)))) fun V13 => zo_ t0 (some (t0, V13))) else (ob_I (fX7_houseNumber V i 39 (5 : Int32) (0 : Int32) (9 : Int32)) fun y16 V17 => lt_ (va_up V17 i (upd (V17 i) 3 ((V17 i 3) + (1 : Int32)))) fun V18 => zo_ y16 (some (y16, V18))))
noncomputable def fX7_readHouse_j99 (V : VT) (i : Nat) : Option (Int32 × VT) := fX7_readHouse_j100 V i (0 : Int32)
noncomputable def fX7_readHouse (V : VT) (i : Nat) : Option (Int32 × VT) := lt_ (V i 3) fun y1 => ob_R (fX6_setHouse V i y1 (5 : Int32) (0 : Int32)) fun V3 => ob_R (fX6_setHouse V3 i y1 (6 : Int32) (0 : Int32)) fun V5 => ob_I (fX7_houseNumber V5 i 31 (0 : Int32) (0 : Int32) (23 : Int32)) fun y7 V8 => if y7 = 0 then (fX7_readHouse_j99 V8 i) else (ob_I (fX7_houseNumber V8 i 35 (1 : Int32) (0 : Int32) (23 : Int32)) fun y23 V24 => if y23 = 0 then (fX7_readHouse_j99 V24 i) else (ob_R (fX6_ofHouse V24 i y1 (1 : Int32)) fun y26 => ob_I (fX7_houseNumber V24 i 36 (2 : Int32) y26 (23 : Int32)) fun y28 V29 => if y28 = 0 then (fX7_readHouse_j99 V29 i) else (ob_I (fX7_houseNumber V29 i 37 (3 : Int32) (0 : Int32) (23 : Int32)) fun y31 V32 => if y31 = 0 then (fX7_readHouse_j99 V32 i) else (ob_I (fX7_houseNumber V32 i 38 (4 : Int32) (0 : Int32) (24 : Int32)) fun y34 V35 => if y34 = 0 then (fX7_readHouse_j99 V35 i) else (fX7_readHouse_j100 V35 i (1 : Int32))))))
set_option maxHeartbeats 4000000 in
set_option maxRecDepth 100000 in
theorem wX7_readHouse_j100 {p : Program} {l : Launch} {e : Env} {s : State} {m : MethodId} {args : Array Value} {below : List Frame} {meth : Method} {c : Code} {G : GT} {Z : Nat → Nat × Nat} {Q : State → Prop} (E : En p s m args c meth cX7_readHouse 4 RX7 (some .boolean) G (SG Z)) {i : Nat} (hs_i : isSt i) {V : VT} {t0 : Int32} {r : (Int32 × VT)} (h : fX7_readHouse_j100 V i t0 = some r) (kr : Q = MQ below (QI G s.heap.size r.1 r.2) args s 0 0 (gA G s.heap.size)) {H : Heap} {locs : List Loc} {ls : Array Slot} (hw : HW G s.heap V H locs) (hl : lv_has ls 4 [(0, .ref (G.2.2 1)), (1, .ref (G.2.2 i))]) : W p l e (rmD 8) s m args below meth c H locs 0 0 Q (F0 m 100 ls [.int t0]) := by
  have hx := en_x E
  have hb := en_b E
  have hB := en_B E
  unfold fX7_readHouse_j100 at h
  refine lv_istore_n (lv' := [(3, .int t0), (0, .ref (G.2.2 1)), (1, .ref (G.2.2 i))]) hx hb dX7_readHouse_100 rfl hl (by decide) rfl (fun ls hl => ?_)
  refine lv_iload_n hx hb dX7_readHouse_101 rfl (lv_at hl 0 rfl) ?_
  refine lv_if_eq (tgt := 126) hx hb dX7_readHouse_102 (by decide) (fun c21 => ?_) (fun c21 => ?_)
  · rw [if_pos c21] at h
    refine lv_aload_n hx hb dX7_readHouse_126 rfl (lv_at hl 2 rfl) ?_
    refine lv_dup hx hb dX7_readHouse_127 rfl ?_
    refine r_giN E hw i 3 (N := 13) (C := RX6) (T := TX6) (st_lt hs_i) (st_c hs_i) (st_N hs_i) (by decide) (st_n hs_i (k := 3) (by decide)) iw_6 rfl lf_RX7_34 dX7_readHouse_128 ?_
    refine lv_iconst (v := (1 : Int32)) hx hb dX7_readHouse_131 (by decide) ?_
    refine lv_iadd hx hb dX7_readHouse_132 ?_
    obtain ⟨V9, eV9, h⟩ := lt_some h
    refine r_piN E hw i 3 (N := 13) (C := RX6) (T := TX6) (ty0 := tyX6) (ty := .int) (st_lt hs_i) (st_c hs_i) (st_N hs_i) (by decide) (st_n hs_i (k := 3) (by decide)) iw_6 rfl tyX6_ok nmX6 rfl rfl (vp_nar_int _) rfl lf_RX7_34 eV9 dX7_readHouse_133 (fun H locs hw => ?_)
    refine lv_iload_n hx hb dX7_readHouse_136 rfl (lv_at hl 0 rfl) ?_
    obtain ⟨z10, h⟩ := zo_some h
    have h := Option.some.inj h
    subst h
    rw [kr]
    exact r_rz E hw z10 dX7_readHouse_137
  · rw [if_neg c21] at h
    refine lv_aload_n hx hb dX7_readHouse_105 rfl (lv_at hl 1 rfl) ?_
    refine r_ls (w := 39) E (by decide) rfl rfl dX7_readHouse_106 ?_
    obtain ⟨y12, h11, h⟩ := ob_R_some h
    refine c_VI E hw (kX8_isWord (l := l) (G := G) (Z := Z) (by decide) h11) yy_X8_isWord lm_RX7_30 rfl (by decide) rfl rfl hl.1 (by decide) (by decide) rfl (Nat.le_of_ble_eq_true rfl) dX7_readHouse_108 (fun H locs hw => ?_)
    refine lv_if_eq (tgt := 126) hx hb dX7_readHouse_111 (by decide) (fun c20 => ?_) (fun c20 => ?_)
    · rw [if_pos c20] at h
      refine lv_aload_n hx hb dX7_readHouse_126 rfl (lv_at hl 2 rfl) ?_
      refine lv_dup hx hb dX7_readHouse_127 rfl ?_
      refine r_giN E hw i 3 (N := 13) (C := RX6) (T := TX6) (st_lt hs_i) (st_c hs_i) (st_N hs_i) (by decide) (st_n hs_i (k := 3) (by decide)) iw_6 rfl lf_RX7_34 dX7_readHouse_128 ?_
      refine lv_iconst (v := (1 : Int32)) hx hb dX7_readHouse_131 (by decide) ?_
      refine lv_iadd hx hb dX7_readHouse_132 ?_
      obtain ⟨V13, eV13, h⟩ := lt_some h
      refine r_piN E hw i 3 (N := 13) (C := RX6) (T := TX6) (ty0 := tyX6) (ty := .int) (st_lt hs_i) (st_c hs_i) (st_N hs_i) (by decide) (st_n hs_i (k := 3) (by decide)) iw_6 rfl tyX6_ok nmX6 rfl rfl (vp_nar_int _) rfl lf_RX7_34 eV13 dX7_readHouse_133 (fun H locs hw => ?_)
      refine lv_iload_n hx hb dX7_readHouse_136 rfl (lv_at hl 0 rfl) ?_
      obtain ⟨z14, h⟩ := zo_some h
      have h := Option.some.inj h
      subst h
      rw [kr]
      exact r_rz E hw z14 dX7_readHouse_137
    · rw [if_neg c20] at h
      refine lv_aload_n hx hb dX7_readHouse_114 rfl (lv_at hl 1 rfl) ?_
      refine lv_aload_n hx hb dX7_readHouse_115 rfl (lv_at hl 2 rfl) ?_
      refine r_ls (w := 39) E (by decide) rfl rfl dX7_readHouse_116 ?_
      refine lv_iconst (v := (5 : Int32)) hx hb dX7_readHouse_118 (by decide) ?_
      refine lv_iconst (v := (0 : Int32)) hx hb dX7_readHouse_119 (by decide) ?_
      refine lv_bipush (v := (9 : Int32)) hx hb dX7_readHouse_120 (by decide) ?_
      obtain ⟨y16, V17, h15, h⟩ := ob_I_some h
      refine c_SI E hw (kX7_houseNumber (l := l) (G := G) (Z := Z) hs_i (by decide) h15) yy_X7_houseNumber lm_RX7_68 rfl hl.1 (by decide) (by decide) rfl (Nat.le_of_ble_eq_true rfl) dX7_readHouse_122 (fun H locs hw => ?_)
      refine lv_istore_n (lv' := [(3, .int y16), (0, .ref (G.2.2 1)), (1, .ref (G.2.2 i))]) hx hb dX7_readHouse_125 rfl hl (by decide) rfl (fun ls hl => ?_)
      refine lv_aload_n hx hb dX7_readHouse_126 rfl (lv_at hl 2 rfl) ?_
      refine lv_dup hx hb dX7_readHouse_127 rfl ?_
      refine r_giN E hw i 3 (N := 13) (C := RX6) (T := TX6) (st_lt hs_i) (st_c hs_i) (st_N hs_i) (by decide) (st_n hs_i (k := 3) (by decide)) iw_6 rfl lf_RX7_34 dX7_readHouse_128 ?_
      refine lv_iconst (v := (1 : Int32)) hx hb dX7_readHouse_131 (by decide) ?_
      refine lv_iadd hx hb dX7_readHouse_132 ?_
      obtain ⟨V18, eV18, h⟩ := lt_some h
      refine r_piN E hw i 3 (N := 13) (C := RX6) (T := TX6) (ty0 := tyX6) (ty := .int) (st_lt hs_i) (st_c hs_i) (st_N hs_i) (by decide) (st_n hs_i (k := 3) (by decide)) iw_6 rfl tyX6_ok nmX6 rfl rfl (vp_nar_int _) rfl lf_RX7_34 eV18 dX7_readHouse_133 (fun H locs hw => ?_)
      refine lv_iload_n hx hb dX7_readHouse_136 rfl (lv_at hl 0 rfl) ?_
      obtain ⟨z19, h⟩ := zo_some h
      have h := Option.some.inj h
      subst h
      rw [kr]
      exact r_rz E hw z19 dX7_readHouse_137
set_option maxHeartbeats 4000000 in
set_option maxRecDepth 100000 in
theorem wX7_readHouse_j99 {p : Program} {l : Launch} {e : Env} {s : State} {m : MethodId} {args : Array Value} {below : List Frame} {meth : Method} {c : Code} {G : GT} {Z : Nat → Nat × Nat} {Q : State → Prop} (E : En p s m args c meth cX7_readHouse 4 RX7 (some .boolean) G (SG Z)) {i : Nat} (hs_i : isSt i) {V : VT} {r : (Int32 × VT)} (h : fX7_readHouse_j99 V i = some r) (kr : Q = MQ below (QI G s.heap.size r.1 r.2) args s 0 0 (gA G s.heap.size)) {H : Heap} {locs : List Loc} {ls : Array Slot} (hw : HW G s.heap V H locs) (hl : lv_has ls 4 [(0, .ref (G.2.2 1)), (1, .ref (G.2.2 i))]) : W p l e (rmD 8) s m args below meth c H locs 0 0 Q (F0 m 99 ls []) := by
  have hx := en_x E
  have hb := en_b E
  have hB := en_B E
  unfold fX7_readHouse_j99 at h
  refine lv_iconst (v := (0 : Int32)) hx hb dX7_readHouse_99 (by decide) ?_
  exact wX7_readHouse_j100 E hs_i h kr hw (lv_sub hl [0, 1] rfl)
set_option maxHeartbeats 4000000 in
set_option maxRecDepth 100000 in
theorem kX7_readHouse {l : Launch} {G : GT} {Z : Nat → Nat × Nat} {V : VT} {i : Nat} (hs_i : isSt i) {r : (Int32 × VT)} (h : fX7_readHouse V i = some r) : CI l G (SG Z) yX7_readHouse (.code yX7_readHouse cX7_readHouse 4 (some .boolean)) 8 [.ref (G.2.2 1), .ref (G.2.2 i)] V r.1 r.2 := by
  intro sz
  refine met_of (Qs := fun sz => QI G sz (r.1) (r.2)) (SG_ok Z) (by decide) (Nat.le_of_ble_eq_true rfl) ?_ sz
  intro p e s m args below meth c ls E hw hl
  have hx := en_x E
  have hb := en_b E
  have hB := en_B E
  generalize hQ : MQ _ _ _ _ _ _ _ = Q
  have kr : Q = MQ below (QI G s.heap.size r.1 r.2) args s 0 0 (gA G s.heap.size) := hQ.symm
  have hl : lv_has ls 4 [(0, .ref (G.2.2 1)), (1, .ref (G.2.2 i))] := hl
  obtain ⟨H, eH⟩ : ∃ H, H = s.heap := ⟨_, rfl⟩
  obtain ⟨locs, elocs⟩ : ∃ z : List Loc, z = [] := ⟨_, rfl⟩
  have hw : HW G s.heap V H locs := by rw [eH, elocs]; exact hw
  show W p l e _ s m args below meth c s.heap [] 0 0 Q (F0 m 0 ls [])
  rw [← eH, ← elocs]
  unfold fX7_readHouse at h
  refine lv_aload_n hx hb dX7_readHouse_0 rfl (lv_at hl 1 rfl) ?_
  refine r_giN E hw i 3 (N := 13) (C := RX6) (T := TX6) (st_lt hs_i) (st_c hs_i) (st_N hs_i) (by decide) (st_n hs_i (k := 3) (by decide)) iw_6 rfl lf_RX7_34 dX7_readHouse_1 ?_
  obtain ⟨y1, ey1, h⟩ := lt_some h
  refine lv_eqi ey1 ?_
  refine lv_istore_n (lv' := [(2, .int y1), (0, .ref (G.2.2 1)), (1, .ref (G.2.2 i))]) hx hb dX7_readHouse_4 rfl hl (by decide) rfl (fun ls hl => ?_)
  refine lv_aload_n hx hb dX7_readHouse_5 rfl (lv_at hl 2 rfl) ?_
  refine lv_iload_n hx hb dX7_readHouse_6 rfl (lv_at hl 0 rfl) ?_
  refine lv_iconst (v := (5 : Int32)) hx hb dX7_readHouse_7 (by decide) ?_
  refine lv_iconst (v := (0 : Int32)) hx hb dX7_readHouse_8 (by decide) ?_
  obtain ⟨V3, h2, h⟩ := ob_R_some h
  refine c_VV E hw (kX6_setHouse (l := l) (G := G) hB hs_i h2) yy_X6_setHouse lm_RX7_64 rfl (st_lt hs_i) (st_c hs_i) rfl hl.1 (by decide) (by decide) rfl (Nat.le_of_ble_eq_true rfl) dX7_readHouse_9 (fun H locs hw => ?_)
  refine lv_aload_n hx hb dX7_readHouse_12 rfl (lv_at hl 2 rfl) ?_
  refine lv_iload_n hx hb dX7_readHouse_13 rfl (lv_at hl 0 rfl) ?_
  refine lv_bipush (v := (6 : Int32)) hx hb dX7_readHouse_14 (by decide) ?_
  refine lv_iconst (v := (0 : Int32)) hx hb dX7_readHouse_16 (by decide) ?_
  obtain ⟨V5, h4, h⟩ := ob_R_some h
  refine c_VV E hw (kX6_setHouse (l := l) (G := G) hB hs_i h4) yy_X6_setHouse lm_RX7_64 rfl (st_lt hs_i) (st_c hs_i) rfl hl.1 (by decide) (by decide) rfl (Nat.le_of_ble_eq_true rfl) dX7_readHouse_17 (fun H locs hw => ?_)
  refine lv_aload_n hx hb dX7_readHouse_20 rfl (lv_at hl 1 rfl) ?_
  refine lv_aload_n hx hb dX7_readHouse_21 rfl (lv_at hl 2 rfl) ?_
  refine r_ls (w := 31) E (by decide) rfl rfl dX7_readHouse_22 ?_
  refine lv_iconst (v := (0 : Int32)) hx hb dX7_readHouse_24 (by decide) ?_
  refine lv_iconst (v := (0 : Int32)) hx hb dX7_readHouse_25 (by decide) ?_
  refine lv_bipush (v := (23 : Int32)) hx hb dX7_readHouse_26 (by decide) ?_
  obtain ⟨y7, V8, h6, h⟩ := ob_I_some h
  refine c_SI E hw (kX7_houseNumber (l := l) (G := G) (Z := Z) hs_i (by decide) h6) yy_X7_houseNumber lm_RX7_68 rfl hl.1 (by decide) (by decide) rfl (Nat.le_of_ble_eq_true rfl) dX7_readHouse_28 (fun H locs hw => ?_)
  refine lv_if_eq (tgt := 99) hx hb dX7_readHouse_31 (by decide) (fun c40 => ?_) (fun c40 => ?_)
  · rw [if_pos c40] at h
    exact wX7_readHouse_j99 E hs_i h kr hw (lv_sub hl [1, 2] rfl)
  · rw [if_neg c40] at h
    refine lv_aload_n hx hb dX7_readHouse_34 rfl (lv_at hl 1 rfl) ?_
    refine lv_aload_n hx hb dX7_readHouse_35 rfl (lv_at hl 2 rfl) ?_
    refine r_ls (w := 35) E (by decide) rfl rfl dX7_readHouse_36 ?_
    refine lv_iconst (v := (1 : Int32)) hx hb dX7_readHouse_38 (by decide) ?_
    refine lv_iconst (v := (0 : Int32)) hx hb dX7_readHouse_39 (by decide) ?_
    refine lv_bipush (v := (23 : Int32)) hx hb dX7_readHouse_40 (by decide) ?_
    obtain ⟨y23, V24, h22, h⟩ := ob_I_some h
    refine c_SI E hw (kX7_houseNumber (l := l) (G := G) (Z := Z) hs_i (by decide) h22) yy_X7_houseNumber lm_RX7_68 rfl hl.1 (by decide) (by decide) rfl (Nat.le_of_ble_eq_true rfl) dX7_readHouse_42 (fun H locs hw => ?_)
    refine lv_if_eq (tgt := 99) hx hb dX7_readHouse_45 (by decide) (fun c39 => ?_) (fun c39 => ?_)
    · rw [if_pos c39] at h
      exact wX7_readHouse_j99 E hs_i h kr hw (lv_sub hl [1, 2] rfl)
    · rw [if_neg c39] at h
      refine lv_aload_n hx hb dX7_readHouse_48 rfl (lv_at hl 1 rfl) ?_
      refine lv_aload_n hx hb dX7_readHouse_49 rfl (lv_at hl 2 rfl) ?_
      refine r_ls (w := 36) E (by decide) rfl rfl dX7_readHouse_50 ?_
      refine lv_iconst (v := (2 : Int32)) hx hb dX7_readHouse_52 (by decide) ?_
      refine lv_aload_n hx hb dX7_readHouse_53 rfl (lv_at hl 2 rfl) ?_
      refine lv_iload_n hx hb dX7_readHouse_54 rfl (lv_at hl 0 rfl) ?_
      refine lv_iconst (v := (1 : Int32)) hx hb dX7_readHouse_55 (by decide) ?_
      obtain ⟨y26, h25, h⟩ := ob_R_some h
      refine c_VI E hw (kX6_ofHouse (l := l) (G := G) hB hs_i h25) yy_X6_ofHouse lm_RX7_76 rfl (st_lt hs_i) (st_c hs_i) rfl hl.1 (by decide) (by decide) rfl (Nat.le_of_ble_eq_true rfl) dX7_readHouse_56 (fun H locs hw => ?_)
      refine lv_bipush (v := (23 : Int32)) hx hb dX7_readHouse_59 (by decide) ?_
      obtain ⟨y28, V29, h27, h⟩ := ob_I_some h
      refine c_SI E hw (kX7_houseNumber (l := l) (G := G) (Z := Z) hs_i (by decide) h27) yy_X7_houseNumber lm_RX7_68 rfl hl.1 (by decide) (by decide) rfl (Nat.le_of_ble_eq_true rfl) dX7_readHouse_61 (fun H locs hw => ?_)
      refine lv_if_eq (tgt := 99) hx hb dX7_readHouse_64 (by decide) (fun c38 => ?_) (fun c38 => ?_)
      · rw [if_pos c38] at h
        exact wX7_readHouse_j99 E hs_i h kr hw (lv_sub hl [1, 2] rfl)
      · rw [if_neg c38] at h
        refine lv_aload_n hx hb dX7_readHouse_67 rfl (lv_at hl 1 rfl) ?_
        refine lv_aload_n hx hb dX7_readHouse_68 rfl (lv_at hl 2 rfl) ?_
        refine r_ls (w := 37) E (by decide) rfl rfl dX7_readHouse_69 ?_
        refine lv_iconst (v := (3 : Int32)) hx hb dX7_readHouse_71 (by decide) ?_
        refine lv_iconst (v := (0 : Int32)) hx hb dX7_readHouse_72 (by decide) ?_
        refine lv_bipush (v := (23 : Int32)) hx hb dX7_readHouse_73 (by decide) ?_
        obtain ⟨y31, V32, h30, h⟩ := ob_I_some h
        refine c_SI E hw (kX7_houseNumber (l := l) (G := G) (Z := Z) hs_i (by decide) h30) yy_X7_houseNumber lm_RX7_68 rfl hl.1 (by decide) (by decide) rfl (Nat.le_of_ble_eq_true rfl) dX7_readHouse_75 (fun H locs hw => ?_)
        refine lv_if_eq (tgt := 99) hx hb dX7_readHouse_78 (by decide) (fun c37 => ?_) (fun c37 => ?_)
        · rw [if_pos c37] at h
          exact wX7_readHouse_j99 E hs_i h kr hw (lv_sub hl [1, 2] rfl)
        · rw [if_neg c37] at h
          refine lv_aload_n hx hb dX7_readHouse_81 rfl (lv_at hl 1 rfl) ?_
          refine lv_aload_n hx hb dX7_readHouse_82 rfl (lv_at hl 2 rfl) ?_
          refine r_ls (w := 38) E (by decide) rfl rfl dX7_readHouse_83 ?_
          refine lv_iconst (v := (4 : Int32)) hx hb dX7_readHouse_85 (by decide) ?_
          refine lv_iconst (v := (0 : Int32)) hx hb dX7_readHouse_86 (by decide) ?_
          refine lv_bipush (v := (24 : Int32)) hx hb dX7_readHouse_87 (by decide) ?_
          obtain ⟨y34, V35, h33, h⟩ := ob_I_some h
          refine c_SI E hw (kX7_houseNumber (l := l) (G := G) (Z := Z) hs_i (by decide) h33) yy_X7_houseNumber lm_RX7_68 rfl hl.1 (by decide) (by decide) rfl (Nat.le_of_ble_eq_true rfl) dX7_readHouse_89 (fun H locs hw => ?_)
          refine lv_if_eq (tgt := 99) hx hb dX7_readHouse_92 (by decide) (fun c36 => ?_) (fun c36 => ?_)
          · rw [if_pos c36] at h
            exact wX7_readHouse_j99 E hs_i h kr hw (lv_sub hl [1, 2] rfl)
          · rw [if_neg c36] at h
            refine lv_iconst (v := (1 : Int32)) hx hb dX7_readHouse_95 (by decide) ?_
            refine lv_goto (tgt := 100) hx hb dX7_readHouse_96 (by decide) ?_
            exact wX7_readHouse_j100 E hs_i h kr hw (lv_sub hl [1, 2] rfl)
