/-! opcode 18 -/
noncomputable def fL_c18 (xs : Nat → Int32) (L : Nat) (V : VT) (ov : Nat → Int64) (u4 : Int32) : Option ((VT × (Nat → Int64) × Int32) ⊕ Int32) := ob_I (fX9_best V ) fun y2 V3 => ob_I (fX10_best V3 ) fun y5 V6 => if y2 = y5 then (lt_ (u4 + (6 : Int32)) fun y7 => some (.inl (V6, ov, y7))) else (some (.inr (0 : Int32)))
set_option maxHeartbeats 4000000 in
set_option maxRecDepth 100000 in
theorem wL_c18 {p : Program} {l : Launch} {e : Env} {s : State} {m : MethodId} {args : Array Value} {below : List Frame} {meth : Method} {c : Code} {G : GT} {Z : Nat → Nat × Nat} {oa b L : Nat} {xs : Nat → Int32} {Q : State → Prop} (E : EO p s m args c meth cL_law_ 7 RL (some .boolean) G (SH Z) oa) (ht : l.stackTraces = false) (hX : va_X b L xs s s.heap) (hbl : b < s.heap.size) (hbA : ¬ gO G oa s.heap.size b) (hL : L ≤ 3072) {C0 S0 : Nat} (hC0 : C0 ≤ 100000) (hS0 : S0 ≤ 1000000) {V : VT} {ov : Nat → Int64} {u4 : Int32} {r : ((VT × (Nat → Int64) × Int32) ⊕ Int32)} (h : fL_c18 xs L V ov u4 = some r) (k1 : ∀ y, r = .inr y → y = 1) (kc : ∀ (V2 : VT) (ov2 : Nat → Int64), r = .inl (V2, ov2, u4 + 6) → ∀ (H : Heap) (locs : List Loc) (ls : Array Slot) (cells slots : Nat), HO G oa s.heap (V2) (ov2) H locs → lv_has ls 7 [(0, .ref b), (1, .ref (G.2.2 0)), (2, .ref (G.2.2 22)), (3, .ref oa), (4, .int (u4 + 6))] → cells ≤ C0 + 3 → slots ≤ S0 + 18 → W p l e room_1 s m args below meth c H locs cells slots Q (F0 m 23 ls [])) {H : Heap} {locs : List Loc} {ls : Array Slot} {cells slots : Nat} (hw : HO G oa s.heap V ov H locs) (hl : lv_has ls 7 [(0, .ref b), (1, .ref (G.2.2 0)), (2, .ref (G.2.2 22)), (3, .ref oa), (4, .int u4)]) (hce : cells ≤ C0) (hsl : slots ≤ S0) : W p l e room_1 s m args below meth c H locs cells slots Q (F0 m 1340 ls []) := by
  have hx := E.1
  have hb := E.2.1
  have hfc : ∀ K : Nat, K ≤ 3 → cells + K ≤ room_1.cells ∧ slots + 6 * K ≤ room_1.slots := fun K hK => ⟨by show cells + K ≤ 601024; omega, by show slots + 6 * K ≤ 7293034; omega⟩
  have hf0 : ∀ {c9 s9 : Nat}, c9 ≤ C0 + 3 → s9 ≤ S0 + 18 → c9 ≤ room_1.cells ∧ s9 ≤ room_1.slots := fun h1 h2 => ⟨by show _ ≤ 601024; omega, by show _ ≤ 7293034; omega⟩
  unfold fL_c18 at h
  refine lv_aload_n hx hb dL_law__1340 rfl (lv_at hl 1 rfl) ?_
  obtain ⟨y2, V3, h1, h⟩ := ob_I_some h
  refine o_VI (As := []) E hw (kX9_best (l := l) (G := G) (SG_ok Z) h1) yy_X9_best lm_RL_194 rfl (by decide) rfl rfl hl.1 (by decide) (hf0 (by omega) (by omega)) (by decide) rfl (Nat.le_of_ble_eq_true rfl) dL_law__1341 (fun H locs hw => ?_)
  refine lv_aload_n hx hb dL_law__1344 rfl (lv_at hl 2 rfl) ?_
  obtain ⟨y5, V6, h4, h⟩ := ob_I_some h
  refine o_VI (As := []) E hw (kX10_best (l := l) (G := G) (SG_ok Z) h4) yy_X10_best lm_RL_197 rfl (by decide) rfl rfl hl.1 (by decide) (hf0 (by omega) (by omega)) (by decide) rfl (Nat.le_of_ble_eq_true rfl) dL_law__1345 (fun H locs hw => ?_)
  refine lv_icmp_eq (tgt := 2599) hx hb dL_law__1348 (by decide) (fun c8 => ?_) (fun c8 => ?_)
  · rw [if_pos c8] at h
    obtain ⟨y7, ey7, h⟩ := lt_some h
    refine lv_iinc (v := y7) (lv' := [(4, .int y7), (0, .ref b), (1, .ref (G.2.2 0)), (2, .ref (G.2.2 22)), (3, .ref oa)]) hx hb dL_law__2599 hl (k := 4) rfl (by rw [ey7]; rfl) (by decide) rfl (fun ls hl => ?_)
    refine lv_goto (tgt := 23) hx hb dL_law__2602 (by decide) ?_
    subst ey7
    exact kc V6 ov (Option.some.inj h).symm H locs ls _ _ hw (lv_sub hl [1, 2, 3, 4, 0] rfl) (by omega) (by omega)
  · rw [if_neg c8] at h
    refine lv_iconst (v := (0 : Int32)) hx hb dL_law__1351 (by decide) ?_
    exact absurd (k1 _ (Option.some.inj h).symm) (by decide)
theorem dL_law__1353 : decode cL_law_ 1353 = .ok (.aload_n 1, 1) := by decide +kernel
theorem dL_law__1354 : decode cL_law_ 1354 = .ok (.aload_n 0, 1) := by decide +kernel
theorem dL_law__1355 : decode cL_law_ 1355 = .ok (.iload 4, 2) := by decide +kernel
theorem dL_law__1357 : decode cL_law_ 1357 = .ok (.iconst 1, 1) := by decide +kernel
theorem dL_law__1358 : decode cL_law_ 1358 = .ok (.iadd, 1) := by decide +kernel
theorem dL_law__1359 : decode cL_law_ 1359 = .ok (.iaload, 1) := by decide +kernel
theorem dL_law__1360 : decode cL_law_ 1360 = .ok (.aload_n 0, 1) := by decide +kernel
theorem dL_law__1361 : decode cL_law_ 1361 = .ok (.iload 4, 2) := by decide +kernel
theorem dL_law__1363 : decode cL_law_ 1363 = .ok (.iconst 2, 1) := by decide +kernel
theorem dL_law__1364 : decode cL_law_ 1364 = .ok (.iadd, 1) := by decide +kernel
theorem dL_law__1365 : decode cL_law_ 1365 = .ok (.iaload, 1) := by decide +kernel
theorem dL_law__1366 : decode cL_law_ 1366 = .ok (.aload_n 3, 1) := by decide +kernel
theorem dL_law__1367 : decode cL_law_ 1367 = .ok (.invokestatic 198, 3) := by decide +kernel
theorem dL_law__1370 : decode cL_law_ 1370 = .ok (.istore 5, 2) := by decide +kernel
theorem dL_law__1372 : decode cL_law_ 1372 = .ok (.aload_n 2, 1) := by decide +kernel
theorem dL_law__1373 : decode cL_law_ 1373 = .ok (.aload_n 0, 1) := by decide +kernel
theorem dL_law__1374 : decode cL_law_ 1374 = .ok (.iload 4, 2) := by decide +kernel
theorem dL_law__1376 : decode cL_law_ 1376 = .ok (.iconst 1, 1) := by decide +kernel
theorem dL_law__1377 : decode cL_law_ 1377 = .ok (.iadd, 1) := by decide +kernel
theorem dL_law__1378 : decode cL_law_ 1378 = .ok (.iaload, 1) := by decide +kernel
theorem dL_law__1379 : decode cL_law_ 1379 = .ok (.aload_n 0, 1) := by decide +kernel
theorem dL_law__1380 : decode cL_law_ 1380 = .ok (.iload 4, 2) := by decide +kernel
theorem dL_law__1382 : decode cL_law_ 1382 = .ok (.iconst 2, 1) := by decide +kernel
theorem dL_law__1383 : decode cL_law_ 1383 = .ok (.iadd, 1) := by decide +kernel
theorem dL_law__1384 : decode cL_law_ 1384 = .ok (.iaload, 1) := by decide +kernel
theorem dL_law__1385 : decode cL_law_ 1385 = .ok (.invokevirtual 200, 3) := by decide +kernel
theorem dL_law__1388 : decode cL_law_ 1388 = .ok (.istore 6, 2) := by decide +kernel
theorem dL_law__1390 : decode cL_law_ 1390 = .ok (.aload_n 2, 1) := by decide +kernel
theorem dL_law__1391 : decode cL_law_ 1391 = .ok (.invokevirtual 141, 3) := by decide +kernel
theorem dL_law__1394 : decode cL_law_ 1394 = .ok (.iload 5, 2) := by decide +kernel
theorem dL_law__1396 : decode cL_law_ 1396 = .ok (.if_icmp .eq 5, 3) := by decide +kernel
theorem dL_law__1399 : decode cL_law_ 1399 = .ok (.iconst 0, 1) := by decide +kernel
theorem dL_law__1400 : decode cL_law_ 1400 = .ok (.ireturn, 1) := by decide +kernel
theorem dL_law__1401 : decode cL_law_ 1401 = .ok (.iload 5, 2) := by decide +kernel
theorem dL_law__1403 : decode cL_law_ 1403 = .ok (.ifCond .ne 15, 3) := by decide +kernel
theorem dL_law__1406 : decode cL_law_ 1406 = .ok (.aload_n 3, 1) := by decide +kernel
theorem dL_law__1407 : decode cL_law_ 1407 = .ok (.iconst 0, 1) := by decide +kernel
theorem dL_law__1408 : decode cL_law_ 1408 = .ok (.laload, 1) := by decide +kernel
theorem dL_law__1409 : decode cL_law_ 1409 = .ok (.iload 6, 2) := by decide +kernel
theorem dL_law__1411 : decode cL_law_ 1411 = .ok (.i2l, 1) := by decide +kernel
theorem dL_law__1412 : decode cL_law_ 1412 = .ok (.lcmp, 1) := by decide +kernel
theorem dL_law__1413 : decode cL_law_ 1413 = .ok (.ifCond .eq 5, 3) := by decide +kernel
theorem dL_law__1416 : decode cL_law_ 1416 = .ok (.iconst 0, 1) := by decide +kernel
theorem dL_law__1417 : decode cL_law_ 1417 = .ok (.ireturn, 1) := by decide +kernel
theorem dL_law__1418 : decode cL_law_ 1418 = .ok (.goto 1181, 3) := by decide +kernel
/-! opcode 19 -/
noncomputable def fL_c19 (xs : Nat → Int32) (L : Nat) (V : VT) (ov : Nat → Int64) (u4 : Int32) : Option ((VT × (Nat → Int64) × Int32) ⊕ Int32) := rd_ (u4 + (1 : Int32)) L (lt_ (xs (u4 + (1 : Int32)).toNatClampNeg) fun z2 => rd_ (u4 + (2 : Int32)) L (lt_ (xs (u4 + (2 : Int32)).toNatClampNeg) fun z4 => ob_I (fX9_wake V z2 z4) fun o5 V10 => ob_R (hL_wake o5 ov) fun qy7 => dt2_ qy7 fun y7 w6 => rd_ (u4 + (1 : Int32)) L (lt_ (xs (u4 + (1 : Int32)).toNatClampNeg) fun z12 => rd_ (u4 + (2 : Int32)) L (lt_ (xs (u4 + (2 : Int32)).toNatClampNeg) fun z14 => ob_I (fX10_wake V10 z12 z14) fun y16 V17 => ob_R (fX10_thrown V17 ) fun y19 => if y19 = y7 then (if y7 = 0 then (if (lg_cmp (w6 ((0 : Int32).toNatClampNeg)) y16.toInt64) = 0 then (lt_ (u4 + (6 : Int32)) fun y21 => some (.inl (V17, w6, y21))) else (some (.inr (0 : Int32)))) else (lt_ (u4 + (6 : Int32)) fun y20 => some (.inl (V17, w6, y20)))) else (some (.inr (0 : Int32)))))))
set_option maxHeartbeats 4000000 in
set_option maxRecDepth 100000 in
theorem wL_c19 {p : Program} {l : Launch} {e : Env} {s : State} {m : MethodId} {args : Array Value} {below : List Frame} {meth : Method} {c : Code} {G : GT} {Z : Nat → Nat × Nat} {oa b L : Nat} {xs : Nat → Int32} {Q : State → Prop} (E : EO p s m args c meth cL_law_ 7 RL (some .boolean) G (SH Z) oa) (ht : l.stackTraces = false) (hX : va_X b L xs s s.heap) (hbl : b < s.heap.size) (hbA : ¬ gO G oa s.heap.size b) (hL : L ≤ 3072) {C0 S0 : Nat} (hC0 : C0 ≤ 100000) (hS0 : S0 ≤ 1000000) {V : VT} {ov : Nat → Int64} {u4 : Int32} {r : ((VT × (Nat → Int64) × Int32) ⊕ Int32)} (h : fL_c19 xs L V ov u4 = some r) (k1 : ∀ y, r = .inr y → y = 1) (kc : ∀ (V2 : VT) (ov2 : Nat → Int64), r = .inl (V2, ov2, u4 + 6) → ∀ (H : Heap) (locs : List Loc) (ls : Array Slot) (cells slots : Nat), HO G oa s.heap (V2) (ov2) H locs → lv_has ls 7 [(0, .ref b), (1, .ref (G.2.2 0)), (2, .ref (G.2.2 22)), (3, .ref oa), (4, .int (u4 + 6))] → cells ≤ C0 + 3 → slots ≤ S0 + 18 → W p l e room_1 s m args below meth c H locs cells slots Q (F0 m 23 ls [])) {H : Heap} {locs : List Loc} {ls : Array Slot} {cells slots : Nat} (hw : HO G oa s.heap V ov H locs) (hl : lv_has ls 7 [(0, .ref b), (1, .ref (G.2.2 0)), (2, .ref (G.2.2 22)), (3, .ref oa), (4, .int u4)]) (hce : cells ≤ C0) (hsl : slots ≤ S0) : W p l e room_1 s m args below meth c H locs cells slots Q (F0 m 1353 ls []) := by
  have hx := E.1
  have hb := E.2.1
  have hfc : ∀ K : Nat, K ≤ 3 → cells + K ≤ room_1.cells ∧ slots + 6 * K ≤ room_1.slots := fun K hK => ⟨by show cells + K ≤ 601024; omega, by show slots + 6 * K ≤ 7293034; omega⟩
  have hf0 : ∀ {c9 s9 : Nat}, c9 ≤ C0 + 3 → s9 ≤ S0 + 18 → c9 ≤ room_1.cells ∧ s9 ≤ room_1.slots := fun h1 h2 => ⟨by show _ ≤ 601024; omega, by show _ ≤ 7293034; omega⟩
  unfold fL_c19 at h
  refine lv_aload_n hx hb dL_law__1353 rfl (lv_at hl 1 rfl) ?_
  refine lv_aload_n hx hb dL_law__1354 rfl (lv_at hl 0 rfl) ?_
  refine lv_iload hx hb dL_law__1355 (lv_at hl 4 rfl) ?_
  refine lv_iconst (v := (1 : Int32)) hx hb dL_law__1357 (by decide) ?_
  refine lv_iadd hx hb dL_law__1358 ?_
  obtain ⟨b1, h⟩ := rd_some h
  obtain ⟨z2, ez2, h⟩ := lt_some h
  refine va_sld hx hb hX hbl hbA hw.2.2 b1 dL_law__1359 ?_
  refine lv_eqi ez2 ?_
  refine lv_aload_n hx hb dL_law__1360 rfl (lv_at hl 0 rfl) ?_
  refine lv_iload hx hb dL_law__1361 (lv_at hl 4 rfl) ?_
  refine lv_iconst (v := (2 : Int32)) hx hb dL_law__1363 (by decide) ?_
  refine lv_iadd hx hb dL_law__1364 ?_
  obtain ⟨b3, h⟩ := rd_some h
  obtain ⟨z4, ez4, h⟩ := lt_some h
  refine va_sld hx hb hX hbl hbA hw.2.2 b3 dL_law__1365 ?_
  refine lv_eqi ez4 ?_
  refine lv_aload_n hx hb dL_law__1366 rfl (lv_at hl 3 rfl) ?_
  obtain ⟨o5, V10, h8, h⟩ := ob_I_some h
  obtain ⟨⟨y7, w6⟩, h9, h⟩ := ob_R_some h
  have h := dt2_eq h
  refine o_SH (n := 4) (As := [.ref (G.2.2 0), .int z2, .int z4, .ref oa]) E hw (kL_wake (l := l) (G := G) (Z := Z) (oa := oa) ht h8 h9) yw_L_wake lw_ini lm_RL_198 ⟨by decide, by decide, by decide +kernel⟩ rfl hl.1 (by decide) (hfc 2 (by decide)) (by decide) rfl (Nat.le_of_ble_eq_true rfl) dL_law__1367 (fun H locs hw => ?_)
  refine lv_istore (lv' := [(5, .int y7), (0, .ref b), (1, .ref (G.2.2 0)), (2, .ref (G.2.2 22)), (3, .ref oa), (4, .int u4)]) hx hb dL_law__1370 hl (by decide) rfl (fun ls hl => ?_)
  refine lv_aload_n hx hb dL_law__1372 rfl (lv_at hl 3 rfl) ?_
  refine lv_aload_n hx hb dL_law__1373 rfl (lv_at hl 1 rfl) ?_
  refine lv_iload hx hb dL_law__1374 (lv_at hl 5 rfl) ?_
  refine lv_iconst (v := (1 : Int32)) hx hb dL_law__1376 (by decide) ?_
  refine lv_iadd hx hb dL_law__1377 ?_
  obtain ⟨b11, h⟩ := rd_some h
  obtain ⟨z12, ez12, h⟩ := lt_some h
  refine va_sld hx hb hX hbl hbA hw.2.2 b11 dL_law__1378 ?_
  refine lv_eqi ez12 ?_
  refine lv_aload_n hx hb dL_law__1379 rfl (lv_at hl 1 rfl) ?_
  refine lv_iload hx hb dL_law__1380 (lv_at hl 5 rfl) ?_
  refine lv_iconst (v := (2 : Int32)) hx hb dL_law__1382 (by decide) ?_
  refine lv_iadd hx hb dL_law__1383 ?_
  obtain ⟨b13, h⟩ := rd_some h
  obtain ⟨z14, ez14, h⟩ := lt_some h
  refine va_sld hx hb hX hbl hbA hw.2.2 b13 dL_law__1384 ?_
  refine lv_eqi ez14 ?_
  obtain ⟨y16, V17, h15, h⟩ := ob_I_some h
  refine o_VI (As := [.int z12, .int z14]) E hw (kX10_wake (l := l) (G := G) (SG_ok Z) h15) yy_X10_wake lm_RL_200 rfl (by decide) rfl rfl hl.1 (by decide) (hf0 (by omega) (by omega)) (by decide) rfl (Nat.le_of_ble_eq_true rfl) dL_law__1385 (fun H locs hw => ?_)
  refine lv_istore (lv' := [(6, .int y16), (5, .int y7), (0, .ref b), (1, .ref (G.2.2 0)), (2, .ref (G.2.2 22)), (3, .ref oa), (4, .int u4)]) hx hb dL_law__1388 hl (by decide) rfl (fun ls hl => ?_)
  refine lv_aload_n hx hb dL_law__1390 rfl (lv_at hl 4 rfl) ?_
  obtain ⟨y19, h18, h⟩ := ob_R_some h
  refine o_VI (As := []) E hw (kX10_thrown (l := l) (G := G) (SG_ok Z) h18) yy_X10_thrown lm_RL_141 rfl (by decide) rfl rfl hl.1 (by decide) (hf0 (by omega) (by omega)) (by decide) rfl (Nat.le_of_ble_eq_true rfl) dL_law__1391 (fun H locs hw => ?_)
  refine lv_iload hx hb dL_law__1394 (lv_at hl 1 rfl) ?_
  refine lv_icmp_eq (tgt := 1401) hx hb dL_law__1396 (by decide) (fun c24 => ?_) (fun c24 => ?_)
  · rw [if_pos c24] at h
    refine lv_iload hx hb dL_law__1401 (lv_at hl 1 rfl) ?_
    refine lv_if_ne (tgt := 1418) hx hb dL_law__1403 (by decide) (fun c23 => ?_) (fun c23 => ?_)
    · rw [if_neg c23] at h
      refine lv_goto (tgt := 2599) hx hb dL_law__1418 (by decide) ?_
      obtain ⟨y20, ey20, h⟩ := lt_some h
      refine lv_iinc (v := y20) (lv' := [(4, .int y20), (6, .int y16), (5, .int y7), (0, .ref b), (1, .ref (G.2.2 0)), (2, .ref (G.2.2 22)), (3, .ref oa)]) hx hb dL_law__2599 hl (k := 6) rfl (by rw [ey20]; rfl) (by decide) rfl (fun ls hl => ?_)
      refine lv_goto (tgt := 23) hx hb dL_law__2602 (by decide) ?_
      subst ey20
      exact kc V17 w6 (Option.some.inj h).symm H locs ls _ _ hw (lv_sub hl [3, 4, 5, 6, 0] rfl) (by omega) (by omega)
    · rw [if_pos c23] at h
      refine lv_aload_n hx hb dL_law__1406 rfl (lv_at hl 5 rfl) ?_
      refine lv_iconst (v := (0 : Int32)) hx hb dL_law__1407 (by decide) ?_
      refine o_ll E hw vp_0_1 dL_law__1408 ?_
      refine lv_iload hx hb dL_law__1409 (lv_at hl 0 rfl) ?_
      refine lv_i2l hx hb dL_law__1411 rfl ?_
      refine W.lcmp hx hb dL_law__1412 ?_
      refine lv_if_eq (tgt := 1418) hx hb dL_law__1413 (by decide) (fun c22 => ?_) (fun c22 => ?_)
      · rw [if_pos c22] at h
        refine lv_goto (tgt := 2599) hx hb dL_law__1418 (by decide) ?_
        obtain ⟨y21, ey21, h⟩ := lt_some h
        refine lv_iinc (v := y21) (lv' := [(4, .int y21), (6, .int y16), (5, .int y7), (0, .ref b), (1, .ref (G.2.2 0)), (2, .ref (G.2.2 22)), (3, .ref oa)]) hx hb dL_law__2599 hl (k := 6) rfl (by rw [ey21]; rfl) (by decide) rfl (fun ls hl => ?_)
        refine lv_goto (tgt := 23) hx hb dL_law__2602 (by decide) ?_
        subst ey21
        exact kc V17 w6 (Option.some.inj h).symm H locs ls _ _ hw (lv_sub hl [3, 4, 5, 6, 0] rfl) (by omega) (by omega)
      · rw [if_neg c22] at h
        refine lv_iconst (v := (0 : Int32)) hx hb dL_law__1416 (by decide) ?_
        exact absurd (k1 _ (Option.some.inj h).symm) (by decide)
  · rw [if_neg c24] at h
    refine lv_iconst (v := (0 : Int32)) hx hb dL_law__1399 (by decide) ?_
    exact absurd (k1 _ (Option.some.inj h).symm) (by decide)
theorem dL_law__1421 : decode cL_law_ 1421 = .ok (.aload_n 1, 1) := by decide +kernel
theorem dL_law__1422 : decode cL_law_ 1422 = .ok (.aload_n 0, 1) := by decide +kernel
theorem dL_law__1423 : decode cL_law_ 1423 = .ok (.iload 4, 2) := by decide +kernel
theorem dL_law__1425 : decode cL_law_ 1425 = .ok (.iconst 1, 1) := by decide +kernel
theorem dL_law__1426 : decode cL_law_ 1426 = .ok (.iadd, 1) := by decide +kernel
theorem dL_law__1427 : decode cL_law_ 1427 = .ok (.iaload, 1) := by decide +kernel
theorem dL_law__1428 : decode cL_law_ 1428 = .ok (.aload_n 0, 1) := by decide +kernel
theorem dL_law__1429 : decode cL_law_ 1429 = .ok (.iload 4, 2) := by decide +kernel
theorem dL_law__1431 : decode cL_law_ 1431 = .ok (.iconst 2, 1) := by decide +kernel
theorem dL_law__1432 : decode cL_law_ 1432 = .ok (.iadd, 1) := by decide +kernel
theorem dL_law__1433 : decode cL_law_ 1433 = .ok (.iaload, 1) := by decide +kernel
theorem dL_law__1434 : decode cL_law_ 1434 = .ok (.aload_n 3, 1) := by decide +kernel
theorem dL_law__1435 : decode cL_law_ 1435 = .ok (.invokestatic 201, 3) := by decide +kernel
theorem dL_law__1438 : decode cL_law_ 1438 = .ok (.istore 5, 2) := by decide +kernel
theorem dL_law__1440 : decode cL_law_ 1440 = .ok (.aload_n 2, 1) := by decide +kernel
theorem dL_law__1441 : decode cL_law_ 1441 = .ok (.aload_n 0, 1) := by decide +kernel
theorem dL_law__1442 : decode cL_law_ 1442 = .ok (.iload 4, 2) := by decide +kernel
theorem dL_law__1444 : decode cL_law_ 1444 = .ok (.iconst 1, 1) := by decide +kernel
theorem dL_law__1445 : decode cL_law_ 1445 = .ok (.iadd, 1) := by decide +kernel
theorem dL_law__1446 : decode cL_law_ 1446 = .ok (.iaload, 1) := by decide +kernel
theorem dL_law__1447 : decode cL_law_ 1447 = .ok (.aload_n 0, 1) := by decide +kernel
theorem dL_law__1448 : decode cL_law_ 1448 = .ok (.iload 4, 2) := by decide +kernel
theorem dL_law__1450 : decode cL_law_ 1450 = .ok (.iconst 2, 1) := by decide +kernel
theorem dL_law__1451 : decode cL_law_ 1451 = .ok (.iadd, 1) := by decide +kernel
theorem dL_law__1452 : decode cL_law_ 1452 = .ok (.iaload, 1) := by decide +kernel
theorem dL_law__1453 : decode cL_law_ 1453 = .ok (.invokevirtual 203, 3) := by decide +kernel
theorem dL_law__1456 : decode cL_law_ 1456 = .ok (.istore 6, 2) := by decide +kernel
theorem dL_law__1458 : decode cL_law_ 1458 = .ok (.aload_n 2, 1) := by decide +kernel
theorem dL_law__1459 : decode cL_law_ 1459 = .ok (.invokevirtual 141, 3) := by decide +kernel
theorem dL_law__1462 : decode cL_law_ 1462 = .ok (.iload 5, 2) := by decide +kernel
theorem dL_law__1464 : decode cL_law_ 1464 = .ok (.if_icmp .eq 5, 3) := by decide +kernel
theorem dL_law__1467 : decode cL_law_ 1467 = .ok (.iconst 0, 1) := by decide +kernel
theorem dL_law__1468 : decode cL_law_ 1468 = .ok (.ireturn, 1) := by decide +kernel
theorem dL_law__1469 : decode cL_law_ 1469 = .ok (.iload 5, 2) := by decide +kernel
theorem dL_law__1471 : decode cL_law_ 1471 = .ok (.ifCond .ne 15, 3) := by decide +kernel
theorem dL_law__1474 : decode cL_law_ 1474 = .ok (.aload_n 3, 1) := by decide +kernel
theorem dL_law__1475 : decode cL_law_ 1475 = .ok (.iconst 0, 1) := by decide +kernel
theorem dL_law__1476 : decode cL_law_ 1476 = .ok (.laload, 1) := by decide +kernel
theorem dL_law__1477 : decode cL_law_ 1477 = .ok (.iload 6, 2) := by decide +kernel
theorem dL_law__1479 : decode cL_law_ 1479 = .ok (.i2l, 1) := by decide +kernel
theorem dL_law__1480 : decode cL_law_ 1480 = .ok (.lcmp, 1) := by decide +kernel
theorem dL_law__1481 : decode cL_law_ 1481 = .ok (.ifCond .eq 5, 3) := by decide +kernel
theorem dL_law__1484 : decode cL_law_ 1484 = .ok (.iconst 0, 1) := by decide +kernel
theorem dL_law__1485 : decode cL_law_ 1485 = .ok (.ireturn, 1) := by decide +kernel
theorem dL_law__1486 : decode cL_law_ 1486 = .ok (.goto 1113, 3) := by decide +kernel
/-! opcode 20 -/
noncomputable def fL_c20 (xs : Nat → Int32) (L : Nat) (V : VT) (ov : Nat → Int64) (u4 : Int32) : Option ((VT × (Nat → Int64) × Int32) ⊕ Int32) := rd_ (u4 + (1 : Int32)) L (lt_ (xs (u4 + (1 : Int32)).toNatClampNeg) fun z2 => rd_ (u4 + (2 : Int32)) L (lt_ (xs (u4 + (2 : Int32)).toNatClampNeg) fun z4 => ob_I (fX9_mirrors V z2 z4) fun o5 V10 => ob_R (hL_mirrors o5 ov) fun qy7 => dt2_ qy7 fun y7 w6 => rd_ (u4 + (1 : Int32)) L (lt_ (xs (u4 + (1 : Int32)).toNatClampNeg) fun z12 => rd_ (u4 + (2 : Int32)) L (lt_ (xs (u4 + (2 : Int32)).toNatClampNeg) fun z14 => ob_I (fX10_mirrors V10 z12 z14) fun y16 V17 => ob_R (fX10_thrown V17 ) fun y19 => if y19 = y7 then (if y7 = 0 then (if (lg_cmp (w6 ((0 : Int32).toNatClampNeg)) y16.toInt64) = 0 then (lt_ (u4 + (6 : Int32)) fun y21 => some (.inl (V17, w6, y21))) else (some (.inr (0 : Int32)))) else (lt_ (u4 + (6 : Int32)) fun y20 => some (.inl (V17, w6, y20)))) else (some (.inr (0 : Int32)))))))
set_option maxHeartbeats 4000000 in
set_option maxRecDepth 100000 in
theorem wL_c20 {p : Program} {l : Launch} {e : Env} {s : State} {m : MethodId} {args : Array Value} {below : List Frame} {meth : Method} {c : Code} {G : GT} {Z : Nat → Nat × Nat} {oa b L : Nat} {xs : Nat → Int32} {Q : State → Prop} (E : EO p s m args c meth cL_law_ 7 RL (some .boolean) G (SH Z) oa) (ht : l.stackTraces = false) (hX : va_X b L xs s s.heap) (hbl : b < s.heap.size) (hbA : ¬ gO G oa s.heap.size b) (hL : L ≤ 3072) {C0 S0 : Nat} (hC0 : C0 ≤ 100000) (hS0 : S0 ≤ 1000000) {V : VT} {ov : Nat → Int64} {u4 : Int32} {r : ((VT × (Nat → Int64) × Int32) ⊕ Int32)} (h : fL_c20 xs L V ov u4 = some r) (k1 : ∀ y, r = .inr y → y = 1) (kc : ∀ (V2 : VT) (ov2 : Nat → Int64), r = .inl (V2, ov2, u4 + 6) → ∀ (H : Heap) (locs : List Loc) (ls : Array Slot) (cells slots : Nat), HO G oa s.heap (V2) (ov2) H locs → lv_has ls 7 [(0, .ref b), (1, .ref (G.2.2 0)), (2, .ref (G.2.2 22)), (3, .ref oa), (4, .int (u4 + 6))] → cells ≤ C0 + 3 → slots ≤ S0 + 18 → W p l e room_1 s m args below meth c H locs cells slots Q (F0 m 23 ls [])) {H : Heap} {locs : List Loc} {ls : Array Slot} {cells slots : Nat} (hw : HO G oa s.heap V ov H locs) (hl : lv_has ls 7 [(0, .ref b), (1, .ref (G.2.2 0)), (2, .ref (G.2.2 22)), (3, .ref oa), (4, .int u4)]) (hce : cells ≤ C0) (hsl : slots ≤ S0) : W p l e room_1 s m args below meth c H locs cells slots Q (F0 m 1421 ls []) := by
  have hx := E.1
  have hb := E.2.1
  have hfc : ∀ K : Nat, K ≤ 3 → cells + K ≤ room_1.cells ∧ slots + 6 * K ≤ room_1.slots := fun K hK => ⟨by show cells + K ≤ 601024; omega, by show slots + 6 * K ≤ 7293034; omega⟩
  have hf0 : ∀ {c9 s9 : Nat}, c9 ≤ C0 + 3 → s9 ≤ S0 + 18 → c9 ≤ room_1.cells ∧ s9 ≤ room_1.slots := fun h1 h2 => ⟨by show _ ≤ 601024; omega, by show _ ≤ 7293034; omega⟩
  unfold fL_c20 at h
  refine lv_aload_n hx hb dL_law__1421 rfl (lv_at hl 1 rfl) ?_
  refine lv_aload_n hx hb dL_law__1422 rfl (lv_at hl 0 rfl) ?_
  refine lv_iload hx hb dL_law__1423 (lv_at hl 4 rfl) ?_
  refine lv_iconst (v := (1 : Int32)) hx hb dL_law__1425 (by decide) ?_
  refine lv_iadd hx hb dL_law__1426 ?_
  obtain ⟨b1, h⟩ := rd_some h
  obtain ⟨z2, ez2, h⟩ := lt_some h
  refine va_sld hx hb hX hbl hbA hw.2.2 b1 dL_law__1427 ?_
  refine lv_eqi ez2 ?_
  refine lv_aload_n hx hb dL_law__1428 rfl (lv_at hl 0 rfl) ?_
  refine lv_iload hx hb dL_law__1429 (lv_at hl 4 rfl) ?_
  refine lv_iconst (v := (2 : Int32)) hx hb dL_law__1431 (by decide) ?_
  refine lv_iadd hx hb dL_law__1432 ?_
  obtain ⟨b3, h⟩ := rd_some h
  obtain ⟨z4, ez4, h⟩ := lt_some h
  refine va_sld hx hb hX hbl hbA hw.2.2 b3 dL_law__1433 ?_
  refine lv_eqi ez4 ?_
  refine lv_aload_n hx hb dL_law__1434 rfl (lv_at hl 3 rfl) ?_
  obtain ⟨o5, V10, h8, h⟩ := ob_I_some h
  obtain ⟨⟨y7, w6⟩, h9, h⟩ := ob_R_some h
  have h := dt2_eq h
  refine o_SH (n := 4) (As := [.ref (G.2.2 0), .int z2, .int z4, .ref oa]) E hw (kL_mirrors (l := l) (G := G) (Z := Z) (oa := oa) ht h8 h9) yw_L_mirrors lw_ini lm_RL_201 ⟨by decide, by decide, by decide +kernel⟩ rfl hl.1 (by decide) (hfc 2 (by decide)) (by decide) rfl (Nat.le_of_ble_eq_true rfl) dL_law__1435 (fun H locs hw => ?_)
  refine lv_istore (lv' := [(5, .int y7), (0, .ref b), (1, .ref (G.2.2 0)), (2, .ref (G.2.2 22)), (3, .ref oa), (4, .int u4)]) hx hb dL_law__1438 hl (by decide) rfl (fun ls hl => ?_)
  refine lv_aload_n hx hb dL_law__1440 rfl (lv_at hl 3 rfl) ?_
  refine lv_aload_n hx hb dL_law__1441 rfl (lv_at hl 1 rfl) ?_
  refine lv_iload hx hb dL_law__1442 (lv_at hl 5 rfl) ?_
  refine lv_iconst (v := (1 : Int32)) hx hb dL_law__1444 (by decide) ?_
  refine lv_iadd hx hb dL_law__1445 ?_
  obtain ⟨b11, h⟩ := rd_some h
  obtain ⟨z12, ez12, h⟩ := lt_some h
  refine va_sld hx hb hX hbl hbA hw.2.2 b11 dL_law__1446 ?_
  refine lv_eqi ez12 ?_
  refine lv_aload_n hx hb dL_law__1447 rfl (lv_at hl 1 rfl) ?_
  refine lv_iload hx hb dL_law__1448 (lv_at hl 5 rfl) ?_
  refine lv_iconst (v := (2 : Int32)) hx hb dL_law__1450 (by decide) ?_
  refine lv_iadd hx hb dL_law__1451 ?_
  obtain ⟨b13, h⟩ := rd_some h
  obtain ⟨z14, ez14, h⟩ := lt_some h
  refine va_sld hx hb hX hbl hbA hw.2.2 b13 dL_law__1452 ?_
  refine lv_eqi ez14 ?_
  obtain ⟨y16, V17, h15, h⟩ := ob_I_some h
  refine o_VI (As := [.int z12, .int z14]) E hw (kX10_mirrors (l := l) (G := G) (SG_ok Z) h15) yy_X10_mirrors lm_RL_203 rfl (by decide) rfl rfl hl.1 (by decide) (hf0 (by omega) (by omega)) (by decide) rfl (Nat.le_of_ble_eq_true rfl) dL_law__1453 (fun H locs hw => ?_)
  refine lv_istore (lv' := [(6, .int y16), (5, .int y7), (0, .ref b), (1, .ref (G.2.2 0)), (2, .ref (G.2.2 22)), (3, .ref oa), (4, .int u4)]) hx hb dL_law__1456 hl (by decide) rfl (fun ls hl => ?_)
  refine lv_aload_n hx hb dL_law__1458 rfl (lv_at hl 4 rfl) ?_
  obtain ⟨y19, h18, h⟩ := ob_R_some h
  refine o_VI (As := []) E hw (kX10_thrown (l := l) (G := G) (SG_ok Z) h18) yy_X10_thrown lm_RL_141 rfl (by decide) rfl rfl hl.1 (by decide) (hf0 (by omega) (by omega)) (by decide) rfl (Nat.le_of_ble_eq_true rfl) dL_law__1459 (fun H locs hw => ?_)
  refine lv_iload hx hb dL_law__1462 (lv_at hl 1 rfl) ?_
  refine lv_icmp_eq (tgt := 1469) hx hb dL_law__1464 (by decide) (fun c24 => ?_) (fun c24 => ?_)
  · rw [if_pos c24] at h
    refine lv_iload hx hb dL_law__1469 (lv_at hl 1 rfl) ?_
    refine lv_if_ne (tgt := 1486) hx hb dL_law__1471 (by decide) (fun c23 => ?_) (fun c23 => ?_)
    · rw [if_neg c23] at h
      refine lv_goto (tgt := 2599) hx hb dL_law__1486 (by decide) ?_
      obtain ⟨y20, ey20, h⟩ := lt_some h
      refine lv_iinc (v := y20) (lv' := [(4, .int y20), (6, .int y16), (5, .int y7), (0, .ref b), (1, .ref (G.2.2 0)), (2, .ref (G.2.2 22)), (3, .ref oa)]) hx hb dL_law__2599 hl (k := 6) rfl (by rw [ey20]; rfl) (by decide) rfl (fun ls hl => ?_)
      refine lv_goto (tgt := 23) hx hb dL_law__2602 (by decide) ?_
      subst ey20
      exact kc V17 w6 (Option.some.inj h).symm H locs ls _ _ hw (lv_sub hl [3, 4, 5, 6, 0] rfl) (by omega) (by omega)
    · rw [if_pos c23] at h
      refine lv_aload_n hx hb dL_law__1474 rfl (lv_at hl 5 rfl) ?_
      refine lv_iconst (v := (0 : Int32)) hx hb dL_law__1475 (by decide) ?_
      refine o_ll E hw vp_0_1 dL_law__1476 ?_
      refine lv_iload hx hb dL_law__1477 (lv_at hl 0 rfl) ?_
      refine lv_i2l hx hb dL_law__1479 rfl ?_
      refine W.lcmp hx hb dL_law__1480 ?_
      refine lv_if_eq (tgt := 1486) hx hb dL_law__1481 (by decide) (fun c22 => ?_) (fun c22 => ?_)
      · rw [if_pos c22] at h
        refine lv_goto (tgt := 2599) hx hb dL_law__1486 (by decide) ?_
        obtain ⟨y21, ey21, h⟩ := lt_some h
        refine lv_iinc (v := y21) (lv' := [(4, .int y21), (6, .int y16), (5, .int y7), (0, .ref b), (1, .ref (G.2.2 0)), (2, .ref (G.2.2 22)), (3, .ref oa)]) hx hb dL_law__2599 hl (k := 6) rfl (by rw [ey21]; rfl) (by decide) rfl (fun ls hl => ?_)
        refine lv_goto (tgt := 23) hx hb dL_law__2602 (by decide) ?_
        subst ey21
        exact kc V17 w6 (Option.some.inj h).symm H locs ls _ _ hw (lv_sub hl [3, 4, 5, 6, 0] rfl) (by omega) (by omega)
      · rw [if_neg c22] at h
        refine lv_iconst (v := (0 : Int32)) hx hb dL_law__1484 (by decide) ?_
        exact absurd (k1 _ (Option.some.inj h).symm) (by decide)
  · rw [if_neg c24] at h
    refine lv_iconst (v := (0 : Int32)) hx hb dL_law__1467 (by decide) ?_
    exact absurd (k1 _ (Option.some.inj h).symm) (by decide)
theorem dL_law__1489 : decode cL_law_ 1489 = .ok (.aload_n 1, 1) := by decide +kernel
theorem dL_law__1490 : decode cL_law_ 1490 = .ok (.aload_n 0, 1) := by decide +kernel
theorem dL_law__1491 : decode cL_law_ 1491 = .ok (.iload 4, 2) := by decide +kernel
theorem dL_law__1493 : decode cL_law_ 1493 = .ok (.iconst 1, 1) := by decide +kernel
theorem dL_law__1494 : decode cL_law_ 1494 = .ok (.iadd, 1) := by decide +kernel
theorem dL_law__1495 : decode cL_law_ 1495 = .ok (.iaload, 1) := by decide +kernel
theorem dL_law__1496 : decode cL_law_ 1496 = .ok (.aload_n 3, 1) := by decide +kernel
theorem dL_law__1497 : decode cL_law_ 1497 = .ok (.invokestatic 204, 3) := by decide +kernel
theorem dL_law__1500 : decode cL_law_ 1500 = .ok (.istore 5, 2) := by decide +kernel
theorem dL_law__1502 : decode cL_law_ 1502 = .ok (.aload_n 2, 1) := by decide +kernel
theorem dL_law__1503 : decode cL_law_ 1503 = .ok (.aload_n 0, 1) := by decide +kernel
theorem dL_law__1504 : decode cL_law_ 1504 = .ok (.iload 4, 2) := by decide +kernel
theorem dL_law__1506 : decode cL_law_ 1506 = .ok (.iconst 1, 1) := by decide +kernel
theorem dL_law__1507 : decode cL_law_ 1507 = .ok (.iadd, 1) := by decide +kernel
theorem dL_law__1508 : decode cL_law_ 1508 = .ok (.iaload, 1) := by decide +kernel
theorem dL_law__1509 : decode cL_law_ 1509 = .ok (.invokevirtual 206, 3) := by decide +kernel
theorem dL_law__1512 : decode cL_law_ 1512 = .ok (.istore 6, 2) := by decide +kernel
theorem dL_law__1514 : decode cL_law_ 1514 = .ok (.aload_n 2, 1) := by decide +kernel
theorem dL_law__1515 : decode cL_law_ 1515 = .ok (.invokevirtual 141, 3) := by decide +kernel
theorem dL_law__1518 : decode cL_law_ 1518 = .ok (.iload 5, 2) := by decide +kernel
theorem dL_law__1520 : decode cL_law_ 1520 = .ok (.if_icmp .eq 5, 3) := by decide +kernel
theorem dL_law__1523 : decode cL_law_ 1523 = .ok (.iconst 0, 1) := by decide +kernel
theorem dL_law__1524 : decode cL_law_ 1524 = .ok (.ireturn, 1) := by decide +kernel
theorem dL_law__1525 : decode cL_law_ 1525 = .ok (.iload 5, 2) := by decide +kernel
theorem dL_law__1527 : decode cL_law_ 1527 = .ok (.ifCond .ne 15, 3) := by decide +kernel
theorem dL_law__1530 : decode cL_law_ 1530 = .ok (.aload_n 3, 1) := by decide +kernel
theorem dL_law__1531 : decode cL_law_ 1531 = .ok (.iconst 0, 1) := by decide +kernel
theorem dL_law__1532 : decode cL_law_ 1532 = .ok (.laload, 1) := by decide +kernel
theorem dL_law__1533 : decode cL_law_ 1533 = .ok (.iload 6, 2) := by decide +kernel
theorem dL_law__1535 : decode cL_law_ 1535 = .ok (.i2l, 1) := by decide +kernel
theorem dL_law__1536 : decode cL_law_ 1536 = .ok (.lcmp, 1) := by decide +kernel
theorem dL_law__1537 : decode cL_law_ 1537 = .ok (.ifCond .eq 5, 3) := by decide +kernel
theorem dL_law__1540 : decode cL_law_ 1540 = .ok (.iconst 0, 1) := by decide +kernel
theorem dL_law__1541 : decode cL_law_ 1541 = .ok (.ireturn, 1) := by decide +kernel
theorem dL_law__1542 : decode cL_law_ 1542 = .ok (.goto 1057, 3) := by decide +kernel
/-! opcode 21 -/
noncomputable def fL_c21 (xs : Nat → Int32) (L : Nat) (V : VT) (ov : Nat → Int64) (u4 : Int32) : Option ((VT × (Nat → Int64) × Int32) ⊕ Int32) := rd_ (u4 + (1 : Int32)) L (lt_ (xs (u4 + (1 : Int32)).toNatClampNeg) fun z2 => ob_I (fX9_unseen V z2) fun o3 V8 => ob_R (hL_unseen o3 ov) fun qy5 => dt2_ qy5 fun y5 w4 => rd_ (u4 + (1 : Int32)) L (lt_ (xs (u4 + (1 : Int32)).toNatClampNeg) fun z10 => ob_I (fX10_unseen V8 z10) fun y12 V13 => ob_R (fX10_thrown V13 ) fun y15 => if y15 = y5 then (if y5 = 0 then (if (lg_cmp (w4 ((0 : Int32).toNatClampNeg)) y12.toInt64) = 0 then (lt_ (u4 + (6 : Int32)) fun y17 => some (.inl (V13, w4, y17))) else (some (.inr (0 : Int32)))) else (lt_ (u4 + (6 : Int32)) fun y16 => some (.inl (V13, w4, y16)))) else (some (.inr (0 : Int32)))))
set_option maxHeartbeats 4000000 in
set_option maxRecDepth 100000 in
theorem wL_c21 {p : Program} {l : Launch} {e : Env} {s : State} {m : MethodId} {args : Array Value} {below : List Frame} {meth : Method} {c : Code} {G : GT} {Z : Nat → Nat × Nat} {oa b L : Nat} {xs : Nat → Int32} {Q : State → Prop} (E : EO p s m args c meth cL_law_ 7 RL (some .boolean) G (SH Z) oa) (ht : l.stackTraces = false) (hX : va_X b L xs s s.heap) (hbl : b < s.heap.size) (hbA : ¬ gO G oa s.heap.size b) (hL : L ≤ 3072) {C0 S0 : Nat} (hC0 : C0 ≤ 100000) (hS0 : S0 ≤ 1000000) {V : VT} {ov : Nat → Int64} {u4 : Int32} {r : ((VT × (Nat → Int64) × Int32) ⊕ Int32)} (h : fL_c21 xs L V ov u4 = some r) (k1 : ∀ y, r = .inr y → y = 1) (kc : ∀ (V2 : VT) (ov2 : Nat → Int64), r = .inl (V2, ov2, u4 + 6) → ∀ (H : Heap) (locs : List Loc) (ls : Array Slot) (cells slots : Nat), HO G oa s.heap (V2) (ov2) H locs → lv_has ls 7 [(0, .ref b), (1, .ref (G.2.2 0)), (2, .ref (G.2.2 22)), (3, .ref oa), (4, .int (u4 + 6))] → cells ≤ C0 + 3 → slots ≤ S0 + 18 → W p l e room_1 s m args below meth c H locs cells slots Q (F0 m 23 ls [])) {H : Heap} {locs : List Loc} {ls : Array Slot} {cells slots : Nat} (hw : HO G oa s.heap V ov H locs) (hl : lv_has ls 7 [(0, .ref b), (1, .ref (G.2.2 0)), (2, .ref (G.2.2 22)), (3, .ref oa), (4, .int u4)]) (hce : cells ≤ C0) (hsl : slots ≤ S0) : W p l e room_1 s m args below meth c H locs cells slots Q (F0 m 1489 ls []) := by
  have hx := E.1
  have hb := E.2.1
  have hfc : ∀ K : Nat, K ≤ 3 → cells + K ≤ room_1.cells ∧ slots + 6 * K ≤ room_1.slots := fun K hK => ⟨by show cells + K ≤ 601024; omega, by show slots + 6 * K ≤ 7293034; omega⟩
  have hf0 : ∀ {c9 s9 : Nat}, c9 ≤ C0 + 3 → s9 ≤ S0 + 18 → c9 ≤ room_1.cells ∧ s9 ≤ room_1.slots := fun h1 h2 => ⟨by show _ ≤ 601024; omega, by show _ ≤ 7293034; omega⟩
  unfold fL_c21 at h
  refine lv_aload_n hx hb dL_law__1489 rfl (lv_at hl 1 rfl) ?_
  refine lv_aload_n hx hb dL_law__1490 rfl (lv_at hl 0 rfl) ?_
  refine lv_iload hx hb dL_law__1491 (lv_at hl 4 rfl) ?_
  refine lv_iconst (v := (1 : Int32)) hx hb dL_law__1493 (by decide) ?_
  refine lv_iadd hx hb dL_law__1494 ?_
  obtain ⟨b1, h⟩ := rd_some h
  obtain ⟨z2, ez2, h⟩ := lt_some h
  refine va_sld hx hb hX hbl hbA hw.2.2 b1 dL_law__1495 ?_
  refine lv_eqi ez2 ?_
  refine lv_aload_n hx hb dL_law__1496 rfl (lv_at hl 3 rfl) ?_
  obtain ⟨o3, V8, h6, h⟩ := ob_I_some h
  obtain ⟨⟨y5, w4⟩, h7, h⟩ := ob_R_some h
  have h := dt2_eq h
  refine o_SH (n := 3) (As := [.ref (G.2.2 0), .int z2, .ref oa]) E hw (kL_unseen (l := l) (G := G) (Z := Z) (oa := oa) ht h6 h7) yw_L_unseen lw_ini lm_RL_204 ⟨by decide, by decide, by decide +kernel⟩ rfl hl.1 (by decide) (hfc 1 (by decide)) (by decide) rfl (Nat.le_of_ble_eq_true rfl) dL_law__1497 (fun H locs hw => ?_)
  refine lv_istore (lv' := [(5, .int y5), (0, .ref b), (1, .ref (G.2.2 0)), (2, .ref (G.2.2 22)), (3, .ref oa), (4, .int u4)]) hx hb dL_law__1500 hl (by decide) rfl (fun ls hl => ?_)
  refine lv_aload_n hx hb dL_law__1502 rfl (lv_at hl 3 rfl) ?_
  refine lv_aload_n hx hb dL_law__1503 rfl (lv_at hl 1 rfl) ?_
  refine lv_iload hx hb dL_law__1504 (lv_at hl 5 rfl) ?_
  refine lv_iconst (v := (1 : Int32)) hx hb dL_law__1506 (by decide) ?_
  refine lv_iadd hx hb dL_law__1507 ?_
  obtain ⟨b9, h⟩ := rd_some h
  obtain ⟨z10, ez10, h⟩ := lt_some h
  refine va_sld hx hb hX hbl hbA hw.2.2 b9 dL_law__1508 ?_
  refine lv_eqi ez10 ?_
  obtain ⟨y12, V13, h11, h⟩ := ob_I_some h
  refine o_VI (As := [.int z10]) E hw (kX10_unseen (l := l) (G := G) (SG_ok Z) h11) yy_X10_unseen lm_RL_206 rfl (by decide) rfl rfl hl.1 (by decide) (hf0 (by omega) (by omega)) (by decide) rfl (Nat.le_of_ble_eq_true rfl) dL_law__1509 (fun H locs hw => ?_)
  refine lv_istore (lv' := [(6, .int y12), (5, .int y5), (0, .ref b), (1, .ref (G.2.2 0)), (2, .ref (G.2.2 22)), (3, .ref oa), (4, .int u4)]) hx hb dL_law__1512 hl (by decide) rfl (fun ls hl => ?_)
  refine lv_aload_n hx hb dL_law__1514 rfl (lv_at hl 4 rfl) ?_
  obtain ⟨y15, h14, h⟩ := ob_R_some h
  refine o_VI (As := []) E hw (kX10_thrown (l := l) (G := G) (SG_ok Z) h14) yy_X10_thrown lm_RL_141 rfl (by decide) rfl rfl hl.1 (by decide) (hf0 (by omega) (by omega)) (by decide) rfl (Nat.le_of_ble_eq_true rfl) dL_law__1515 (fun H locs hw => ?_)
  refine lv_iload hx hb dL_law__1518 (lv_at hl 1 rfl) ?_
  refine lv_icmp_eq (tgt := 1525) hx hb dL_law__1520 (by decide) (fun c20 => ?_) (fun c20 => ?_)
  · rw [if_pos c20] at h
    refine lv_iload hx hb dL_law__1525 (lv_at hl 1 rfl) ?_
    refine lv_if_ne (tgt := 1542) hx hb dL_law__1527 (by decide) (fun c19 => ?_) (fun c19 => ?_)
    · rw [if_neg c19] at h
      refine lv_goto (tgt := 2599) hx hb dL_law__1542 (by decide) ?_
      obtain ⟨y16, ey16, h⟩ := lt_some h
      refine lv_iinc (v := y16) (lv' := [(4, .int y16), (6, .int y12), (5, .int y5), (0, .ref b), (1, .ref (G.2.2 0)), (2, .ref (G.2.2 22)), (3, .ref oa)]) hx hb dL_law__2599 hl (k := 6) rfl (by rw [ey16]; rfl) (by decide) rfl (fun ls hl => ?_)
      refine lv_goto (tgt := 23) hx hb dL_law__2602 (by decide) ?_
      subst ey16
      exact kc V13 w4 (Option.some.inj h).symm H locs ls _ _ hw (lv_sub hl [3, 4, 5, 6, 0] rfl) (by omega) (by omega)
    · rw [if_pos c19] at h
      refine lv_aload_n hx hb dL_law__1530 rfl (lv_at hl 5 rfl) ?_
      refine lv_iconst (v := (0 : Int32)) hx hb dL_law__1531 (by decide) ?_
      refine o_ll E hw vp_0_1 dL_law__1532 ?_
      refine lv_iload hx hb dL_law__1533 (lv_at hl 0 rfl) ?_
      refine lv_i2l hx hb dL_law__1535 rfl ?_
      refine W.lcmp hx hb dL_law__1536 ?_
      refine lv_if_eq (tgt := 1542) hx hb dL_law__1537 (by decide) (fun c18 => ?_) (fun c18 => ?_)
      · rw [if_pos c18] at h
        refine lv_goto (tgt := 2599) hx hb dL_law__1542 (by decide) ?_
        obtain ⟨y17, ey17, h⟩ := lt_some h
        refine lv_iinc (v := y17) (lv' := [(4, .int y17), (6, .int y12), (5, .int y5), (0, .ref b), (1, .ref (G.2.2 0)), (2, .ref (G.2.2 22)), (3, .ref oa)]) hx hb dL_law__2599 hl (k := 6) rfl (by rw [ey17]; rfl) (by decide) rfl (fun ls hl => ?_)
        refine lv_goto (tgt := 23) hx hb dL_law__2602 (by decide) ?_
        subst ey17
        exact kc V13 w4 (Option.some.inj h).symm H locs ls _ _ hw (lv_sub hl [3, 4, 5, 6, 0] rfl) (by omega) (by omega)
      · rw [if_neg c18] at h
        refine lv_iconst (v := (0 : Int32)) hx hb dL_law__1540 (by decide) ?_
        exact absurd (k1 _ (Option.some.inj h).symm) (by decide)
  · rw [if_neg c20] at h
    refine lv_iconst (v := (0 : Int32)) hx hb dL_law__1523 (by decide) ?_
    exact absurd (k1 _ (Option.some.inj h).symm) (by decide)
theorem dL_law__1545 : decode cL_law_ 1545 = .ok (.aload_n 1, 1) := by decide +kernel
theorem dL_law__1546 : decode cL_law_ 1546 = .ok (.aload_n 0, 1) := by decide +kernel
theorem dL_law__1547 : decode cL_law_ 1547 = .ok (.iload 4, 2) := by decide +kernel
theorem dL_law__1549 : decode cL_law_ 1549 = .ok (.iconst 1, 1) := by decide +kernel
theorem dL_law__1550 : decode cL_law_ 1550 = .ok (.iadd, 1) := by decide +kernel
theorem dL_law__1551 : decode cL_law_ 1551 = .ok (.iaload, 1) := by decide +kernel
theorem dL_law__1552 : decode cL_law_ 1552 = .ok (.aload_n 0, 1) := by decide +kernel
theorem dL_law__1553 : decode cL_law_ 1553 = .ok (.iload 4, 2) := by decide +kernel
theorem dL_law__1555 : decode cL_law_ 1555 = .ok (.iconst 2, 1) := by decide +kernel
theorem dL_law__1556 : decode cL_law_ 1556 = .ok (.iadd, 1) := by decide +kernel
theorem dL_law__1557 : decode cL_law_ 1557 = .ok (.iaload, 1) := by decide +kernel
theorem dL_law__1558 : decode cL_law_ 1558 = .ok (.aload_n 0, 1) := by decide +kernel
theorem dL_law__1559 : decode cL_law_ 1559 = .ok (.iload 4, 2) := by decide +kernel
theorem dL_law__1561 : decode cL_law_ 1561 = .ok (.iconst 3, 1) := by decide +kernel
theorem dL_law__1562 : decode cL_law_ 1562 = .ok (.iadd, 1) := by decide +kernel
theorem dL_law__1563 : decode cL_law_ 1563 = .ok (.iaload, 1) := by decide +kernel
theorem dL_law__1564 : decode cL_law_ 1564 = .ok (.aload_n 3, 1) := by decide +kernel
theorem dL_law__1565 : decode cL_law_ 1565 = .ok (.invokestatic 207, 3) := by decide +kernel
theorem dL_law__1568 : decode cL_law_ 1568 = .ok (.istore 5, 2) := by decide +kernel
theorem dL_law__1570 : decode cL_law_ 1570 = .ok (.aload_n 2, 1) := by decide +kernel
theorem dL_law__1571 : decode cL_law_ 1571 = .ok (.aload_n 0, 1) := by decide +kernel
theorem dL_law__1572 : decode cL_law_ 1572 = .ok (.iload 4, 2) := by decide +kernel
theorem dL_law__1574 : decode cL_law_ 1574 = .ok (.iconst 1, 1) := by decide +kernel
theorem dL_law__1575 : decode cL_law_ 1575 = .ok (.iadd, 1) := by decide +kernel
theorem dL_law__1576 : decode cL_law_ 1576 = .ok (.iaload, 1) := by decide +kernel
theorem dL_law__1577 : decode cL_law_ 1577 = .ok (.aload_n 0, 1) := by decide +kernel
theorem dL_law__1578 : decode cL_law_ 1578 = .ok (.iload 4, 2) := by decide +kernel
theorem dL_law__1580 : decode cL_law_ 1580 = .ok (.iconst 2, 1) := by decide +kernel
theorem dL_law__1581 : decode cL_law_ 1581 = .ok (.iadd, 1) := by decide +kernel
theorem dL_law__1582 : decode cL_law_ 1582 = .ok (.iaload, 1) := by decide +kernel
theorem dL_law__1583 : decode cL_law_ 1583 = .ok (.aload_n 0, 1) := by decide +kernel
theorem dL_law__1584 : decode cL_law_ 1584 = .ok (.iload 4, 2) := by decide +kernel
theorem dL_law__1586 : decode cL_law_ 1586 = .ok (.iconst 3, 1) := by decide +kernel
theorem dL_law__1587 : decode cL_law_ 1587 = .ok (.iadd, 1) := by decide +kernel
theorem dL_law__1588 : decode cL_law_ 1588 = .ok (.iaload, 1) := by decide +kernel
theorem dL_law__1589 : decode cL_law_ 1589 = .ok (.invokevirtual 209, 3) := by decide +kernel
theorem dL_law__1592 : decode cL_law_ 1592 = .ok (.istore 6, 2) := by decide +kernel
theorem dL_law__1594 : decode cL_law_ 1594 = .ok (.aload_n 2, 1) := by decide +kernel
theorem dL_law__1595 : decode cL_law_ 1595 = .ok (.invokevirtual 141, 3) := by decide +kernel
theorem dL_law__1598 : decode cL_law_ 1598 = .ok (.iload 5, 2) := by decide +kernel
theorem dL_law__1600 : decode cL_law_ 1600 = .ok (.if_icmp .eq 5, 3) := by decide +kernel
theorem dL_law__1603 : decode cL_law_ 1603 = .ok (.iconst 0, 1) := by decide +kernel
theorem dL_law__1604 : decode cL_law_ 1604 = .ok (.ireturn, 1) := by decide +kernel
theorem dL_law__1605 : decode cL_law_ 1605 = .ok (.iload 5, 2) := by decide +kernel
theorem dL_law__1607 : decode cL_law_ 1607 = .ok (.ifCond .ne 15, 3) := by decide +kernel
theorem dL_law__1610 : decode cL_law_ 1610 = .ok (.aload_n 3, 1) := by decide +kernel
theorem dL_law__1611 : decode cL_law_ 1611 = .ok (.iconst 0, 1) := by decide +kernel
theorem dL_law__1612 : decode cL_law_ 1612 = .ok (.laload, 1) := by decide +kernel
theorem dL_law__1613 : decode cL_law_ 1613 = .ok (.iload 6, 2) := by decide +kernel
theorem dL_law__1615 : decode cL_law_ 1615 = .ok (.i2l, 1) := by decide +kernel
theorem dL_law__1616 : decode cL_law_ 1616 = .ok (.lcmp, 1) := by decide +kernel
theorem dL_law__1617 : decode cL_law_ 1617 = .ok (.ifCond .eq 5, 3) := by decide +kernel
theorem dL_law__1620 : decode cL_law_ 1620 = .ok (.iconst 0, 1) := by decide +kernel
theorem dL_law__1621 : decode cL_law_ 1621 = .ok (.ireturn, 1) := by decide +kernel
theorem dL_law__1622 : decode cL_law_ 1622 = .ok (.goto 977, 3) := by decide +kernel
/-! opcode 22 -/
noncomputable def fL_c22 (xs : Nat → Int32) (L : Nat) (V : VT) (ov : Nat → Int64) (u4 : Int32) : Option ((VT × (Nat → Int64) × Int32) ⊕ Int32) := rd_ (u4 + (1 : Int32)) L (lt_ (xs (u4 + (1 : Int32)).toNatClampNeg) fun z2 => rd_ (u4 + (2 : Int32)) L (lt_ (xs (u4 + (2 : Int32)).toNatClampNeg) fun z4 => rd_ (u4 + (3 : Int32)) L (lt_ (xs (u4 + (3 : Int32)).toNatClampNeg) fun z6 => ob_I (fX9_thief V z2 z4 z6) fun o7 V12 => ob_R (hL_thief o7 ov) fun qy9 => dt2_ qy9 fun y9 w8 => rd_ (u4 + (1 : Int32)) L (lt_ (xs (u4 + (1 : Int32)).toNatClampNeg) fun z14 => rd_ (u4 + (2 : Int32)) L (lt_ (xs (u4 + (2 : Int32)).toNatClampNeg) fun z16 => rd_ (u4 + (3 : Int32)) L (lt_ (xs (u4 + (3 : Int32)).toNatClampNeg) fun z18 => ob_I (fX10_thief V12 z14 z16 z18) fun y20 V21 => ob_R (fX10_thrown V21 ) fun y23 => if y23 = y9 then (if y9 = 0 then (if (lg_cmp (w8 ((0 : Int32).toNatClampNeg)) y20.toInt64) = 0 then (lt_ (u4 + (6 : Int32)) fun y25 => some (.inl (V21, w8, y25))) else (some (.inr (0 : Int32)))) else (lt_ (u4 + (6 : Int32)) fun y24 => some (.inl (V21, w8, y24)))) else (some (.inr (0 : Int32)))))))))
set_option maxHeartbeats 4000000 in
set_option maxRecDepth 100000 in
theorem wL_c22 {p : Program} {l : Launch} {e : Env} {s : State} {m : MethodId} {args : Array Value} {below : List Frame} {meth : Method} {c : Code} {G : GT} {Z : Nat → Nat × Nat} {oa b L : Nat} {xs : Nat → Int32} {Q : State → Prop} (E : EO p s m args c meth cL_law_ 7 RL (some .boolean) G (SH Z) oa) (ht : l.stackTraces = false) (hX : va_X b L xs s s.heap) (hbl : b < s.heap.size) (hbA : ¬ gO G oa s.heap.size b) (hL : L ≤ 3072) {C0 S0 : Nat} (hC0 : C0 ≤ 100000) (hS0 : S0 ≤ 1000000) {V : VT} {ov : Nat → Int64} {u4 : Int32} {r : ((VT × (Nat → Int64) × Int32) ⊕ Int32)} (h : fL_c22 xs L V ov u4 = some r) (k1 : ∀ y, r = .inr y → y = 1) (kc : ∀ (V2 : VT) (ov2 : Nat → Int64), r = .inl (V2, ov2, u4 + 6) → ∀ (H : Heap) (locs : List Loc) (ls : Array Slot) (cells slots : Nat), HO G oa s.heap (V2) (ov2) H locs → lv_has ls 7 [(0, .ref b), (1, .ref (G.2.2 0)), (2, .ref (G.2.2 22)), (3, .ref oa), (4, .int (u4 + 6))] → cells ≤ C0 + 3 → slots ≤ S0 + 18 → W p l e room_1 s m args below meth c H locs cells slots Q (F0 m 23 ls [])) {H : Heap} {locs : List Loc} {ls : Array Slot} {cells slots : Nat} (hw : HO G oa s.heap V ov H locs) (hl : lv_has ls 7 [(0, .ref b), (1, .ref (G.2.2 0)), (2, .ref (G.2.2 22)), (3, .ref oa), (4, .int u4)]) (hce : cells ≤ C0) (hsl : slots ≤ S0) : W p l e room_1 s m args below meth c H locs cells slots Q (F0 m 1545 ls []) := by
  have hx := E.1
  have hb := E.2.1
  have hfc : ∀ K : Nat, K ≤ 3 → cells + K ≤ room_1.cells ∧ slots + 6 * K ≤ room_1.slots := fun K hK => ⟨by show cells + K ≤ 601024; omega, by show slots + 6 * K ≤ 7293034; omega⟩
  have hf0 : ∀ {c9 s9 : Nat}, c9 ≤ C0 + 3 → s9 ≤ S0 + 18 → c9 ≤ room_1.cells ∧ s9 ≤ room_1.slots := fun h1 h2 => ⟨by show _ ≤ 601024; omega, by show _ ≤ 7293034; omega⟩
  unfold fL_c22 at h
  refine lv_aload_n hx hb dL_law__1545 rfl (lv_at hl 1 rfl) ?_
  refine lv_aload_n hx hb dL_law__1546 rfl (lv_at hl 0 rfl) ?_
  refine lv_iload hx hb dL_law__1547 (lv_at hl 4 rfl) ?_
  refine lv_iconst (v := (1 : Int32)) hx hb dL_law__1549 (by decide) ?_
  refine lv_iadd hx hb dL_law__1550 ?_
  obtain ⟨b1, h⟩ := rd_some h
  obtain ⟨z2, ez2, h⟩ := lt_some h
  refine va_sld hx hb hX hbl hbA hw.2.2 b1 dL_law__1551 ?_
  refine lv_eqi ez2 ?_
  refine lv_aload_n hx hb dL_law__1552 rfl (lv_at hl 0 rfl) ?_
  refine lv_iload hx hb dL_law__1553 (lv_at hl 4 rfl) ?_
  refine lv_iconst (v := (2 : Int32)) hx hb dL_law__1555 (by decide) ?_
  refine lv_iadd hx hb dL_law__1556 ?_
  obtain ⟨b3, h⟩ := rd_some h
  obtain ⟨z4, ez4, h⟩ := lt_some h
  refine va_sld hx hb hX hbl hbA hw.2.2 b3 dL_law__1557 ?_
  refine lv_eqi ez4 ?_
  refine lv_aload_n hx hb dL_law__1558 rfl (lv_at hl 0 rfl) ?_
  refine lv_iload hx hb dL_law__1559 (lv_at hl 4 rfl) ?_
  refine lv_iconst (v := (3 : Int32)) hx hb dL_law__1561 (by decide) ?_
  refine lv_iadd hx hb dL_law__1562 ?_
  obtain ⟨b5, h⟩ := rd_some h
  obtain ⟨z6, ez6, h⟩ := lt_some h
  refine va_sld hx hb hX hbl hbA hw.2.2 b5 dL_law__1563 ?_
  refine lv_eqi ez6 ?_
  refine lv_aload_n hx hb dL_law__1564 rfl (lv_at hl 3 rfl) ?_
  obtain ⟨o7, V12, h10, h⟩ := ob_I_some h
  obtain ⟨⟨y9, w8⟩, h11, h⟩ := ob_R_some h
  have h := dt2_eq h
  refine o_SH (n := 5) (As := [.ref (G.2.2 0), .int z2, .int z4, .int z6, .ref oa]) E hw (kL_thief (l := l) (G := G) (Z := Z) (oa := oa) ht h10 h11) yw_L_thief lw_ini lm_RL_207 ⟨by decide, by decide, by decide +kernel⟩ rfl hl.1 (by decide) (hfc 3 (by decide)) (by decide) rfl (Nat.le_of_ble_eq_true rfl) dL_law__1565 (fun H locs hw => ?_)
  refine lv_istore (lv' := [(5, .int y9), (0, .ref b), (1, .ref (G.2.2 0)), (2, .ref (G.2.2 22)), (3, .ref oa), (4, .int u4)]) hx hb dL_law__1568 hl (by decide) rfl (fun ls hl => ?_)
  refine lv_aload_n hx hb dL_law__1570 rfl (lv_at hl 3 rfl) ?_
  refine lv_aload_n hx hb dL_law__1571 rfl (lv_at hl 1 rfl) ?_
  refine lv_iload hx hb dL_law__1572 (lv_at hl 5 rfl) ?_
  refine lv_iconst (v := (1 : Int32)) hx hb dL_law__1574 (by decide) ?_
  refine lv_iadd hx hb dL_law__1575 ?_
  obtain ⟨b13, h⟩ := rd_some h
  obtain ⟨z14, ez14, h⟩ := lt_some h
  refine va_sld hx hb hX hbl hbA hw.2.2 b13 dL_law__1576 ?_
  refine lv_eqi ez14 ?_
  refine lv_aload_n hx hb dL_law__1577 rfl (lv_at hl 1 rfl) ?_
  refine lv_iload hx hb dL_law__1578 (lv_at hl 5 rfl) ?_
  refine lv_iconst (v := (2 : Int32)) hx hb dL_law__1580 (by decide) ?_
  refine lv_iadd hx hb dL_law__1581 ?_
  obtain ⟨b15, h⟩ := rd_some h
  obtain ⟨z16, ez16, h⟩ := lt_some h
  refine va_sld hx hb hX hbl hbA hw.2.2 b15 dL_law__1582 ?_
  refine lv_eqi ez16 ?_
  refine lv_aload_n hx hb dL_law__1583 rfl (lv_at hl 1 rfl) ?_
  refine lv_iload hx hb dL_law__1584 (lv_at hl 5 rfl) ?_
  refine lv_iconst (v := (3 : Int32)) hx hb dL_law__1586 (by decide) ?_
  refine lv_iadd hx hb dL_law__1587 ?_
  obtain ⟨b17, h⟩ := rd_some h
  obtain ⟨z18, ez18, h⟩ := lt_some h
  refine va_sld hx hb hX hbl hbA hw.2.2 b17 dL_law__1588 ?_
  refine lv_eqi ez18 ?_
  obtain ⟨y20, V21, h19, h⟩ := ob_I_some h
  refine o_VI (As := [.int z14, .int z16, .int z18]) E hw (kX10_thief (l := l) (G := G) (SG_ok Z) h19) yy_X10_thief lm_RL_209 rfl (by decide) rfl rfl hl.1 (by decide) (hf0 (by omega) (by omega)) (by decide) rfl (Nat.le_of_ble_eq_true rfl) dL_law__1589 (fun H locs hw => ?_)
  refine lv_istore (lv' := [(6, .int y20), (5, .int y9), (0, .ref b), (1, .ref (G.2.2 0)), (2, .ref (G.2.2 22)), (3, .ref oa), (4, .int u4)]) hx hb dL_law__1592 hl (by decide) rfl (fun ls hl => ?_)
  refine lv_aload_n hx hb dL_law__1594 rfl (lv_at hl 4 rfl) ?_
  obtain ⟨y23, h22, h⟩ := ob_R_some h
  refine o_VI (As := []) E hw (kX10_thrown (l := l) (G := G) (SG_ok Z) h22) yy_X10_thrown lm_RL_141 rfl (by decide) rfl rfl hl.1 (by decide) (hf0 (by omega) (by omega)) (by decide) rfl (Nat.le_of_ble_eq_true rfl) dL_law__1595 (fun H locs hw => ?_)
  refine lv_iload hx hb dL_law__1598 (lv_at hl 1 rfl) ?_
  refine lv_icmp_eq (tgt := 1605) hx hb dL_law__1600 (by decide) (fun c28 => ?_) (fun c28 => ?_)
  · rw [if_pos c28] at h
    refine lv_iload hx hb dL_law__1605 (lv_at hl 1 rfl) ?_
    refine lv_if_ne (tgt := 1622) hx hb dL_law__1607 (by decide) (fun c27 => ?_) (fun c27 => ?_)
    · rw [if_neg c27] at h
      refine lv_goto (tgt := 2599) hx hb dL_law__1622 (by decide) ?_
      obtain ⟨y24, ey24, h⟩ := lt_some h
      refine lv_iinc (v := y24) (lv' := [(4, .int y24), (6, .int y20), (5, .int y9), (0, .ref b), (1, .ref (G.2.2 0)), (2, .ref (G.2.2 22)), (3, .ref oa)]) hx hb dL_law__2599 hl (k := 6) rfl (by rw [ey24]; rfl) (by decide) rfl (fun ls hl => ?_)
      refine lv_goto (tgt := 23) hx hb dL_law__2602 (by decide) ?_
      subst ey24
      exact kc V21 w8 (Option.some.inj h).symm H locs ls _ _ hw (lv_sub hl [3, 4, 5, 6, 0] rfl) (by omega) (by omega)
    · rw [if_pos c27] at h
      refine lv_aload_n hx hb dL_law__1610 rfl (lv_at hl 5 rfl) ?_
      refine lv_iconst (v := (0 : Int32)) hx hb dL_law__1611 (by decide) ?_
      refine o_ll E hw vp_0_1 dL_law__1612 ?_
      refine lv_iload hx hb dL_law__1613 (lv_at hl 0 rfl) ?_
      refine lv_i2l hx hb dL_law__1615 rfl ?_
      refine W.lcmp hx hb dL_law__1616 ?_
      refine lv_if_eq (tgt := 1622) hx hb dL_law__1617 (by decide) (fun c26 => ?_) (fun c26 => ?_)
      · rw [if_pos c26] at h
        refine lv_goto (tgt := 2599) hx hb dL_law__1622 (by decide) ?_
        obtain ⟨y25, ey25, h⟩ := lt_some h
        refine lv_iinc (v := y25) (lv' := [(4, .int y25), (6, .int y20), (5, .int y9), (0, .ref b), (1, .ref (G.2.2 0)), (2, .ref (G.2.2 22)), (3, .ref oa)]) hx hb dL_law__2599 hl (k := 6) rfl (by rw [ey25]; rfl) (by decide) rfl (fun ls hl => ?_)
        refine lv_goto (tgt := 23) hx hb dL_law__2602 (by decide) ?_
        subst ey25
        exact kc V21 w8 (Option.some.inj h).symm H locs ls _ _ hw (lv_sub hl [3, 4, 5, 6, 0] rfl) (by omega) (by omega)
      · rw [if_neg c26] at h
        refine lv_iconst (v := (0 : Int32)) hx hb dL_law__1620 (by decide) ?_
        exact absurd (k1 _ (Option.some.inj h).symm) (by decide)
  · rw [if_neg c28] at h
    refine lv_iconst (v := (0 : Int32)) hx hb dL_law__1603 (by decide) ?_
    exact absurd (k1 _ (Option.some.inj h).symm) (by decide)
theorem dL_law__1625 : decode cL_law_ 1625 = .ok (.aload_n 1, 1) := by decide +kernel
theorem dL_law__1626 : decode cL_law_ 1626 = .ok (.aload_n 0, 1) := by decide +kernel
theorem dL_law__1627 : decode cL_law_ 1627 = .ok (.iload 4, 2) := by decide +kernel
theorem dL_law__1629 : decode cL_law_ 1629 = .ok (.iconst 1, 1) := by decide +kernel
theorem dL_law__1630 : decode cL_law_ 1630 = .ok (.iadd, 1) := by decide +kernel
theorem dL_law__1631 : decode cL_law_ 1631 = .ok (.iaload, 1) := by decide +kernel
theorem dL_law__1632 : decode cL_law_ 1632 = .ok (.aload_n 0, 1) := by decide +kernel
theorem dL_law__1633 : decode cL_law_ 1633 = .ok (.iload 4, 2) := by decide +kernel
theorem dL_law__1635 : decode cL_law_ 1635 = .ok (.iconst 2, 1) := by decide +kernel
theorem dL_law__1636 : decode cL_law_ 1636 = .ok (.iadd, 1) := by decide +kernel
theorem dL_law__1637 : decode cL_law_ 1637 = .ok (.iaload, 1) := by decide +kernel
theorem dL_law__1638 : decode cL_law_ 1638 = .ok (.aload_n 3, 1) := by decide +kernel
theorem dL_law__1639 : decode cL_law_ 1639 = .ok (.invokestatic 210, 3) := by decide +kernel
theorem dL_law__1642 : decode cL_law_ 1642 = .ok (.istore 5, 2) := by decide +kernel
theorem dL_law__1644 : decode cL_law_ 1644 = .ok (.aload_n 2, 1) := by decide +kernel
theorem dL_law__1645 : decode cL_law_ 1645 = .ok (.aload_n 0, 1) := by decide +kernel
theorem dL_law__1646 : decode cL_law_ 1646 = .ok (.iload 4, 2) := by decide +kernel
theorem dL_law__1648 : decode cL_law_ 1648 = .ok (.iconst 1, 1) := by decide +kernel
theorem dL_law__1649 : decode cL_law_ 1649 = .ok (.iadd, 1) := by decide +kernel
theorem dL_law__1650 : decode cL_law_ 1650 = .ok (.iaload, 1) := by decide +kernel
theorem dL_law__1651 : decode cL_law_ 1651 = .ok (.aload_n 0, 1) := by decide +kernel
theorem dL_law__1652 : decode cL_law_ 1652 = .ok (.iload 4, 2) := by decide +kernel
theorem dL_law__1654 : decode cL_law_ 1654 = .ok (.iconst 2, 1) := by decide +kernel
theorem dL_law__1655 : decode cL_law_ 1655 = .ok (.iadd, 1) := by decide +kernel
theorem dL_law__1656 : decode cL_law_ 1656 = .ok (.iaload, 1) := by decide +kernel
theorem dL_law__1657 : decode cL_law_ 1657 = .ok (.invokevirtual 212, 3) := by decide +kernel
theorem dL_law__1660 : decode cL_law_ 1660 = .ok (.istore 6, 2) := by decide +kernel
theorem dL_law__1662 : decode cL_law_ 1662 = .ok (.aload_n 2, 1) := by decide +kernel
theorem dL_law__1663 : decode cL_law_ 1663 = .ok (.invokevirtual 141, 3) := by decide +kernel
theorem dL_law__1666 : decode cL_law_ 1666 = .ok (.iload 5, 2) := by decide +kernel
theorem dL_law__1668 : decode cL_law_ 1668 = .ok (.if_icmp .eq 5, 3) := by decide +kernel
theorem dL_law__1671 : decode cL_law_ 1671 = .ok (.iconst 0, 1) := by decide +kernel
theorem dL_law__1672 : decode cL_law_ 1672 = .ok (.ireturn, 1) := by decide +kernel
theorem dL_law__1673 : decode cL_law_ 1673 = .ok (.iload 5, 2) := by decide +kernel
theorem dL_law__1675 : decode cL_law_ 1675 = .ok (.ifCond .ne 15, 3) := by decide +kernel
theorem dL_law__1678 : decode cL_law_ 1678 = .ok (.aload_n 3, 1) := by decide +kernel
theorem dL_law__1679 : decode cL_law_ 1679 = .ok (.iconst 0, 1) := by decide +kernel
theorem dL_law__1680 : decode cL_law_ 1680 = .ok (.laload, 1) := by decide +kernel
theorem dL_law__1681 : decode cL_law_ 1681 = .ok (.iload 6, 2) := by decide +kernel
theorem dL_law__1683 : decode cL_law_ 1683 = .ok (.i2l, 1) := by decide +kernel
theorem dL_law__1684 : decode cL_law_ 1684 = .ok (.lcmp, 1) := by decide +kernel
theorem dL_law__1685 : decode cL_law_ 1685 = .ok (.ifCond .eq 5, 3) := by decide +kernel
theorem dL_law__1688 : decode cL_law_ 1688 = .ok (.iconst 0, 1) := by decide +kernel
theorem dL_law__1689 : decode cL_law_ 1689 = .ok (.ireturn, 1) := by decide +kernel
theorem dL_law__1690 : decode cL_law_ 1690 = .ok (.goto 909, 3) := by decide +kernel
/-! opcode 23 -/
noncomputable def fL_c23 (xs : Nat → Int32) (L : Nat) (V : VT) (ov : Nat → Int64) (u4 : Int32) : Option ((VT × (Nat → Int64) × Int32) ⊕ Int32) := rd_ (u4 + (1 : Int32)) L (lt_ (xs (u4 + (1 : Int32)).toNatClampNeg) fun z2 => rd_ (u4 + (2 : Int32)) L (lt_ (xs (u4 + (2 : Int32)).toNatClampNeg) fun z4 => ob_I (fX9_clear V z2 z4) fun o5 V10 => ob_R (hL_clear o5 ov) fun qy7 => dt2_ qy7 fun y7 w6 => rd_ (u4 + (1 : Int32)) L (lt_ (xs (u4 + (1 : Int32)).toNatClampNeg) fun z12 => rd_ (u4 + (2 : Int32)) L (lt_ (xs (u4 + (2 : Int32)).toNatClampNeg) fun z14 => ob_I (fX10_clear V10 z12 z14) fun y16 V17 => ob_R (fX10_thrown V17 ) fun y19 => if y19 = y7 then (if y7 = 0 then (if (lg_cmp (w6 ((0 : Int32).toNatClampNeg)) y16.toInt64) = 0 then (lt_ (u4 + (6 : Int32)) fun y21 => some (.inl (V17, w6, y21))) else (some (.inr (0 : Int32)))) else (lt_ (u4 + (6 : Int32)) fun y20 => some (.inl (V17, w6, y20)))) else (some (.inr (0 : Int32)))))))
set_option maxHeartbeats 4000000 in
set_option maxRecDepth 100000 in
theorem wL_c23 {p : Program} {l : Launch} {e : Env} {s : State} {m : MethodId} {args : Array Value} {below : List Frame} {meth : Method} {c : Code} {G : GT} {Z : Nat → Nat × Nat} {oa b L : Nat} {xs : Nat → Int32} {Q : State → Prop} (E : EO p s m args c meth cL_law_ 7 RL (some .boolean) G (SH Z) oa) (ht : l.stackTraces = false) (hX : va_X b L xs s s.heap) (hbl : b < s.heap.size) (hbA : ¬ gO G oa s.heap.size b) (hL : L ≤ 3072) {C0 S0 : Nat} (hC0 : C0 ≤ 100000) (hS0 : S0 ≤ 1000000) {V : VT} {ov : Nat → Int64} {u4 : Int32} {r : ((VT × (Nat → Int64) × Int32) ⊕ Int32)} (h : fL_c23 xs L V ov u4 = some r) (k1 : ∀ y, r = .inr y → y = 1) (kc : ∀ (V2 : VT) (ov2 : Nat → Int64), r = .inl (V2, ov2, u4 + 6) → ∀ (H : Heap) (locs : List Loc) (ls : Array Slot) (cells slots : Nat), HO G oa s.heap (V2) (ov2) H locs → lv_has ls 7 [(0, .ref b), (1, .ref (G.2.2 0)), (2, .ref (G.2.2 22)), (3, .ref oa), (4, .int (u4 + 6))] → cells ≤ C0 + 3 → slots ≤ S0 + 18 → W p l e room_1 s m args below meth c H locs cells slots Q (F0 m 23 ls [])) {H : Heap} {locs : List Loc} {ls : Array Slot} {cells slots : Nat} (hw : HO G oa s.heap V ov H locs) (hl : lv_has ls 7 [(0, .ref b), (1, .ref (G.2.2 0)), (2, .ref (G.2.2 22)), (3, .ref oa), (4, .int u4)]) (hce : cells ≤ C0) (hsl : slots ≤ S0) : W p l e room_1 s m args below meth c H locs cells slots Q (F0 m 1625 ls []) := by
  have hx := E.1
  have hb := E.2.1
  have hfc : ∀ K : Nat, K ≤ 3 → cells + K ≤ room_1.cells ∧ slots + 6 * K ≤ room_1.slots := fun K hK => ⟨by show cells + K ≤ 601024; omega, by show slots + 6 * K ≤ 7293034; omega⟩
  have hf0 : ∀ {c9 s9 : Nat}, c9 ≤ C0 + 3 → s9 ≤ S0 + 18 → c9 ≤ room_1.cells ∧ s9 ≤ room_1.slots := fun h1 h2 => ⟨by show _ ≤ 601024; omega, by show _ ≤ 7293034; omega⟩
  unfold fL_c23 at h
  refine lv_aload_n hx hb dL_law__1625 rfl (lv_at hl 1 rfl) ?_
  refine lv_aload_n hx hb dL_law__1626 rfl (lv_at hl 0 rfl) ?_
  refine lv_iload hx hb dL_law__1627 (lv_at hl 4 rfl) ?_
  refine lv_iconst (v := (1 : Int32)) hx hb dL_law__1629 (by decide) ?_
  refine lv_iadd hx hb dL_law__1630 ?_
  obtain ⟨b1, h⟩ := rd_some h
  obtain ⟨z2, ez2, h⟩ := lt_some h
  refine va_sld hx hb hX hbl hbA hw.2.2 b1 dL_law__1631 ?_
  refine lv_eqi ez2 ?_
  refine lv_aload_n hx hb dL_law__1632 rfl (lv_at hl 0 rfl) ?_
  refine lv_iload hx hb dL_law__1633 (lv_at hl 4 rfl) ?_
  refine lv_iconst (v := (2 : Int32)) hx hb dL_law__1635 (by decide) ?_
  refine lv_iadd hx hb dL_law__1636 ?_
  obtain ⟨b3, h⟩ := rd_some h
  obtain ⟨z4, ez4, h⟩ := lt_some h
  refine va_sld hx hb hX hbl hbA hw.2.2 b3 dL_law__1637 ?_
  refine lv_eqi ez4 ?_
  refine lv_aload_n hx hb dL_law__1638 rfl (lv_at hl 3 rfl) ?_
  obtain ⟨o5, V10, h8, h⟩ := ob_I_some h
  obtain ⟨⟨y7, w6⟩, h9, h⟩ := ob_R_some h
  have h := dt2_eq h
  refine o_SH (n := 4) (As := [.ref (G.2.2 0), .int z2, .int z4, .ref oa]) E hw (kL_clear (l := l) (G := G) (Z := Z) (oa := oa) ht h8 h9) yw_L_clear lw_ini lm_RL_210 ⟨by decide, by decide, by decide +kernel⟩ rfl hl.1 (by decide) (hfc 2 (by decide)) (by decide) rfl (Nat.le_of_ble_eq_true rfl) dL_law__1639 (fun H locs hw => ?_)
  refine lv_istore (lv' := [(5, .int y7), (0, .ref b), (1, .ref (G.2.2 0)), (2, .ref (G.2.2 22)), (3, .ref oa), (4, .int u4)]) hx hb dL_law__1642 hl (by decide) rfl (fun ls hl => ?_)
  refine lv_aload_n hx hb dL_law__1644 rfl (lv_at hl 3 rfl) ?_
  refine lv_aload_n hx hb dL_law__1645 rfl (lv_at hl 1 rfl) ?_
  refine lv_iload hx hb dL_law__1646 (lv_at hl 5 rfl) ?_
  refine lv_iconst (v := (1 : Int32)) hx hb dL_law__1648 (by decide) ?_
  refine lv_iadd hx hb dL_law__1649 ?_
  obtain ⟨b11, h⟩ := rd_some h
  obtain ⟨z12, ez12, h⟩ := lt_some h
  refine va_sld hx hb hX hbl hbA hw.2.2 b11 dL_law__1650 ?_
  refine lv_eqi ez12 ?_
  refine lv_aload_n hx hb dL_law__1651 rfl (lv_at hl 1 rfl) ?_
  refine lv_iload hx hb dL_law__1652 (lv_at hl 5 rfl) ?_
  refine lv_iconst (v := (2 : Int32)) hx hb dL_law__1654 (by decide) ?_
  refine lv_iadd hx hb dL_law__1655 ?_
  obtain ⟨b13, h⟩ := rd_some h
  obtain ⟨z14, ez14, h⟩ := lt_some h
  refine va_sld hx hb hX hbl hbA hw.2.2 b13 dL_law__1656 ?_
  refine lv_eqi ez14 ?_
  obtain ⟨y16, V17, h15, h⟩ := ob_I_some h
  refine o_VI (As := [.int z12, .int z14]) E hw (kX10_clear (l := l) (G := G) (SG_ok Z) h15) yy_X10_clear lm_RL_212 rfl (by decide) rfl rfl hl.1 (by decide) (hf0 (by omega) (by omega)) (by decide) rfl (Nat.le_of_ble_eq_true rfl) dL_law__1657 (fun H locs hw => ?_)
  refine lv_istore (lv' := [(6, .int y16), (5, .int y7), (0, .ref b), (1, .ref (G.2.2 0)), (2, .ref (G.2.2 22)), (3, .ref oa), (4, .int u4)]) hx hb dL_law__1660 hl (by decide) rfl (fun ls hl => ?_)
  refine lv_aload_n hx hb dL_law__1662 rfl (lv_at hl 4 rfl) ?_
  obtain ⟨y19, h18, h⟩ := ob_R_some h
  refine o_VI (As := []) E hw (kX10_thrown (l := l) (G := G) (SG_ok Z) h18) yy_X10_thrown lm_RL_141 rfl (by decide) rfl rfl hl.1 (by decide) (hf0 (by omega) (by omega)) (by decide) rfl (Nat.le_of_ble_eq_true rfl) dL_law__1663 (fun H locs hw => ?_)
  refine lv_iload hx hb dL_law__1666 (lv_at hl 1 rfl) ?_
  refine lv_icmp_eq (tgt := 1673) hx hb dL_law__1668 (by decide) (fun c24 => ?_) (fun c24 => ?_)
  · rw [if_pos c24] at h
    refine lv_iload hx hb dL_law__1673 (lv_at hl 1 rfl) ?_
    refine lv_if_ne (tgt := 1690) hx hb dL_law__1675 (by decide) (fun c23 => ?_) (fun c23 => ?_)
    · rw [if_neg c23] at h
      refine lv_goto (tgt := 2599) hx hb dL_law__1690 (by decide) ?_
      obtain ⟨y20, ey20, h⟩ := lt_some h
      refine lv_iinc (v := y20) (lv' := [(4, .int y20), (6, .int y16), (5, .int y7), (0, .ref b), (1, .ref (G.2.2 0)), (2, .ref (G.2.2 22)), (3, .ref oa)]) hx hb dL_law__2599 hl (k := 6) rfl (by rw [ey20]; rfl) (by decide) rfl (fun ls hl => ?_)
      refine lv_goto (tgt := 23) hx hb dL_law__2602 (by decide) ?_
      subst ey20
      exact kc V17 w6 (Option.some.inj h).symm H locs ls _ _ hw (lv_sub hl [3, 4, 5, 6, 0] rfl) (by omega) (by omega)
    · rw [if_pos c23] at h
      refine lv_aload_n hx hb dL_law__1678 rfl (lv_at hl 5 rfl) ?_
      refine lv_iconst (v := (0 : Int32)) hx hb dL_law__1679 (by decide) ?_
      refine o_ll E hw vp_0_1 dL_law__1680 ?_
      refine lv_iload hx hb dL_law__1681 (lv_at hl 0 rfl) ?_
      refine lv_i2l hx hb dL_law__1683 rfl ?_
      refine W.lcmp hx hb dL_law__1684 ?_
      refine lv_if_eq (tgt := 1690) hx hb dL_law__1685 (by decide) (fun c22 => ?_) (fun c22 => ?_)
      · rw [if_pos c22] at h
        refine lv_goto (tgt := 2599) hx hb dL_law__1690 (by decide) ?_
        obtain ⟨y21, ey21, h⟩ := lt_some h
        refine lv_iinc (v := y21) (lv' := [(4, .int y21), (6, .int y16), (5, .int y7), (0, .ref b), (1, .ref (G.2.2 0)), (2, .ref (G.2.2 22)), (3, .ref oa)]) hx hb dL_law__2599 hl (k := 6) rfl (by rw [ey21]; rfl) (by decide) rfl (fun ls hl => ?_)
        refine lv_goto (tgt := 23) hx hb dL_law__2602 (by decide) ?_
        subst ey21
        exact kc V17 w6 (Option.some.inj h).symm H locs ls _ _ hw (lv_sub hl [3, 4, 5, 6, 0] rfl) (by omega) (by omega)
      · rw [if_neg c22] at h
        refine lv_iconst (v := (0 : Int32)) hx hb dL_law__1688 (by decide) ?_
        exact absurd (k1 _ (Option.some.inj h).symm) (by decide)
  · rw [if_neg c24] at h
    refine lv_iconst (v := (0 : Int32)) hx hb dL_law__1671 (by decide) ?_
    exact absurd (k1 _ (Option.some.inj h).symm) (by decide)
theorem dL_law__1693 : decode cL_law_ 1693 = .ok (.aload_n 1, 1) := by decide +kernel
theorem dL_law__1694 : decode cL_law_ 1694 = .ok (.aload_n 0, 1) := by decide +kernel
theorem dL_law__1695 : decode cL_law_ 1695 = .ok (.iload 4, 2) := by decide +kernel
theorem dL_law__1697 : decode cL_law_ 1697 = .ok (.iconst 1, 1) := by decide +kernel
theorem dL_law__1698 : decode cL_law_ 1698 = .ok (.iadd, 1) := by decide +kernel
theorem dL_law__1699 : decode cL_law_ 1699 = .ok (.iaload, 1) := by decide +kernel
theorem dL_law__1700 : decode cL_law_ 1700 = .ok (.aload_n 0, 1) := by decide +kernel
theorem dL_law__1701 : decode cL_law_ 1701 = .ok (.iload 4, 2) := by decide +kernel
theorem dL_law__1703 : decode cL_law_ 1703 = .ok (.iconst 2, 1) := by decide +kernel
theorem dL_law__1704 : decode cL_law_ 1704 = .ok (.iadd, 1) := by decide +kernel
theorem dL_law__1705 : decode cL_law_ 1705 = .ok (.iaload, 1) := by decide +kernel
theorem dL_law__1706 : decode cL_law_ 1706 = .ok (.aload_n 3, 1) := by decide +kernel
theorem dL_law__1707 : decode cL_law_ 1707 = .ok (.invokestatic 213, 3) := by decide +kernel
theorem dL_law__1710 : decode cL_law_ 1710 = .ok (.istore 5, 2) := by decide +kernel
theorem dL_law__1712 : decode cL_law_ 1712 = .ok (.aload_n 2, 1) := by decide +kernel
theorem dL_law__1713 : decode cL_law_ 1713 = .ok (.aload_n 0, 1) := by decide +kernel
theorem dL_law__1714 : decode cL_law_ 1714 = .ok (.iload 4, 2) := by decide +kernel
theorem dL_law__1716 : decode cL_law_ 1716 = .ok (.iconst 1, 1) := by decide +kernel
theorem dL_law__1717 : decode cL_law_ 1717 = .ok (.iadd, 1) := by decide +kernel
theorem dL_law__1718 : decode cL_law_ 1718 = .ok (.iaload, 1) := by decide +kernel
theorem dL_law__1719 : decode cL_law_ 1719 = .ok (.aload_n 0, 1) := by decide +kernel
theorem dL_law__1720 : decode cL_law_ 1720 = .ok (.iload 4, 2) := by decide +kernel
theorem dL_law__1722 : decode cL_law_ 1722 = .ok (.iconst 2, 1) := by decide +kernel
theorem dL_law__1723 : decode cL_law_ 1723 = .ok (.iadd, 1) := by decide +kernel
theorem dL_law__1724 : decode cL_law_ 1724 = .ok (.iaload, 1) := by decide +kernel
theorem dL_law__1725 : decode cL_law_ 1725 = .ok (.invokevirtual 215, 3) := by decide +kernel
theorem dL_law__1728 : decode cL_law_ 1728 = .ok (.istore 6, 2) := by decide +kernel
theorem dL_law__1730 : decode cL_law_ 1730 = .ok (.aload_n 2, 1) := by decide +kernel
theorem dL_law__1731 : decode cL_law_ 1731 = .ok (.invokevirtual 141, 3) := by decide +kernel
theorem dL_law__1734 : decode cL_law_ 1734 = .ok (.iload 5, 2) := by decide +kernel
theorem dL_law__1736 : decode cL_law_ 1736 = .ok (.if_icmp .eq 5, 3) := by decide +kernel
theorem dL_law__1739 : decode cL_law_ 1739 = .ok (.iconst 0, 1) := by decide +kernel
theorem dL_law__1740 : decode cL_law_ 1740 = .ok (.ireturn, 1) := by decide +kernel
theorem dL_law__1741 : decode cL_law_ 1741 = .ok (.iload 5, 2) := by decide +kernel
theorem dL_law__1743 : decode cL_law_ 1743 = .ok (.ifCond .ne 15, 3) := by decide +kernel
theorem dL_law__1746 : decode cL_law_ 1746 = .ok (.aload_n 3, 1) := by decide +kernel
theorem dL_law__1747 : decode cL_law_ 1747 = .ok (.iconst 0, 1) := by decide +kernel
theorem dL_law__1748 : decode cL_law_ 1748 = .ok (.laload, 1) := by decide +kernel
theorem dL_law__1749 : decode cL_law_ 1749 = .ok (.iload 6, 2) := by decide +kernel
theorem dL_law__1751 : decode cL_law_ 1751 = .ok (.i2l, 1) := by decide +kernel
theorem dL_law__1752 : decode cL_law_ 1752 = .ok (.lcmp, 1) := by decide +kernel
theorem dL_law__1753 : decode cL_law_ 1753 = .ok (.ifCond .eq 5, 3) := by decide +kernel
theorem dL_law__1756 : decode cL_law_ 1756 = .ok (.iconst 0, 1) := by decide +kernel
theorem dL_law__1757 : decode cL_law_ 1757 = .ok (.ireturn, 1) := by decide +kernel
theorem dL_law__1758 : decode cL_law_ 1758 = .ok (.goto 841, 3) := by decide +kernel
/-! opcode 24 -/
noncomputable def fL_c24 (xs : Nat → Int32) (L : Nat) (V : VT) (ov : Nat → Int64) (u4 : Int32) : Option ((VT × (Nat → Int64) × Int32) ⊕ Int32) := rd_ (u4 + (1 : Int32)) L (lt_ (xs (u4 + (1 : Int32)).toNatClampNeg) fun z2 => rd_ (u4 + (2 : Int32)) L (lt_ (xs (u4 + (2 : Int32)).toNatClampNeg) fun z4 => ob_I (fX9_soonest V z2 z4) fun o5 V10 => ob_R (hL_soonest o5 ov) fun qy7 => dt2_ qy7 fun y7 w6 => rd_ (u4 + (1 : Int32)) L (lt_ (xs (u4 + (1 : Int32)).toNatClampNeg) fun z12 => rd_ (u4 + (2 : Int32)) L (lt_ (xs (u4 + (2 : Int32)).toNatClampNeg) fun z14 => ob_I (fX10_soonest V10 z12 z14) fun y16 V17 => ob_R (fX10_thrown V17 ) fun y19 => if y19 = y7 then (if y7 = 0 then (if (lg_cmp (w6 ((0 : Int32).toNatClampNeg)) y16.toInt64) = 0 then (lt_ (u4 + (6 : Int32)) fun y21 => some (.inl (V17, w6, y21))) else (some (.inr (0 : Int32)))) else (lt_ (u4 + (6 : Int32)) fun y20 => some (.inl (V17, w6, y20)))) else (some (.inr (0 : Int32)))))))
set_option maxHeartbeats 4000000 in
set_option maxRecDepth 100000 in
theorem wL_c24 {p : Program} {l : Launch} {e : Env} {s : State} {m : MethodId} {args : Array Value} {below : List Frame} {meth : Method} {c : Code} {G : GT} {Z : Nat → Nat × Nat} {oa b L : Nat} {xs : Nat → Int32} {Q : State → Prop} (E : EO p s m args c meth cL_law_ 7 RL (some .boolean) G (SH Z) oa) (ht : l.stackTraces = false) (hX : va_X b L xs s s.heap) (hbl : b < s.heap.size) (hbA : ¬ gO G oa s.heap.size b) (hL : L ≤ 3072) {C0 S0 : Nat} (hC0 : C0 ≤ 100000) (hS0 : S0 ≤ 1000000) {V : VT} {ov : Nat → Int64} {u4 : Int32} {r : ((VT × (Nat → Int64) × Int32) ⊕ Int32)} (h : fL_c24 xs L V ov u4 = some r) (k1 : ∀ y, r = .inr y → y = 1) (kc : ∀ (V2 : VT) (ov2 : Nat → Int64), r = .inl (V2, ov2, u4 + 6) → ∀ (H : Heap) (locs : List Loc) (ls : Array Slot) (cells slots : Nat), HO G oa s.heap (V2) (ov2) H locs → lv_has ls 7 [(0, .ref b), (1, .ref (G.2.2 0)), (2, .ref (G.2.2 22)), (3, .ref oa), (4, .int (u4 + 6))] → cells ≤ C0 + 3 → slots ≤ S0 + 18 → W p l e room_1 s m args below meth c H locs cells slots Q (F0 m 23 ls [])) {H : Heap} {locs : List Loc} {ls : Array Slot} {cells slots : Nat} (hw : HO G oa s.heap V ov H locs) (hl : lv_has ls 7 [(0, .ref b), (1, .ref (G.2.2 0)), (2, .ref (G.2.2 22)), (3, .ref oa), (4, .int u4)]) (hce : cells ≤ C0) (hsl : slots ≤ S0) : W p l e room_1 s m args below meth c H locs cells slots Q (F0 m 1693 ls []) := by
  have hx := E.1
  have hb := E.2.1
  have hfc : ∀ K : Nat, K ≤ 3 → cells + K ≤ room_1.cells ∧ slots + 6 * K ≤ room_1.slots := fun K hK => ⟨by show cells + K ≤ 601024; omega, by show slots + 6 * K ≤ 7293034; omega⟩
  have hf0 : ∀ {c9 s9 : Nat}, c9 ≤ C0 + 3 → s9 ≤ S0 + 18 → c9 ≤ room_1.cells ∧ s9 ≤ room_1.slots := fun h1 h2 => ⟨by show _ ≤ 601024; omega, by show _ ≤ 7293034; omega⟩
  unfold fL_c24 at h
  refine lv_aload_n hx hb dL_law__1693 rfl (lv_at hl 1 rfl) ?_
  refine lv_aload_n hx hb dL_law__1694 rfl (lv_at hl 0 rfl) ?_
  refine lv_iload hx hb dL_law__1695 (lv_at hl 4 rfl) ?_
  refine lv_iconst (v := (1 : Int32)) hx hb dL_law__1697 (by decide) ?_
  refine lv_iadd hx hb dL_law__1698 ?_
  obtain ⟨b1, h⟩ := rd_some h
  obtain ⟨z2, ez2, h⟩ := lt_some h
  refine va_sld hx hb hX hbl hbA hw.2.2 b1 dL_law__1699 ?_
  refine lv_eqi ez2 ?_
  refine lv_aload_n hx hb dL_law__1700 rfl (lv_at hl 0 rfl) ?_
  refine lv_iload hx hb dL_law__1701 (lv_at hl 4 rfl) ?_
  refine lv_iconst (v := (2 : Int32)) hx hb dL_law__1703 (by decide) ?_
  refine lv_iadd hx hb dL_law__1704 ?_
  obtain ⟨b3, h⟩ := rd_some h
  obtain ⟨z4, ez4, h⟩ := lt_some h
  refine va_sld hx hb hX hbl hbA hw.2.2 b3 dL_law__1705 ?_
  refine lv_eqi ez4 ?_
  refine lv_aload_n hx hb dL_law__1706 rfl (lv_at hl 3 rfl) ?_
  obtain ⟨o5, V10, h8, h⟩ := ob_I_some h
  obtain ⟨⟨y7, w6⟩, h9, h⟩ := ob_R_some h
  have h := dt2_eq h
  refine o_SH (n := 4) (As := [.ref (G.2.2 0), .int z2, .int z4, .ref oa]) E hw (kL_soonest (l := l) (G := G) (Z := Z) (oa := oa) ht h8 h9) yw_L_soonest lw_ini lm_RL_213 ⟨by decide, by decide, by decide +kernel⟩ rfl hl.1 (by decide) (hfc 2 (by decide)) (by decide) rfl (Nat.le_of_ble_eq_true rfl) dL_law__1707 (fun H locs hw => ?_)
  refine lv_istore (lv' := [(5, .int y7), (0, .ref b), (1, .ref (G.2.2 0)), (2, .ref (G.2.2 22)), (3, .ref oa), (4, .int u4)]) hx hb dL_law__1710 hl (by decide) rfl (fun ls hl => ?_)
  refine lv_aload_n hx hb dL_law__1712 rfl (lv_at hl 3 rfl) ?_
  refine lv_aload_n hx hb dL_law__1713 rfl (lv_at hl 1 rfl) ?_
  refine lv_iload hx hb dL_law__1714 (lv_at hl 5 rfl) ?_
  refine lv_iconst (v := (1 : Int32)) hx hb dL_law__1716 (by decide) ?_
  refine lv_iadd hx hb dL_law__1717 ?_
  obtain ⟨b11, h⟩ := rd_some h
  obtain ⟨z12, ez12, h⟩ := lt_some h
  refine va_sld hx hb hX hbl hbA hw.2.2 b11 dL_law__1718 ?_
  refine lv_eqi ez12 ?_
  refine lv_aload_n hx hb dL_law__1719 rfl (lv_at hl 1 rfl) ?_
  refine lv_iload hx hb dL_law__1720 (lv_at hl 5 rfl) ?_
  refine lv_iconst (v := (2 : Int32)) hx hb dL_law__1722 (by decide) ?_
  refine lv_iadd hx hb dL_law__1723 ?_
  obtain ⟨b13, h⟩ := rd_some h
  obtain ⟨z14, ez14, h⟩ := lt_some h
  refine va_sld hx hb hX hbl hbA hw.2.2 b13 dL_law__1724 ?_
  refine lv_eqi ez14 ?_
  obtain ⟨y16, V17, h15, h⟩ := ob_I_some h
  refine o_VI (As := [.int z12, .int z14]) E hw (kX10_soonest (l := l) (G := G) (SG_ok Z) h15) yy_X10_soonest lm_RL_215 rfl (by decide) rfl rfl hl.1 (by decide) (hf0 (by omega) (by omega)) (by decide) rfl (Nat.le_of_ble_eq_true rfl) dL_law__1725 (fun H locs hw => ?_)
  refine lv_istore (lv' := [(6, .int y16), (5, .int y7), (0, .ref b), (1, .ref (G.2.2 0)), (2, .ref (G.2.2 22)), (3, .ref oa), (4, .int u4)]) hx hb dL_law__1728 hl (by decide) rfl (fun ls hl => ?_)
  refine lv_aload_n hx hb dL_law__1730 rfl (lv_at hl 4 rfl) ?_
  obtain ⟨y19, h18, h⟩ := ob_R_some h
  refine o_VI (As := []) E hw (kX10_thrown (l := l) (G := G) (SG_ok Z) h18) yy_X10_thrown lm_RL_141 rfl (by decide) rfl rfl hl.1 (by decide) (hf0 (by omega) (by omega)) (by decide) rfl (Nat.le_of_ble_eq_true rfl) dL_law__1731 (fun H locs hw => ?_)
  refine lv_iload hx hb dL_law__1734 (lv_at hl 1 rfl) ?_
  refine lv_icmp_eq (tgt := 1741) hx hb dL_law__1736 (by decide) (fun c24 => ?_) (fun c24 => ?_)
  · rw [if_pos c24] at h
    refine lv_iload hx hb dL_law__1741 (lv_at hl 1 rfl) ?_
    refine lv_if_ne (tgt := 1758) hx hb dL_law__1743 (by decide) (fun c23 => ?_) (fun c23 => ?_)
    · rw [if_neg c23] at h
      refine lv_goto (tgt := 2599) hx hb dL_law__1758 (by decide) ?_
      obtain ⟨y20, ey20, h⟩ := lt_some h
      refine lv_iinc (v := y20) (lv' := [(4, .int y20), (6, .int y16), (5, .int y7), (0, .ref b), (1, .ref (G.2.2 0)), (2, .ref (G.2.2 22)), (3, .ref oa)]) hx hb dL_law__2599 hl (k := 6) rfl (by rw [ey20]; rfl) (by decide) rfl (fun ls hl => ?_)
      refine lv_goto (tgt := 23) hx hb dL_law__2602 (by decide) ?_
      subst ey20
      exact kc V17 w6 (Option.some.inj h).symm H locs ls _ _ hw (lv_sub hl [3, 4, 5, 6, 0] rfl) (by omega) (by omega)
    · rw [if_pos c23] at h
      refine lv_aload_n hx hb dL_law__1746 rfl (lv_at hl 5 rfl) ?_
      refine lv_iconst (v := (0 : Int32)) hx hb dL_law__1747 (by decide) ?_
      refine o_ll E hw vp_0_1 dL_law__1748 ?_
      refine lv_iload hx hb dL_law__1749 (lv_at hl 0 rfl) ?_
      refine lv_i2l hx hb dL_law__1751 rfl ?_
      refine W.lcmp hx hb dL_law__1752 ?_
      refine lv_if_eq (tgt := 1758) hx hb dL_law__1753 (by decide) (fun c22 => ?_) (fun c22 => ?_)
      · rw [if_pos c22] at h
        refine lv_goto (tgt := 2599) hx hb dL_law__1758 (by decide) ?_
        obtain ⟨y21, ey21, h⟩ := lt_some h
        refine lv_iinc (v := y21) (lv' := [(4, .int y21), (6, .int y16), (5, .int y7), (0, .ref b), (1, .ref (G.2.2 0)), (2, .ref (G.2.2 22)), (3, .ref oa)]) hx hb dL_law__2599 hl (k := 6) rfl (by rw [ey21]; rfl) (by decide) rfl (fun ls hl => ?_)
        refine lv_goto (tgt := 23) hx hb dL_law__2602 (by decide) ?_
        subst ey21
        exact kc V17 w6 (Option.some.inj h).symm H locs ls _ _ hw (lv_sub hl [3, 4, 5, 6, 0] rfl) (by omega) (by omega)
      · rw [if_neg c22] at h
        refine lv_iconst (v := (0 : Int32)) hx hb dL_law__1756 (by decide) ?_
        exact absurd (k1 _ (Option.some.inj h).symm) (by decide)
  · rw [if_neg c24] at h
    refine lv_iconst (v := (0 : Int32)) hx hb dL_law__1739 (by decide) ?_
    exact absurd (k1 _ (Option.some.inj h).symm) (by decide)
theorem dL_law__1761 : decode cL_law_ 1761 = .ok (.aload_n 1, 1) := by decide +kernel
theorem dL_law__1762 : decode cL_law_ 1762 = .ok (.aload_n 0, 1) := by decide +kernel
theorem dL_law__1763 : decode cL_law_ 1763 = .ok (.iload 4, 2) := by decide +kernel
theorem dL_law__1765 : decode cL_law_ 1765 = .ok (.iconst 1, 1) := by decide +kernel
theorem dL_law__1766 : decode cL_law_ 1766 = .ok (.iadd, 1) := by decide +kernel
theorem dL_law__1767 : decode cL_law_ 1767 = .ok (.iaload, 1) := by decide +kernel
theorem dL_law__1768 : decode cL_law_ 1768 = .ok (.aload_n 0, 1) := by decide +kernel
theorem dL_law__1769 : decode cL_law_ 1769 = .ok (.iload 4, 2) := by decide +kernel
theorem dL_law__1771 : decode cL_law_ 1771 = .ok (.iconst 2, 1) := by decide +kernel
theorem dL_law__1772 : decode cL_law_ 1772 = .ok (.iadd, 1) := by decide +kernel
theorem dL_law__1773 : decode cL_law_ 1773 = .ok (.iaload, 1) := by decide +kernel
theorem dL_law__1774 : decode cL_law_ 1774 = .ok (.aload_n 3, 1) := by decide +kernel
theorem dL_law__1775 : decode cL_law_ 1775 = .ok (.invokestatic 216, 3) := by decide +kernel
theorem dL_law__1778 : decode cL_law_ 1778 = .ok (.istore 5, 2) := by decide +kernel
theorem dL_law__1780 : decode cL_law_ 1780 = .ok (.aload_n 2, 1) := by decide +kernel
theorem dL_law__1781 : decode cL_law_ 1781 = .ok (.aload_n 0, 1) := by decide +kernel
theorem dL_law__1782 : decode cL_law_ 1782 = .ok (.iload 4, 2) := by decide +kernel
theorem dL_law__1784 : decode cL_law_ 1784 = .ok (.iconst 1, 1) := by decide +kernel
theorem dL_law__1785 : decode cL_law_ 1785 = .ok (.iadd, 1) := by decide +kernel
theorem dL_law__1786 : decode cL_law_ 1786 = .ok (.iaload, 1) := by decide +kernel
theorem dL_law__1787 : decode cL_law_ 1787 = .ok (.aload_n 0, 1) := by decide +kernel
theorem dL_law__1788 : decode cL_law_ 1788 = .ok (.iload 4, 2) := by decide +kernel
theorem dL_law__1790 : decode cL_law_ 1790 = .ok (.iconst 2, 1) := by decide +kernel
theorem dL_law__1791 : decode cL_law_ 1791 = .ok (.iadd, 1) := by decide +kernel
theorem dL_law__1792 : decode cL_law_ 1792 = .ok (.iaload, 1) := by decide +kernel
theorem dL_law__1793 : decode cL_law_ 1793 = .ok (.invokevirtual 218, 3) := by decide +kernel
theorem dL_law__1796 : decode cL_law_ 1796 = .ok (.istore 6, 2) := by decide +kernel
theorem dL_law__1798 : decode cL_law_ 1798 = .ok (.aload_n 2, 1) := by decide +kernel
theorem dL_law__1799 : decode cL_law_ 1799 = .ok (.invokevirtual 141, 3) := by decide +kernel
theorem dL_law__1802 : decode cL_law_ 1802 = .ok (.iload 5, 2) := by decide +kernel
theorem dL_law__1804 : decode cL_law_ 1804 = .ok (.if_icmp .eq 5, 3) := by decide +kernel
theorem dL_law__1807 : decode cL_law_ 1807 = .ok (.iconst 0, 1) := by decide +kernel
theorem dL_law__1808 : decode cL_law_ 1808 = .ok (.ireturn, 1) := by decide +kernel
theorem dL_law__1809 : decode cL_law_ 1809 = .ok (.iload 5, 2) := by decide +kernel
theorem dL_law__1811 : decode cL_law_ 1811 = .ok (.ifCond .ne 15, 3) := by decide +kernel
theorem dL_law__1814 : decode cL_law_ 1814 = .ok (.aload_n 3, 1) := by decide +kernel
theorem dL_law__1815 : decode cL_law_ 1815 = .ok (.iconst 0, 1) := by decide +kernel
theorem dL_law__1816 : decode cL_law_ 1816 = .ok (.laload, 1) := by decide +kernel
theorem dL_law__1817 : decode cL_law_ 1817 = .ok (.iload 6, 2) := by decide +kernel
theorem dL_law__1819 : decode cL_law_ 1819 = .ok (.i2l, 1) := by decide +kernel
theorem dL_law__1820 : decode cL_law_ 1820 = .ok (.lcmp, 1) := by decide +kernel
theorem dL_law__1821 : decode cL_law_ 1821 = .ok (.ifCond .eq 5, 3) := by decide +kernel
theorem dL_law__1824 : decode cL_law_ 1824 = .ok (.iconst 0, 1) := by decide +kernel
theorem dL_law__1825 : decode cL_law_ 1825 = .ok (.ireturn, 1) := by decide +kernel
theorem dL_law__1826 : decode cL_law_ 1826 = .ok (.goto 773, 3) := by decide +kernel
/-! opcode 25 -/
noncomputable def fL_c25 (xs : Nat → Int32) (L : Nat) (V : VT) (ov : Nat → Int64) (u4 : Int32) : Option ((VT × (Nat → Int64) × Int32) ⊕ Int32) := rd_ (u4 + (1 : Int32)) L (lt_ (xs (u4 + (1 : Int32)).toNatClampNeg) fun z2 => rd_ (u4 + (2 : Int32)) L (lt_ (xs (u4 + (2 : Int32)).toNatClampNeg) fun z4 => ob_I (fX9_ahead V z2 z4) fun o5 V10 => ob_R (hL_ahead o5 ov) fun qy7 => dt2_ qy7 fun y7 w6 => rd_ (u4 + (1 : Int32)) L (lt_ (xs (u4 + (1 : Int32)).toNatClampNeg) fun z12 => rd_ (u4 + (2 : Int32)) L (lt_ (xs (u4 + (2 : Int32)).toNatClampNeg) fun z14 => ob_I (fX10_ahead V10 z12 z14) fun y16 V17 => ob_R (fX10_thrown V17 ) fun y19 => if y19 = y7 then (if y7 = 0 then (if (lg_cmp (w6 ((0 : Int32).toNatClampNeg)) y16.toInt64) = 0 then (lt_ (u4 + (6 : Int32)) fun y21 => some (.inl (V17, w6, y21))) else (some (.inr (0 : Int32)))) else (lt_ (u4 + (6 : Int32)) fun y20 => some (.inl (V17, w6, y20)))) else (some (.inr (0 : Int32)))))))
set_option maxHeartbeats 4000000 in
set_option maxRecDepth 100000 in
theorem wL_c25 {p : Program} {l : Launch} {e : Env} {s : State} {m : MethodId} {args : Array Value} {below : List Frame} {meth : Method} {c : Code} {G : GT} {Z : Nat → Nat × Nat} {oa b L : Nat} {xs : Nat → Int32} {Q : State → Prop} (E : EO p s m args c meth cL_law_ 7 RL (some .boolean) G (SH Z) oa) (ht : l.stackTraces = false) (hX : va_X b L xs s s.heap) (hbl : b < s.heap.size) (hbA : ¬ gO G oa s.heap.size b) (hL : L ≤ 3072) {C0 S0 : Nat} (hC0 : C0 ≤ 100000) (hS0 : S0 ≤ 1000000) {V : VT} {ov : Nat → Int64} {u4 : Int32} {r : ((VT × (Nat → Int64) × Int32) ⊕ Int32)} (h : fL_c25 xs L V ov u4 = some r) (k1 : ∀ y, r = .inr y → y = 1) (kc : ∀ (V2 : VT) (ov2 : Nat → Int64), r = .inl (V2, ov2, u4 + 6) → ∀ (H : Heap) (locs : List Loc) (ls : Array Slot) (cells slots : Nat), HO G oa s.heap (V2) (ov2) H locs → lv_has ls 7 [(0, .ref b), (1, .ref (G.2.2 0)), (2, .ref (G.2.2 22)), (3, .ref oa), (4, .int (u4 + 6))] → cells ≤ C0 + 3 → slots ≤ S0 + 18 → W p l e room_1 s m args below meth c H locs cells slots Q (F0 m 23 ls [])) {H : Heap} {locs : List Loc} {ls : Array Slot} {cells slots : Nat} (hw : HO G oa s.heap V ov H locs) (hl : lv_has ls 7 [(0, .ref b), (1, .ref (G.2.2 0)), (2, .ref (G.2.2 22)), (3, .ref oa), (4, .int u4)]) (hce : cells ≤ C0) (hsl : slots ≤ S0) : W p l e room_1 s m args below meth c H locs cells slots Q (F0 m 1761 ls []) := by
  have hx := E.1
  have hb := E.2.1
  have hfc : ∀ K : Nat, K ≤ 3 → cells + K ≤ room_1.cells ∧ slots + 6 * K ≤ room_1.slots := fun K hK => ⟨by show cells + K ≤ 601024; omega, by show slots + 6 * K ≤ 7293034; omega⟩
  have hf0 : ∀ {c9 s9 : Nat}, c9 ≤ C0 + 3 → s9 ≤ S0 + 18 → c9 ≤ room_1.cells ∧ s9 ≤ room_1.slots := fun h1 h2 => ⟨by show _ ≤ 601024; omega, by show _ ≤ 7293034; omega⟩
  unfold fL_c25 at h
  refine lv_aload_n hx hb dL_law__1761 rfl (lv_at hl 1 rfl) ?_
  refine lv_aload_n hx hb dL_law__1762 rfl (lv_at hl 0 rfl) ?_
  refine lv_iload hx hb dL_law__1763 (lv_at hl 4 rfl) ?_
  refine lv_iconst (v := (1 : Int32)) hx hb dL_law__1765 (by decide) ?_
  refine lv_iadd hx hb dL_law__1766 ?_
  obtain ⟨b1, h⟩ := rd_some h
  obtain ⟨z2, ez2, h⟩ := lt_some h
  refine va_sld hx hb hX hbl hbA hw.2.2 b1 dL_law__1767 ?_
  refine lv_eqi ez2 ?_
  refine lv_aload_n hx hb dL_law__1768 rfl (lv_at hl 0 rfl) ?_
  refine lv_iload hx hb dL_law__1769 (lv_at hl 4 rfl) ?_
  refine lv_iconst (v := (2 : Int32)) hx hb dL_law__1771 (by decide) ?_
  refine lv_iadd hx hb dL_law__1772 ?_
  obtain ⟨b3, h⟩ := rd_some h
  obtain ⟨z4, ez4, h⟩ := lt_some h
  refine va_sld hx hb hX hbl hbA hw.2.2 b3 dL_law__1773 ?_
  refine lv_eqi ez4 ?_
  refine lv_aload_n hx hb dL_law__1774 rfl (lv_at hl 3 rfl) ?_
  obtain ⟨o5, V10, h8, h⟩ := ob_I_some h
  obtain ⟨⟨y7, w6⟩, h9, h⟩ := ob_R_some h
  have h := dt2_eq h
  refine o_SH (n := 4) (As := [.ref (G.2.2 0), .int z2, .int z4, .ref oa]) E hw (kL_ahead (l := l) (G := G) (Z := Z) (oa := oa) ht h8 h9) yw_L_ahead lw_ini lm_RL_216 ⟨by decide, by decide, by decide +kernel⟩ rfl hl.1 (by decide) (hfc 2 (by decide)) (by decide) rfl (Nat.le_of_ble_eq_true rfl) dL_law__1775 (fun H locs hw => ?_)
  refine lv_istore (lv' := [(5, .int y7), (0, .ref b), (1, .ref (G.2.2 0)), (2, .ref (G.2.2 22)), (3, .ref oa), (4, .int u4)]) hx hb dL_law__1778 hl (by decide) rfl (fun ls hl => ?_)
  refine lv_aload_n hx hb dL_law__1780 rfl (lv_at hl 3 rfl) ?_
  refine lv_aload_n hx hb dL_law__1781 rfl (lv_at hl 1 rfl) ?_
  refine lv_iload hx hb dL_law__1782 (lv_at hl 5 rfl) ?_
  refine lv_iconst (v := (1 : Int32)) hx hb dL_law__1784 (by decide) ?_
  refine lv_iadd hx hb dL_law__1785 ?_
  obtain ⟨b11, h⟩ := rd_some h
  obtain ⟨z12, ez12, h⟩ := lt_some h
  refine va_sld hx hb hX hbl hbA hw.2.2 b11 dL_law__1786 ?_
  refine lv_eqi ez12 ?_
  refine lv_aload_n hx hb dL_law__1787 rfl (lv_at hl 1 rfl) ?_
  refine lv_iload hx hb dL_law__1788 (lv_at hl 5 rfl) ?_
  refine lv_iconst (v := (2 : Int32)) hx hb dL_law__1790 (by decide) ?_
  refine lv_iadd hx hb dL_law__1791 ?_
  obtain ⟨b13, h⟩ := rd_some h
  obtain ⟨z14, ez14, h⟩ := lt_some h
  refine va_sld hx hb hX hbl hbA hw.2.2 b13 dL_law__1792 ?_
  refine lv_eqi ez14 ?_
  obtain ⟨y16, V17, h15, h⟩ := ob_I_some h
  refine o_VI (As := [.int z12, .int z14]) E hw (kX10_ahead (l := l) (G := G) (SG_ok Z) h15) yy_X10_ahead lm_RL_218 rfl (by decide) rfl rfl hl.1 (by decide) (hf0 (by omega) (by omega)) (by decide) rfl (Nat.le_of_ble_eq_true rfl) dL_law__1793 (fun H locs hw => ?_)
  refine lv_istore (lv' := [(6, .int y16), (5, .int y7), (0, .ref b), (1, .ref (G.2.2 0)), (2, .ref (G.2.2 22)), (3, .ref oa), (4, .int u4)]) hx hb dL_law__1796 hl (by decide) rfl (fun ls hl => ?_)
  refine lv_aload_n hx hb dL_law__1798 rfl (lv_at hl 4 rfl) ?_
  obtain ⟨y19, h18, h⟩ := ob_R_some h
  refine o_VI (As := []) E hw (kX10_thrown (l := l) (G := G) (SG_ok Z) h18) yy_X10_thrown lm_RL_141 rfl (by decide) rfl rfl hl.1 (by decide) (hf0 (by omega) (by omega)) (by decide) rfl (Nat.le_of_ble_eq_true rfl) dL_law__1799 (fun H locs hw => ?_)
  refine lv_iload hx hb dL_law__1802 (lv_at hl 1 rfl) ?_
  refine lv_icmp_eq (tgt := 1809) hx hb dL_law__1804 (by decide) (fun c24 => ?_) (fun c24 => ?_)
  · rw [if_pos c24] at h
    refine lv_iload hx hb dL_law__1809 (lv_at hl 1 rfl) ?_
    refine lv_if_ne (tgt := 1826) hx hb dL_law__1811 (by decide) (fun c23 => ?_) (fun c23 => ?_)
    · rw [if_neg c23] at h
      refine lv_goto (tgt := 2599) hx hb dL_law__1826 (by decide) ?_
      obtain ⟨y20, ey20, h⟩ := lt_some h
      refine lv_iinc (v := y20) (lv' := [(4, .int y20), (6, .int y16), (5, .int y7), (0, .ref b), (1, .ref (G.2.2 0)), (2, .ref (G.2.2 22)), (3, .ref oa)]) hx hb dL_law__2599 hl (k := 6) rfl (by rw [ey20]; rfl) (by decide) rfl (fun ls hl => ?_)
      refine lv_goto (tgt := 23) hx hb dL_law__2602 (by decide) ?_
      subst ey20
      exact kc V17 w6 (Option.some.inj h).symm H locs ls _ _ hw (lv_sub hl [3, 4, 5, 6, 0] rfl) (by omega) (by omega)
    · rw [if_pos c23] at h
      refine lv_aload_n hx hb dL_law__1814 rfl (lv_at hl 5 rfl) ?_
      refine lv_iconst (v := (0 : Int32)) hx hb dL_law__1815 (by decide) ?_
      refine o_ll E hw vp_0_1 dL_law__1816 ?_
      refine lv_iload hx hb dL_law__1817 (lv_at hl 0 rfl) ?_
      refine lv_i2l hx hb dL_law__1819 rfl ?_
      refine W.lcmp hx hb dL_law__1820 ?_
      refine lv_if_eq (tgt := 1826) hx hb dL_law__1821 (by decide) (fun c22 => ?_) (fun c22 => ?_)
      · rw [if_pos c22] at h
        refine lv_goto (tgt := 2599) hx hb dL_law__1826 (by decide) ?_
        obtain ⟨y21, ey21, h⟩ := lt_some h
        refine lv_iinc (v := y21) (lv' := [(4, .int y21), (6, .int y16), (5, .int y7), (0, .ref b), (1, .ref (G.2.2 0)), (2, .ref (G.2.2 22)), (3, .ref oa)]) hx hb dL_law__2599 hl (k := 6) rfl (by rw [ey21]; rfl) (by decide) rfl (fun ls hl => ?_)
        refine lv_goto (tgt := 23) hx hb dL_law__2602 (by decide) ?_
        subst ey21
        exact kc V17 w6 (Option.some.inj h).symm H locs ls _ _ hw (lv_sub hl [3, 4, 5, 6, 0] rfl) (by omega) (by omega)
      · rw [if_neg c22] at h
        refine lv_iconst (v := (0 : Int32)) hx hb dL_law__1824 (by decide) ?_
        exact absurd (k1 _ (Option.some.inj h).symm) (by decide)
  · rw [if_neg c24] at h
    refine lv_iconst (v := (0 : Int32)) hx hb dL_law__1807 (by decide) ?_
    exact absurd (k1 _ (Option.some.inj h).symm) (by decide)
theorem dL_law__1829 : decode cL_law_ 1829 = .ok (.aload_n 1, 1) := by decide +kernel
theorem dL_law__1830 : decode cL_law_ 1830 = .ok (.aload_n 0, 1) := by decide +kernel
theorem dL_law__1831 : decode cL_law_ 1831 = .ok (.iload 4, 2) := by decide +kernel
theorem dL_law__1833 : decode cL_law_ 1833 = .ok (.iconst 1, 1) := by decide +kernel
theorem dL_law__1834 : decode cL_law_ 1834 = .ok (.iadd, 1) := by decide +kernel
theorem dL_law__1835 : decode cL_law_ 1835 = .ok (.iaload, 1) := by decide +kernel
theorem dL_law__1836 : decode cL_law_ 1836 = .ok (.aload_n 3, 1) := by decide +kernel
theorem dL_law__1837 : decode cL_law_ 1837 = .ok (.invokestatic 219, 3) := by decide +kernel
theorem dL_law__1840 : decode cL_law_ 1840 = .ok (.istore 5, 2) := by decide +kernel
theorem dL_law__1842 : decode cL_law_ 1842 = .ok (.aload_n 2, 1) := by decide +kernel
theorem dL_law__1843 : decode cL_law_ 1843 = .ok (.aload_n 0, 1) := by decide +kernel
theorem dL_law__1844 : decode cL_law_ 1844 = .ok (.iload 4, 2) := by decide +kernel
theorem dL_law__1846 : decode cL_law_ 1846 = .ok (.iconst 1, 1) := by decide +kernel
theorem dL_law__1847 : decode cL_law_ 1847 = .ok (.iadd, 1) := by decide +kernel
theorem dL_law__1848 : decode cL_law_ 1848 = .ok (.iaload, 1) := by decide +kernel
theorem dL_law__1849 : decode cL_law_ 1849 = .ok (.invokevirtual 221, 3) := by decide +kernel
theorem dL_law__1852 : decode cL_law_ 1852 = .ok (.istore 6, 2) := by decide +kernel
theorem dL_law__1854 : decode cL_law_ 1854 = .ok (.aload_n 2, 1) := by decide +kernel
theorem dL_law__1855 : decode cL_law_ 1855 = .ok (.invokevirtual 141, 3) := by decide +kernel
theorem dL_law__1858 : decode cL_law_ 1858 = .ok (.iload 5, 2) := by decide +kernel
theorem dL_law__1860 : decode cL_law_ 1860 = .ok (.if_icmp .eq 5, 3) := by decide +kernel
theorem dL_law__1863 : decode cL_law_ 1863 = .ok (.iconst 0, 1) := by decide +kernel
theorem dL_law__1864 : decode cL_law_ 1864 = .ok (.ireturn, 1) := by decide +kernel
theorem dL_law__1865 : decode cL_law_ 1865 = .ok (.iload 5, 2) := by decide +kernel
theorem dL_law__1867 : decode cL_law_ 1867 = .ok (.ifCond .ne 15, 3) := by decide +kernel
theorem dL_law__1870 : decode cL_law_ 1870 = .ok (.aload_n 3, 1) := by decide +kernel
theorem dL_law__1871 : decode cL_law_ 1871 = .ok (.iconst 0, 1) := by decide +kernel
theorem dL_law__1872 : decode cL_law_ 1872 = .ok (.laload, 1) := by decide +kernel
theorem dL_law__1873 : decode cL_law_ 1873 = .ok (.iload 6, 2) := by decide +kernel
theorem dL_law__1875 : decode cL_law_ 1875 = .ok (.i2l, 1) := by decide +kernel
theorem dL_law__1876 : decode cL_law_ 1876 = .ok (.lcmp, 1) := by decide +kernel
theorem dL_law__1877 : decode cL_law_ 1877 = .ok (.ifCond .eq 5, 3) := by decide +kernel
theorem dL_law__1880 : decode cL_law_ 1880 = .ok (.iconst 0, 1) := by decide +kernel
theorem dL_law__1881 : decode cL_law_ 1881 = .ok (.ireturn, 1) := by decide +kernel
theorem dL_law__1882 : decode cL_law_ 1882 = .ok (.goto 717, 3) := by decide +kernel
/-! opcode 26 -/
noncomputable def fL_c26 (xs : Nat → Int32) (L : Nat) (V : VT) (ov : Nat → Int64) (u4 : Int32) : Option ((VT × (Nat → Int64) × Int32) ⊕ Int32) := rd_ (u4 + (1 : Int32)) L (lt_ (xs (u4 + (1 : Int32)).toNatClampNeg) fun z2 => ob_I (fX9_later V z2) fun o3 V8 => ob_R (hL_later o3 ov) fun qy5 => dt2_ qy5 fun y5 w4 => rd_ (u4 + (1 : Int32)) L (lt_ (xs (u4 + (1 : Int32)).toNatClampNeg) fun z10 => ob_I (fX10_later V8 z10) fun y12 V13 => ob_R (fX10_thrown V13 ) fun y15 => if y15 = y5 then (if y5 = 0 then (if (lg_cmp (w4 ((0 : Int32).toNatClampNeg)) y12.toInt64) = 0 then (lt_ (u4 + (6 : Int32)) fun y17 => some (.inl (V13, w4, y17))) else (some (.inr (0 : Int32)))) else (lt_ (u4 + (6 : Int32)) fun y16 => some (.inl (V13, w4, y16)))) else (some (.inr (0 : Int32)))))
set_option maxHeartbeats 4000000 in
set_option maxRecDepth 100000 in
theorem wL_c26 {p : Program} {l : Launch} {e : Env} {s : State} {m : MethodId} {args : Array Value} {below : List Frame} {meth : Method} {c : Code} {G : GT} {Z : Nat → Nat × Nat} {oa b L : Nat} {xs : Nat → Int32} {Q : State → Prop} (E : EO p s m args c meth cL_law_ 7 RL (some .boolean) G (SH Z) oa) (ht : l.stackTraces = false) (hX : va_X b L xs s s.heap) (hbl : b < s.heap.size) (hbA : ¬ gO G oa s.heap.size b) (hL : L ≤ 3072) {C0 S0 : Nat} (hC0 : C0 ≤ 100000) (hS0 : S0 ≤ 1000000) {V : VT} {ov : Nat → Int64} {u4 : Int32} {r : ((VT × (Nat → Int64) × Int32) ⊕ Int32)} (h : fL_c26 xs L V ov u4 = some r) (k1 : ∀ y, r = .inr y → y = 1) (kc : ∀ (V2 : VT) (ov2 : Nat → Int64), r = .inl (V2, ov2, u4 + 6) → ∀ (H : Heap) (locs : List Loc) (ls : Array Slot) (cells slots : Nat), HO G oa s.heap (V2) (ov2) H locs → lv_has ls 7 [(0, .ref b), (1, .ref (G.2.2 0)), (2, .ref (G.2.2 22)), (3, .ref oa), (4, .int (u4 + 6))] → cells ≤ C0 + 3 → slots ≤ S0 + 18 → W p l e room_1 s m args below meth c H locs cells slots Q (F0 m 23 ls [])) {H : Heap} {locs : List Loc} {ls : Array Slot} {cells slots : Nat} (hw : HO G oa s.heap V ov H locs) (hl : lv_has ls 7 [(0, .ref b), (1, .ref (G.2.2 0)), (2, .ref (G.2.2 22)), (3, .ref oa), (4, .int u4)]) (hce : cells ≤ C0) (hsl : slots ≤ S0) : W p l e room_1 s m args below meth c H locs cells slots Q (F0 m 1829 ls []) := by
  have hx := E.1
  have hb := E.2.1
  have hfc : ∀ K : Nat, K ≤ 3 → cells + K ≤ room_1.cells ∧ slots + 6 * K ≤ room_1.slots := fun K hK => ⟨by show cells + K ≤ 601024; omega, by show slots + 6 * K ≤ 7293034; omega⟩
  have hf0 : ∀ {c9 s9 : Nat}, c9 ≤ C0 + 3 → s9 ≤ S0 + 18 → c9 ≤ room_1.cells ∧ s9 ≤ room_1.slots := fun h1 h2 => ⟨by show _ ≤ 601024; omega, by show _ ≤ 7293034; omega⟩
  unfold fL_c26 at h
  refine lv_aload_n hx hb dL_law__1829 rfl (lv_at hl 1 rfl) ?_
  refine lv_aload_n hx hb dL_law__1830 rfl (lv_at hl 0 rfl) ?_
  refine lv_iload hx hb dL_law__1831 (lv_at hl 4 rfl) ?_
  refine lv_iconst (v := (1 : Int32)) hx hb dL_law__1833 (by decide) ?_
  refine lv_iadd hx hb dL_law__1834 ?_
  obtain ⟨b1, h⟩ := rd_some h
  obtain ⟨z2, ez2, h⟩ := lt_some h
  refine va_sld hx hb hX hbl hbA hw.2.2 b1 dL_law__1835 ?_
  refine lv_eqi ez2 ?_
  refine lv_aload_n hx hb dL_law__1836 rfl (lv_at hl 3 rfl) ?_
  obtain ⟨o3, V8, h6, h⟩ := ob_I_some h
  obtain ⟨⟨y5, w4⟩, h7, h⟩ := ob_R_some h
  have h := dt2_eq h
  refine o_SH (n := 3) (As := [.ref (G.2.2 0), .int z2, .ref oa]) E hw (kL_later (l := l) (G := G) (Z := Z) (oa := oa) ht h6 h7) yw_L_later lw_ini lm_RL_219 ⟨by decide, by decide, by decide +kernel⟩ rfl hl.1 (by decide) (hfc 1 (by decide)) (by decide) rfl (Nat.le_of_ble_eq_true rfl) dL_law__1837 (fun H locs hw => ?_)
  refine lv_istore (lv' := [(5, .int y5), (0, .ref b), (1, .ref (G.2.2 0)), (2, .ref (G.2.2 22)), (3, .ref oa), (4, .int u4)]) hx hb dL_law__1840 hl (by decide) rfl (fun ls hl => ?_)
  refine lv_aload_n hx hb dL_law__1842 rfl (lv_at hl 3 rfl) ?_
  refine lv_aload_n hx hb dL_law__1843 rfl (lv_at hl 1 rfl) ?_
  refine lv_iload hx hb dL_law__1844 (lv_at hl 5 rfl) ?_
  refine lv_iconst (v := (1 : Int32)) hx hb dL_law__1846 (by decide) ?_
  refine lv_iadd hx hb dL_law__1847 ?_
  obtain ⟨b9, h⟩ := rd_some h
  obtain ⟨z10, ez10, h⟩ := lt_some h
  refine va_sld hx hb hX hbl hbA hw.2.2 b9 dL_law__1848 ?_
  refine lv_eqi ez10 ?_
  obtain ⟨y12, V13, h11, h⟩ := ob_I_some h
  refine o_VI (As := [.int z10]) E hw (kX10_later (l := l) (G := G) (SG_ok Z) h11) yy_X10_later lm_RL_221 rfl (by decide) rfl rfl hl.1 (by decide) (hf0 (by omega) (by omega)) (by decide) rfl (Nat.le_of_ble_eq_true rfl) dL_law__1849 (fun H locs hw => ?_)
  refine lv_istore (lv' := [(6, .int y12), (5, .int y5), (0, .ref b), (1, .ref (G.2.2 0)), (2, .ref (G.2.2 22)), (3, .ref oa), (4, .int u4)]) hx hb dL_law__1852 hl (by decide) rfl (fun ls hl => ?_)
  refine lv_aload_n hx hb dL_law__1854 rfl (lv_at hl 4 rfl) ?_
  obtain ⟨y15, h14, h⟩ := ob_R_some h
  refine o_VI (As := []) E hw (kX10_thrown (l := l) (G := G) (SG_ok Z) h14) yy_X10_thrown lm_RL_141 rfl (by decide) rfl rfl hl.1 (by decide) (hf0 (by omega) (by omega)) (by decide) rfl (Nat.le_of_ble_eq_true rfl) dL_law__1855 (fun H locs hw => ?_)
  refine lv_iload hx hb dL_law__1858 (lv_at hl 1 rfl) ?_
  refine lv_icmp_eq (tgt := 1865) hx hb dL_law__1860 (by decide) (fun c20 => ?_) (fun c20 => ?_)
  · rw [if_pos c20] at h
    refine lv_iload hx hb dL_law__1865 (lv_at hl 1 rfl) ?_
    refine lv_if_ne (tgt := 1882) hx hb dL_law__1867 (by decide) (fun c19 => ?_) (fun c19 => ?_)
    · rw [if_neg c19] at h
      refine lv_goto (tgt := 2599) hx hb dL_law__1882 (by decide) ?_
      obtain ⟨y16, ey16, h⟩ := lt_some h
      refine lv_iinc (v := y16) (lv' := [(4, .int y16), (6, .int y12), (5, .int y5), (0, .ref b), (1, .ref (G.2.2 0)), (2, .ref (G.2.2 22)), (3, .ref oa)]) hx hb dL_law__2599 hl (k := 6) rfl (by rw [ey16]; rfl) (by decide) rfl (fun ls hl => ?_)
      refine lv_goto (tgt := 23) hx hb dL_law__2602 (by decide) ?_
      subst ey16
      exact kc V13 w4 (Option.some.inj h).symm H locs ls _ _ hw (lv_sub hl [3, 4, 5, 6, 0] rfl) (by omega) (by omega)
    · rw [if_pos c19] at h
      refine lv_aload_n hx hb dL_law__1870 rfl (lv_at hl 5 rfl) ?_
      refine lv_iconst (v := (0 : Int32)) hx hb dL_law__1871 (by decide) ?_
      refine o_ll E hw vp_0_1 dL_law__1872 ?_
      refine lv_iload hx hb dL_law__1873 (lv_at hl 0 rfl) ?_
      refine lv_i2l hx hb dL_law__1875 rfl ?_
      refine W.lcmp hx hb dL_law__1876 ?_
      refine lv_if_eq (tgt := 1882) hx hb dL_law__1877 (by decide) (fun c18 => ?_) (fun c18 => ?_)
      · rw [if_pos c18] at h
        refine lv_goto (tgt := 2599) hx hb dL_law__1882 (by decide) ?_
        obtain ⟨y17, ey17, h⟩ := lt_some h
        refine lv_iinc (v := y17) (lv' := [(4, .int y17), (6, .int y12), (5, .int y5), (0, .ref b), (1, .ref (G.2.2 0)), (2, .ref (G.2.2 22)), (3, .ref oa)]) hx hb dL_law__2599 hl (k := 6) rfl (by rw [ey17]; rfl) (by decide) rfl (fun ls hl => ?_)
        refine lv_goto (tgt := 23) hx hb dL_law__2602 (by decide) ?_
        subst ey17
        exact kc V13 w4 (Option.some.inj h).symm H locs ls _ _ hw (lv_sub hl [3, 4, 5, 6, 0] rfl) (by omega) (by omega)
      · rw [if_neg c18] at h
        refine lv_iconst (v := (0 : Int32)) hx hb dL_law__1880 (by decide) ?_
        exact absurd (k1 _ (Option.some.inj h).symm) (by decide)
  · rw [if_neg c20] at h
    refine lv_iconst (v := (0 : Int32)) hx hb dL_law__1863 (by decide) ?_
    exact absurd (k1 _ (Option.some.inj h).symm) (by decide)
theorem dL_law__1885 : decode cL_law_ 1885 = .ok (.aload_n 1, 1) := by decide +kernel
theorem dL_law__1886 : decode cL_law_ 1886 = .ok (.invokevirtual 222, 3) := by decide +kernel
theorem dL_law__1889 : decode cL_law_ 1889 = .ok (.aload_n 2, 1) := by decide +kernel
theorem dL_law__1890 : decode cL_law_ 1890 = .ok (.invokevirtual 225, 3) := by decide +kernel
theorem dL_law__1893 : decode cL_law_ 1893 = .ok (.if_icmp .eq 706, 3) := by decide +kernel
theorem dL_law__1896 : decode cL_law_ 1896 = .ok (.iconst 0, 1) := by decide +kernel
theorem dL_law__1897 : decode cL_law_ 1897 = .ok (.ireturn, 1) := by decide +kernel
/-! opcode 27 -/
noncomputable def fL_c27 (xs : Nat → Int32) (L : Nat) (V : VT) (ov : Nat → Int64) (u4 : Int32) : Option ((VT × (Nat → Int64) × Int32) ⊕ Int32) := ob_R (fX9_holds V ) fun y2 => ob_I (fX10_holds V ) fun y4 V5 => if y2 = y4 then (lt_ (u4 + (6 : Int32)) fun y6 => some (.inl (V5, ov, y6))) else (some (.inr (0 : Int32)))
set_option maxHeartbeats 4000000 in
set_option maxRecDepth 100000 in
theorem wL_c27 {p : Program} {l : Launch} {e : Env} {s : State} {m : MethodId} {args : Array Value} {below : List Frame} {meth : Method} {c : Code} {G : GT} {Z : Nat → Nat × Nat} {oa b L : Nat} {xs : Nat → Int32} {Q : State → Prop} (E : EO p s m args c meth cL_law_ 7 RL (some .boolean) G (SH Z) oa) (ht : l.stackTraces = false) (hX : va_X b L xs s s.heap) (hbl : b < s.heap.size) (hbA : ¬ gO G oa s.heap.size b) (hL : L ≤ 3072) {C0 S0 : Nat} (hC0 : C0 ≤ 100000) (hS0 : S0 ≤ 1000000) {V : VT} {ov : Nat → Int64} {u4 : Int32} {r : ((VT × (Nat → Int64) × Int32) ⊕ Int32)} (h : fL_c27 xs L V ov u4 = some r) (k1 : ∀ y, r = .inr y → y = 1) (kc : ∀ (V2 : VT) (ov2 : Nat → Int64), r = .inl (V2, ov2, u4 + 6) → ∀ (H : Heap) (locs : List Loc) (ls : Array Slot) (cells slots : Nat), HO G oa s.heap (V2) (ov2) H locs → lv_has ls 7 [(0, .ref b), (1, .ref (G.2.2 0)), (2, .ref (G.2.2 22)), (3, .ref oa), (4, .int (u4 + 6))] → cells ≤ C0 + 3 → slots ≤ S0 + 18 → W p l e room_1 s m args below meth c H locs cells slots Q (F0 m 23 ls [])) {H : Heap} {locs : List Loc} {ls : Array Slot} {cells slots : Nat} (hw : HO G oa s.heap V ov H locs) (hl : lv_has ls 7 [(0, .ref b), (1, .ref (G.2.2 0)), (2, .ref (G.2.2 22)), (3, .ref oa), (4, .int u4)]) (hce : cells ≤ C0) (hsl : slots ≤ S0) : W p l e room_1 s m args below meth c H locs cells slots Q (F0 m 1885 ls []) := by
  have hx := E.1
  have hb := E.2.1
  have hfc : ∀ K : Nat, K ≤ 3 → cells + K ≤ room_1.cells ∧ slots + 6 * K ≤ room_1.slots := fun K hK => ⟨by show cells + K ≤ 601024; omega, by show slots + 6 * K ≤ 7293034; omega⟩
  have hf0 : ∀ {c9 s9 : Nat}, c9 ≤ C0 + 3 → s9 ≤ S0 + 18 → c9 ≤ room_1.cells ∧ s9 ≤ room_1.slots := fun h1 h2 => ⟨by show _ ≤ 601024; omega, by show _ ≤ 7293034; omega⟩
  unfold fL_c27 at h
  refine lv_aload_n hx hb dL_law__1885 rfl (lv_at hl 1 rfl) ?_
  obtain ⟨y2, h1, h⟩ := ob_R_some h
  refine o_VI (As := []) E hw (kX9_holds (l := l) (G := G) (SG_ok Z) h1) yy_X9_holds lm_RL_222 rfl (by decide) rfl rfl hl.1 (by decide) (hf0 (by omega) (by omega)) (by decide) rfl (Nat.le_of_ble_eq_true rfl) dL_law__1886 (fun H locs hw => ?_)
  refine lv_aload_n hx hb dL_law__1889 rfl (lv_at hl 2 rfl) ?_
  obtain ⟨y4, V5, h3, h⟩ := ob_I_some h
  refine o_VI (As := []) E hw (kX10_holds (l := l) (G := G) (SG_ok Z) h3) yy_X10_holds lm_RL_225 rfl (by decide) rfl rfl hl.1 (by decide) (hf0 (by omega) (by omega)) (by decide) rfl (Nat.le_of_ble_eq_true rfl) dL_law__1890 (fun H locs hw => ?_)
  refine lv_icmp_eq (tgt := 2599) hx hb dL_law__1893 (by decide) (fun c7 => ?_) (fun c7 => ?_)
  · rw [if_pos c7] at h
    obtain ⟨y6, ey6, h⟩ := lt_some h
    refine lv_iinc (v := y6) (lv' := [(4, .int y6), (0, .ref b), (1, .ref (G.2.2 0)), (2, .ref (G.2.2 22)), (3, .ref oa)]) hx hb dL_law__2599 hl (k := 4) rfl (by rw [ey6]; rfl) (by decide) rfl (fun ls hl => ?_)
    refine lv_goto (tgt := 23) hx hb dL_law__2602 (by decide) ?_
    subst ey6
    exact kc V5 ov (Option.some.inj h).symm H locs ls _ _ hw (lv_sub hl [1, 2, 3, 4, 0] rfl) (by omega) (by omega)
  · rw [if_neg c7] at h
    refine lv_iconst (v := (0 : Int32)) hx hb dL_law__1896 (by decide) ?_
    exact absurd (k1 _ (Option.some.inj h).symm) (by decide)
theorem dL_law__1898 : decode cL_law_ 1898 = .ok (.aload_n 1, 1) := by decide +kernel
theorem dL_law__1899 : decode cL_law_ 1899 = .ok (.aload_n 0, 1) := by decide +kernel
theorem dL_law__1900 : decode cL_law_ 1900 = .ok (.iload 4, 2) := by decide +kernel
theorem dL_law__1902 : decode cL_law_ 1902 = .ok (.iconst 1, 1) := by decide +kernel
theorem dL_law__1903 : decode cL_law_ 1903 = .ok (.iadd, 1) := by decide +kernel
theorem dL_law__1904 : decode cL_law_ 1904 = .ok (.iaload, 1) := by decide +kernel
theorem dL_law__1905 : decode cL_law_ 1905 = .ok (.ifCond .eq 7, 3) := by decide +kernel
theorem dL_law__1908 : decode cL_law_ 1908 = .ok (.iconst 1, 1) := by decide +kernel
theorem dL_law__1909 : decode cL_law_ 1909 = .ok (.goto 4, 3) := by decide +kernel
theorem dL_law__1912 : decode cL_law_ 1912 = .ok (.iconst 0, 1) := by decide +kernel
theorem dL_law__1913 : decode cL_law_ 1913 = .ok (.aload_n 3, 1) := by decide +kernel
theorem dL_law__1914 : decode cL_law_ 1914 = .ok (.invokestatic 226, 3) := by decide +kernel
theorem dL_law__1917 : decode cL_law_ 1917 = .ok (.istore 5, 2) := by decide +kernel
theorem dL_law__1919 : decode cL_law_ 1919 = .ok (.aload_n 2, 1) := by decide +kernel
theorem dL_law__1920 : decode cL_law_ 1920 = .ok (.aload_n 0, 1) := by decide +kernel
theorem dL_law__1921 : decode cL_law_ 1921 = .ok (.iload 4, 2) := by decide +kernel
theorem dL_law__1923 : decode cL_law_ 1923 = .ok (.iconst 1, 1) := by decide +kernel
theorem dL_law__1924 : decode cL_law_ 1924 = .ok (.iadd, 1) := by decide +kernel
theorem dL_law__1925 : decode cL_law_ 1925 = .ok (.iaload, 1) := by decide +kernel
theorem dL_law__1926 : decode cL_law_ 1926 = .ok (.ifCond .eq 7, 3) := by decide +kernel
theorem dL_law__1929 : decode cL_law_ 1929 = .ok (.iconst 1, 1) := by decide +kernel
theorem dL_law__1930 : decode cL_law_ 1930 = .ok (.goto 4, 3) := by decide +kernel
theorem dL_law__1933 : decode cL_law_ 1933 = .ok (.iconst 0, 1) := by decide +kernel
theorem dL_law__1934 : decode cL_law_ 1934 = .ok (.invokevirtual 229, 3) := by decide +kernel
theorem dL_law__1937 : decode cL_law_ 1937 = .ok (.istore 6, 2) := by decide +kernel
theorem dL_law__1939 : decode cL_law_ 1939 = .ok (.aload_n 2, 1) := by decide +kernel
theorem dL_law__1940 : decode cL_law_ 1940 = .ok (.invokevirtual 141, 3) := by decide +kernel
theorem dL_law__1943 : decode cL_law_ 1943 = .ok (.iload 5, 2) := by decide +kernel
theorem dL_law__1945 : decode cL_law_ 1945 = .ok (.if_icmp .eq 5, 3) := by decide +kernel
theorem dL_law__1948 : decode cL_law_ 1948 = .ok (.iconst 0, 1) := by decide +kernel
theorem dL_law__1949 : decode cL_law_ 1949 = .ok (.ireturn, 1) := by decide +kernel
theorem dL_law__1950 : decode cL_law_ 1950 = .ok (.iload 5, 2) := by decide +kernel
theorem dL_law__1952 : decode cL_law_ 1952 = .ok (.ifCond .ne 15, 3) := by decide +kernel
theorem dL_law__1955 : decode cL_law_ 1955 = .ok (.aload_n 3, 1) := by decide +kernel
theorem dL_law__1956 : decode cL_law_ 1956 = .ok (.iconst 0, 1) := by decide +kernel
theorem dL_law__1957 : decode cL_law_ 1957 = .ok (.laload, 1) := by decide +kernel
theorem dL_law__1958 : decode cL_law_ 1958 = .ok (.iload 6, 2) := by decide +kernel
theorem dL_law__1960 : decode cL_law_ 1960 = .ok (.i2l, 1) := by decide +kernel
theorem dL_law__1961 : decode cL_law_ 1961 = .ok (.lcmp, 1) := by decide +kernel
theorem dL_law__1962 : decode cL_law_ 1962 = .ok (.ifCond .eq 5, 3) := by decide +kernel
theorem dL_law__1965 : decode cL_law_ 1965 = .ok (.iconst 0, 1) := by decide +kernel
theorem dL_law__1966 : decode cL_law_ 1966 = .ok (.ireturn, 1) := by decide +kernel
theorem dL_law__1967 : decode cL_law_ 1967 = .ok (.goto 632, 3) := by decide +kernel
/-! opcode 28 -/
noncomputable def fL_c28 (xs : Nat → Int32) (L : Nat) (V : VT) (ov : Nat → Int64) (u4 : Int32) : Option ((VT × (Nat → Int64) × Int32) ⊕ Int32) := rd_ (u4 + (1 : Int32)) L (lt_ (xs (u4 + (1 : Int32)).toNatClampNeg) fun z2 => if z2 = 0 then (ob_I (fX9_denied V (0 : Int32)) fun o3 V8 => ob_R (hL_denied o3 ov) fun qy5 => dt2_ qy5 fun y5 w4 => rd_ (u4 + (1 : Int32)) L (lt_ (xs (u4 + (1 : Int32)).toNatClampNeg) fun z10 => if z10 = 0 then (ob_I (fX10_denied V8 (0 : Int32)) fun y12 V13 => ob_R (fX10_thrown V13 ) fun y15 => if y15 = y5 then (if y5 = 0 then (if (lg_cmp (w4 ((0 : Int32).toNatClampNeg)) y12.toInt64) = 0 then (lt_ (u4 + (6 : Int32)) fun y17 => some (.inl (V13, w4, y17))) else (some (.inr (0 : Int32)))) else (lt_ (u4 + (6 : Int32)) fun y16 => some (.inl (V13, w4, y16)))) else (some (.inr (0 : Int32)))) else (ob_I (fX10_denied V8 (1 : Int32)) fun y22 V23 => ob_R (fX10_thrown V23 ) fun y25 => if y25 = y5 then (if y5 = 0 then (if (lg_cmp (w4 ((0 : Int32).toNatClampNeg)) y22.toInt64) = 0 then (lt_ (u4 + (6 : Int32)) fun y27 => some (.inl (V23, w4, y27))) else (some (.inr (0 : Int32)))) else (lt_ (u4 + (6 : Int32)) fun y26 => some (.inl (V23, w4, y26)))) else (some (.inr (0 : Int32)))))) else (ob_I (fX9_denied V (1 : Int32)) fun o32 V37 => ob_R (hL_denied o32 ov) fun qy34 => dt2_ qy34 fun y34 w33 => rd_ (u4 + (1 : Int32)) L (lt_ (xs (u4 + (1 : Int32)).toNatClampNeg) fun z39 => if z39 = 0 then (ob_I (fX10_denied V37 (0 : Int32)) fun y41 V42 => ob_R (fX10_thrown V42 ) fun y44 => if y44 = y34 then (if y34 = 0 then (if (lg_cmp (w33 ((0 : Int32).toNatClampNeg)) y41.toInt64) = 0 then (lt_ (u4 + (6 : Int32)) fun y46 => some (.inl (V42, w33, y46))) else (some (.inr (0 : Int32)))) else (lt_ (u4 + (6 : Int32)) fun y45 => some (.inl (V42, w33, y45)))) else (some (.inr (0 : Int32)))) else (ob_I (fX10_denied V37 (1 : Int32)) fun y51 V52 => ob_R (fX10_thrown V52 ) fun y54 => if y54 = y34 then (if y34 = 0 then (if (lg_cmp (w33 ((0 : Int32).toNatClampNeg)) y51.toInt64) = 0 then (lt_ (u4 + (6 : Int32)) fun y56 => some (.inl (V52, w33, y56))) else (some (.inr (0 : Int32)))) else (lt_ (u4 + (6 : Int32)) fun y55 => some (.inl (V52, w33, y55)))) else (some (.inr (0 : Int32)))))))
set_option maxHeartbeats 4000000 in
set_option maxRecDepth 100000 in
theorem wL_c28 {p : Program} {l : Launch} {e : Env} {s : State} {m : MethodId} {args : Array Value} {below : List Frame} {meth : Method} {c : Code} {G : GT} {Z : Nat → Nat × Nat} {oa b L : Nat} {xs : Nat → Int32} {Q : State → Prop} (E : EO p s m args c meth cL_law_ 7 RL (some .boolean) G (SH Z) oa) (ht : l.stackTraces = false) (hX : va_X b L xs s s.heap) (hbl : b < s.heap.size) (hbA : ¬ gO G oa s.heap.size b) (hL : L ≤ 3072) {C0 S0 : Nat} (hC0 : C0 ≤ 100000) (hS0 : S0 ≤ 1000000) {V : VT} {ov : Nat → Int64} {u4 : Int32} {r : ((VT × (Nat → Int64) × Int32) ⊕ Int32)} (h : fL_c28 xs L V ov u4 = some r) (k1 : ∀ y, r = .inr y → y = 1) (kc : ∀ (V2 : VT) (ov2 : Nat → Int64), r = .inl (V2, ov2, u4 + 6) → ∀ (H : Heap) (locs : List Loc) (ls : Array Slot) (cells slots : Nat), HO G oa s.heap (V2) (ov2) H locs → lv_has ls 7 [(0, .ref b), (1, .ref (G.2.2 0)), (2, .ref (G.2.2 22)), (3, .ref oa), (4, .int (u4 + 6))] → cells ≤ C0 + 3 → slots ≤ S0 + 18 → W p l e room_1 s m args below meth c H locs cells slots Q (F0 m 23 ls [])) {H : Heap} {locs : List Loc} {ls : Array Slot} {cells slots : Nat} (hw : HO G oa s.heap V ov H locs) (hl : lv_has ls 7 [(0, .ref b), (1, .ref (G.2.2 0)), (2, .ref (G.2.2 22)), (3, .ref oa), (4, .int u4)]) (hce : cells ≤ C0) (hsl : slots ≤ S0) : W p l e room_1 s m args below meth c H locs cells slots Q (F0 m 1898 ls []) := by
  have hx := E.1
  have hb := E.2.1
  have hfc : ∀ K : Nat, K ≤ 3 → cells + K ≤ room_1.cells ∧ slots + 6 * K ≤ room_1.slots := fun K hK => ⟨by show cells + K ≤ 601024; omega, by show slots + 6 * K ≤ 7293034; omega⟩
  have hf0 : ∀ {c9 s9 : Nat}, c9 ≤ C0 + 3 → s9 ≤ S0 + 18 → c9 ≤ room_1.cells ∧ s9 ≤ room_1.slots := fun h1 h2 => ⟨by show _ ≤ 601024; omega, by show _ ≤ 7293034; omega⟩
  unfold fL_c28 at h
  refine lv_aload_n hx hb dL_law__1898 rfl (lv_at hl 1 rfl) ?_
  refine lv_aload_n hx hb dL_law__1899 rfl (lv_at hl 0 rfl) ?_
  refine lv_iload hx hb dL_law__1900 (lv_at hl 4 rfl) ?_
  refine lv_iconst (v := (1 : Int32)) hx hb dL_law__1902 (by decide) ?_
  refine lv_iadd hx hb dL_law__1903 ?_
  obtain ⟨b1, h⟩ := rd_some h
  obtain ⟨z2, ez2, h⟩ := lt_some h
  refine va_sld hx hb hX hbl hbA hw.2.2 b1 dL_law__1904 ?_
  refine lv_eqi ez2 ?_
  refine lv_if_eq (tgt := 1912) hx hb dL_law__1905 (by decide) (fun c61 => ?_) (fun c61 => ?_)
  · rw [if_pos c61] at h
    refine lv_iconst (v := (0 : Int32)) hx hb dL_law__1912 (by decide) ?_
    refine lv_aload_n hx hb dL_law__1913 rfl (lv_at hl 3 rfl) ?_
    obtain ⟨o3, V8, h6, h⟩ := ob_I_some h
    obtain ⟨⟨y5, w4⟩, h7, h⟩ := ob_R_some h
    have h := dt2_eq h
    refine o_SH (n := 3) (As := [.ref (G.2.2 0), .int (0 : Int32), .ref oa]) E hw (kL_denied (l := l) (G := G) (Z := Z) (oa := oa) ht h6 h7) yw_L_denied lw_ini lm_RL_226 ⟨by decide, by decide, by decide +kernel⟩ rfl hl.1 (by decide) (hfc 1 (by decide)) (by decide) rfl (Nat.le_of_ble_eq_true rfl) dL_law__1914 (fun H locs hw => ?_)
    refine lv_istore (lv' := [(5, .int y5), (0, .ref b), (1, .ref (G.2.2 0)), (2, .ref (G.2.2 22)), (3, .ref oa), (4, .int u4)]) hx hb dL_law__1917 hl (by decide) rfl (fun ls hl => ?_)
    refine lv_aload_n hx hb dL_law__1919 rfl (lv_at hl 3 rfl) ?_
    refine lv_aload_n hx hb dL_law__1920 rfl (lv_at hl 1 rfl) ?_
    refine lv_iload hx hb dL_law__1921 (lv_at hl 5 rfl) ?_
    refine lv_iconst (v := (1 : Int32)) hx hb dL_law__1923 (by decide) ?_
    refine lv_iadd hx hb dL_law__1924 ?_
    obtain ⟨b9, h⟩ := rd_some h
    obtain ⟨z10, ez10, h⟩ := lt_some h
    refine va_sld hx hb hX hbl hbA hw.2.2 b9 dL_law__1925 ?_
    refine lv_eqi ez10 ?_
    refine lv_if_eq (tgt := 1933) hx hb dL_law__1926 (by decide) (fun c31 => ?_) (fun c31 => ?_)
    · rw [if_pos c31] at h
      refine lv_iconst (v := (0 : Int32)) hx hb dL_law__1933 (by decide) ?_
      obtain ⟨y12, V13, h11, h⟩ := ob_I_some h
      refine o_VI (As := [.int (0 : Int32)]) E hw (kX10_denied (l := l) (G := G) (SG_ok Z) h11) yy_X10_denied lm_RL_229 rfl (by decide) rfl rfl hl.1 (by decide) (hf0 (by omega) (by omega)) (by decide) rfl (Nat.le_of_ble_eq_true rfl) dL_law__1934 (fun H locs hw => ?_)
      refine lv_istore (lv' := [(6, .int y12), (5, .int y5), (0, .ref b), (1, .ref (G.2.2 0)), (2, .ref (G.2.2 22)), (3, .ref oa), (4, .int u4)]) hx hb dL_law__1937 hl (by decide) rfl (fun ls hl => ?_)
      refine lv_aload_n hx hb dL_law__1939 rfl (lv_at hl 4 rfl) ?_
      obtain ⟨y15, h14, h⟩ := ob_R_some h
      refine o_VI (As := []) E hw (kX10_thrown (l := l) (G := G) (SG_ok Z) h14) yy_X10_thrown lm_RL_141 rfl (by decide) rfl rfl hl.1 (by decide) (hf0 (by omega) (by omega)) (by decide) rfl (Nat.le_of_ble_eq_true rfl) dL_law__1940 (fun H locs hw => ?_)
      refine lv_iload hx hb dL_law__1943 (lv_at hl 1 rfl) ?_
      refine lv_icmp_eq (tgt := 1950) hx hb dL_law__1945 (by decide) (fun c20 => ?_) (fun c20 => ?_)
      · rw [if_pos c20] at h
        refine lv_iload hx hb dL_law__1950 (lv_at hl 1 rfl) ?_
        refine lv_if_ne (tgt := 1967) hx hb dL_law__1952 (by decide) (fun c19 => ?_) (fun c19 => ?_)
        · rw [if_neg c19] at h
          refine lv_goto (tgt := 2599) hx hb dL_law__1967 (by decide) ?_
          obtain ⟨y16, ey16, h⟩ := lt_some h
          refine lv_iinc (v := y16) (lv' := [(4, .int y16), (6, .int y12), (5, .int y5), (0, .ref b), (1, .ref (G.2.2 0)), (2, .ref (G.2.2 22)), (3, .ref oa)]) hx hb dL_law__2599 hl (k := 6) rfl (by rw [ey16]; rfl) (by decide) rfl (fun ls hl => ?_)
          refine lv_goto (tgt := 23) hx hb dL_law__2602 (by decide) ?_
          subst ey16
          exact kc V13 w4 (Option.some.inj h).symm H locs ls _ _ hw (lv_sub hl [3, 4, 5, 6, 0] rfl) (by omega) (by omega)
        · rw [if_pos c19] at h
          refine lv_aload_n hx hb dL_law__1955 rfl (lv_at hl 5 rfl) ?_
          refine lv_iconst (v := (0 : Int32)) hx hb dL_law__1956 (by decide) ?_
          refine o_ll E hw vp_0_1 dL_law__1957 ?_
          refine lv_iload hx hb dL_law__1958 (lv_at hl 0 rfl) ?_
          refine lv_i2l hx hb dL_law__1960 rfl ?_
          refine W.lcmp hx hb dL_law__1961 ?_
          refine lv_if_eq (tgt := 1967) hx hb dL_law__1962 (by decide) (fun c18 => ?_) (fun c18 => ?_)
          · rw [if_pos c18] at h
            refine lv_goto (tgt := 2599) hx hb dL_law__1967 (by decide) ?_
            obtain ⟨y17, ey17, h⟩ := lt_some h
            refine lv_iinc (v := y17) (lv' := [(4, .int y17), (6, .int y12), (5, .int y5), (0, .ref b), (1, .ref (G.2.2 0)), (2, .ref (G.2.2 22)), (3, .ref oa)]) hx hb dL_law__2599 hl (k := 6) rfl (by rw [ey17]; rfl) (by decide) rfl (fun ls hl => ?_)
            refine lv_goto (tgt := 23) hx hb dL_law__2602 (by decide) ?_
            subst ey17
            exact kc V13 w4 (Option.some.inj h).symm H locs ls _ _ hw (lv_sub hl [3, 4, 5, 6, 0] rfl) (by omega) (by omega)
          · rw [if_neg c18] at h
            refine lv_iconst (v := (0 : Int32)) hx hb dL_law__1965 (by decide) ?_
            exact absurd (k1 _ (Option.some.inj h).symm) (by decide)
      · rw [if_neg c20] at h
        refine lv_iconst (v := (0 : Int32)) hx hb dL_law__1948 (by decide) ?_
        exact absurd (k1 _ (Option.some.inj h).symm) (by decide)
    · rw [if_neg c31] at h
      refine lv_iconst (v := (1 : Int32)) hx hb dL_law__1929 (by decide) ?_
      refine lv_goto (tgt := 1934) hx hb dL_law__1930 (by decide) ?_
      obtain ⟨y22, V23, h21, h⟩ := ob_I_some h
      refine o_VI (As := [.int (1 : Int32)]) E hw (kX10_denied (l := l) (G := G) (SG_ok Z) h21) yy_X10_denied lm_RL_229 rfl (by decide) rfl rfl hl.1 (by decide) (hf0 (by omega) (by omega)) (by decide) rfl (Nat.le_of_ble_eq_true rfl) dL_law__1934 (fun H locs hw => ?_)
      refine lv_istore (lv' := [(6, .int y22), (5, .int y5), (0, .ref b), (1, .ref (G.2.2 0)), (2, .ref (G.2.2 22)), (3, .ref oa), (4, .int u4)]) hx hb dL_law__1937 hl (by decide) rfl (fun ls hl => ?_)
      refine lv_aload_n hx hb dL_law__1939 rfl (lv_at hl 4 rfl) ?_
      obtain ⟨y25, h24, h⟩ := ob_R_some h
      refine o_VI (As := []) E hw (kX10_thrown (l := l) (G := G) (SG_ok Z) h24) yy_X10_thrown lm_RL_141 rfl (by decide) rfl rfl hl.1 (by decide) (hf0 (by omega) (by omega)) (by decide) rfl (Nat.le_of_ble_eq_true rfl) dL_law__1940 (fun H locs hw => ?_)
      refine lv_iload hx hb dL_law__1943 (lv_at hl 1 rfl) ?_
      refine lv_icmp_eq (tgt := 1950) hx hb dL_law__1945 (by decide) (fun c30 => ?_) (fun c30 => ?_)
      · rw [if_pos c30] at h
        refine lv_iload hx hb dL_law__1950 (lv_at hl 1 rfl) ?_
        refine lv_if_ne (tgt := 1967) hx hb dL_law__1952 (by decide) (fun c29 => ?_) (fun c29 => ?_)
        · rw [if_neg c29] at h
          refine lv_goto (tgt := 2599) hx hb dL_law__1967 (by decide) ?_
          obtain ⟨y26, ey26, h⟩ := lt_some h
          refine lv_iinc (v := y26) (lv' := [(4, .int y26), (6, .int y22), (5, .int y5), (0, .ref b), (1, .ref (G.2.2 0)), (2, .ref (G.2.2 22)), (3, .ref oa)]) hx hb dL_law__2599 hl (k := 6) rfl (by rw [ey26]; rfl) (by decide) rfl (fun ls hl => ?_)
          refine lv_goto (tgt := 23) hx hb dL_law__2602 (by decide) ?_
          subst ey26
          exact kc V23 w4 (Option.some.inj h).symm H locs ls _ _ hw (lv_sub hl [3, 4, 5, 6, 0] rfl) (by omega) (by omega)
        · rw [if_pos c29] at h
          refine lv_aload_n hx hb dL_law__1955 rfl (lv_at hl 5 rfl) ?_
          refine lv_iconst (v := (0 : Int32)) hx hb dL_law__1956 (by decide) ?_
          refine o_ll E hw vp_0_1 dL_law__1957 ?_
          refine lv_iload hx hb dL_law__1958 (lv_at hl 0 rfl) ?_
          refine lv_i2l hx hb dL_law__1960 rfl ?_
          refine W.lcmp hx hb dL_law__1961 ?_
          refine lv_if_eq (tgt := 1967) hx hb dL_law__1962 (by decide) (fun c28 => ?_) (fun c28 => ?_)
          · rw [if_pos c28] at h
            refine lv_goto (tgt := 2599) hx hb dL_law__1967 (by decide) ?_
            obtain ⟨y27, ey27, h⟩ := lt_some h
            refine lv_iinc (v := y27) (lv' := [(4, .int y27), (6, .int y22), (5, .int y5), (0, .ref b), (1, .ref (G.2.2 0)), (2, .ref (G.2.2 22)), (3, .ref oa)]) hx hb dL_law__2599 hl (k := 6) rfl (by rw [ey27]; rfl) (by decide) rfl (fun ls hl => ?_)
            refine lv_goto (tgt := 23) hx hb dL_law__2602 (by decide) ?_
            subst ey27
            exact kc V23 w4 (Option.some.inj h).symm H locs ls _ _ hw (lv_sub hl [3, 4, 5, 6, 0] rfl) (by omega) (by omega)
          · rw [if_neg c28] at h
            refine lv_iconst (v := (0 : Int32)) hx hb dL_law__1965 (by decide) ?_
            exact absurd (k1 _ (Option.some.inj h).symm) (by decide)
      · rw [if_neg c30] at h
        refine lv_iconst (v := (0 : Int32)) hx hb dL_law__1948 (by decide) ?_
        exact absurd (k1 _ (Option.some.inj h).symm) (by decide)
  · rw [if_neg c61] at h
    refine lv_iconst (v := (1 : Int32)) hx hb dL_law__1908 (by decide) ?_
    refine lv_goto (tgt := 1913) hx hb dL_law__1909 (by decide) ?_
    refine lv_aload_n hx hb dL_law__1913 rfl (lv_at hl 3 rfl) ?_
    obtain ⟨o32, V37, h35, h⟩ := ob_I_some h
    obtain ⟨⟨y34, w33⟩, h36, h⟩ := ob_R_some h
    have h := dt2_eq h
    refine o_SH (n := 3) (As := [.ref (G.2.2 0), .int (1 : Int32), .ref oa]) E hw (kL_denied (l := l) (G := G) (Z := Z) (oa := oa) ht h35 h36) yw_L_denied lw_ini lm_RL_226 ⟨by decide, by decide, by decide +kernel⟩ rfl hl.1 (by decide) (hfc 1 (by decide)) (by decide) rfl (Nat.le_of_ble_eq_true rfl) dL_law__1914 (fun H locs hw => ?_)
    refine lv_istore (lv' := [(5, .int y34), (0, .ref b), (1, .ref (G.2.2 0)), (2, .ref (G.2.2 22)), (3, .ref oa), (4, .int u4)]) hx hb dL_law__1917 hl (by decide) rfl (fun ls hl => ?_)
    refine lv_aload_n hx hb dL_law__1919 rfl (lv_at hl 3 rfl) ?_
    refine lv_aload_n hx hb dL_law__1920 rfl (lv_at hl 1 rfl) ?_
    refine lv_iload hx hb dL_law__1921 (lv_at hl 5 rfl) ?_
    refine lv_iconst (v := (1 : Int32)) hx hb dL_law__1923 (by decide) ?_
    refine lv_iadd hx hb dL_law__1924 ?_
    obtain ⟨b38, h⟩ := rd_some h
    obtain ⟨z39, ez39, h⟩ := lt_some h
    refine va_sld hx hb hX hbl hbA hw.2.2 b38 dL_law__1925 ?_
    refine lv_eqi ez39 ?_
    refine lv_if_eq (tgt := 1933) hx hb dL_law__1926 (by decide) (fun c60 => ?_) (fun c60 => ?_)
    · rw [if_pos c60] at h
      refine lv_iconst (v := (0 : Int32)) hx hb dL_law__1933 (by decide) ?_
      obtain ⟨y41, V42, h40, h⟩ := ob_I_some h
      refine o_VI (As := [.int (0 : Int32)]) E hw (kX10_denied (l := l) (G := G) (SG_ok Z) h40) yy_X10_denied lm_RL_229 rfl (by decide) rfl rfl hl.1 (by decide) (hf0 (by omega) (by omega)) (by decide) rfl (Nat.le_of_ble_eq_true rfl) dL_law__1934 (fun H locs hw => ?_)
      refine lv_istore (lv' := [(6, .int y41), (5, .int y34), (0, .ref b), (1, .ref (G.2.2 0)), (2, .ref (G.2.2 22)), (3, .ref oa), (4, .int u4)]) hx hb dL_law__1937 hl (by decide) rfl (fun ls hl => ?_)
      refine lv_aload_n hx hb dL_law__1939 rfl (lv_at hl 4 rfl) ?_
      obtain ⟨y44, h43, h⟩ := ob_R_some h
      refine o_VI (As := []) E hw (kX10_thrown (l := l) (G := G) (SG_ok Z) h43) yy_X10_thrown lm_RL_141 rfl (by decide) rfl rfl hl.1 (by decide) (hf0 (by omega) (by omega)) (by decide) rfl (Nat.le_of_ble_eq_true rfl) dL_law__1940 (fun H locs hw => ?_)
      refine lv_iload hx hb dL_law__1943 (lv_at hl 1 rfl) ?_
      refine lv_icmp_eq (tgt := 1950) hx hb dL_law__1945 (by decide) (fun c49 => ?_) (fun c49 => ?_)
      · rw [if_pos c49] at h
        refine lv_iload hx hb dL_law__1950 (lv_at hl 1 rfl) ?_
        refine lv_if_ne (tgt := 1967) hx hb dL_law__1952 (by decide) (fun c48 => ?_) (fun c48 => ?_)
        · rw [if_neg c48] at h
          refine lv_goto (tgt := 2599) hx hb dL_law__1967 (by decide) ?_
          obtain ⟨y45, ey45, h⟩ := lt_some h
          refine lv_iinc (v := y45) (lv' := [(4, .int y45), (6, .int y41), (5, .int y34), (0, .ref b), (1, .ref (G.2.2 0)), (2, .ref (G.2.2 22)), (3, .ref oa)]) hx hb dL_law__2599 hl (k := 6) rfl (by rw [ey45]; rfl) (by decide) rfl (fun ls hl => ?_)
          refine lv_goto (tgt := 23) hx hb dL_law__2602 (by decide) ?_
          subst ey45
          exact kc V42 w33 (Option.some.inj h).symm H locs ls _ _ hw (lv_sub hl [3, 4, 5, 6, 0] rfl) (by omega) (by omega)
        · rw [if_pos c48] at h
          refine lv_aload_n hx hb dL_law__1955 rfl (lv_at hl 5 rfl) ?_
          refine lv_iconst (v := (0 : Int32)) hx hb dL_law__1956 (by decide) ?_
          refine o_ll E hw vp_0_1 dL_law__1957 ?_
          refine lv_iload hx hb dL_law__1958 (lv_at hl 0 rfl) ?_
          refine lv_i2l hx hb dL_law__1960 rfl ?_
          refine W.lcmp hx hb dL_law__1961 ?_
          refine lv_if_eq (tgt := 1967) hx hb dL_law__1962 (by decide) (fun c47 => ?_) (fun c47 => ?_)
          · rw [if_pos c47] at h
            refine lv_goto (tgt := 2599) hx hb dL_law__1967 (by decide) ?_
            obtain ⟨y46, ey46, h⟩ := lt_some h
            refine lv_iinc (v := y46) (lv' := [(4, .int y46), (6, .int y41), (5, .int y34), (0, .ref b), (1, .ref (G.2.2 0)), (2, .ref (G.2.2 22)), (3, .ref oa)]) hx hb dL_law__2599 hl (k := 6) rfl (by rw [ey46]; rfl) (by decide) rfl (fun ls hl => ?_)
            refine lv_goto (tgt := 23) hx hb dL_law__2602 (by decide) ?_
            subst ey46
            exact kc V42 w33 (Option.some.inj h).symm H locs ls _ _ hw (lv_sub hl [3, 4, 5, 6, 0] rfl) (by omega) (by omega)
          · rw [if_neg c47] at h
            refine lv_iconst (v := (0 : Int32)) hx hb dL_law__1965 (by decide) ?_
            exact absurd (k1 _ (Option.some.inj h).symm) (by decide)
      · rw [if_neg c49] at h
        refine lv_iconst (v := (0 : Int32)) hx hb dL_law__1948 (by decide) ?_
        exact absurd (k1 _ (Option.some.inj h).symm) (by decide)
    · rw [if_neg c60] at h
      refine lv_iconst (v := (1 : Int32)) hx hb dL_law__1929 (by decide) ?_
      refine lv_goto (tgt := 1934) hx hb dL_law__1930 (by decide) ?_
      obtain ⟨y51, V52, h50, h⟩ := ob_I_some h
      refine o_VI (As := [.int (1 : Int32)]) E hw (kX10_denied (l := l) (G := G) (SG_ok Z) h50) yy_X10_denied lm_RL_229 rfl (by decide) rfl rfl hl.1 (by decide) (hf0 (by omega) (by omega)) (by decide) rfl (Nat.le_of_ble_eq_true rfl) dL_law__1934 (fun H locs hw => ?_)
      refine lv_istore (lv' := [(6, .int y51), (5, .int y34), (0, .ref b), (1, .ref (G.2.2 0)), (2, .ref (G.2.2 22)), (3, .ref oa), (4, .int u4)]) hx hb dL_law__1937 hl (by decide) rfl (fun ls hl => ?_)
      refine lv_aload_n hx hb dL_law__1939 rfl (lv_at hl 4 rfl) ?_
      obtain ⟨y54, h53, h⟩ := ob_R_some h
      refine o_VI (As := []) E hw (kX10_thrown (l := l) (G := G) (SG_ok Z) h53) yy_X10_thrown lm_RL_141 rfl (by decide) rfl rfl hl.1 (by decide) (hf0 (by omega) (by omega)) (by decide) rfl (Nat.le_of_ble_eq_true rfl) dL_law__1940 (fun H locs hw => ?_)
      refine lv_iload hx hb dL_law__1943 (lv_at hl 1 rfl) ?_
      refine lv_icmp_eq (tgt := 1950) hx hb dL_law__1945 (by decide) (fun c59 => ?_) (fun c59 => ?_)
      · rw [if_pos c59] at h
        refine lv_iload hx hb dL_law__1950 (lv_at hl 1 rfl) ?_
        refine lv_if_ne (tgt := 1967) hx hb dL_law__1952 (by decide) (fun c58 => ?_) (fun c58 => ?_)
        · rw [if_neg c58] at h
          refine lv_goto (tgt := 2599) hx hb dL_law__1967 (by decide) ?_
          obtain ⟨y55, ey55, h⟩ := lt_some h
          refine lv_iinc (v := y55) (lv' := [(4, .int y55), (6, .int y51), (5, .int y34), (0, .ref b), (1, .ref (G.2.2 0)), (2, .ref (G.2.2 22)), (3, .ref oa)]) hx hb dL_law__2599 hl (k := 6) rfl (by rw [ey55]; rfl) (by decide) rfl (fun ls hl => ?_)
          refine lv_goto (tgt := 23) hx hb dL_law__2602 (by decide) ?_
          subst ey55
          exact kc V52 w33 (Option.some.inj h).symm H locs ls _ _ hw (lv_sub hl [3, 4, 5, 6, 0] rfl) (by omega) (by omega)
        · rw [if_pos c58] at h
          refine lv_aload_n hx hb dL_law__1955 rfl (lv_at hl 5 rfl) ?_
          refine lv_iconst (v := (0 : Int32)) hx hb dL_law__1956 (by decide) ?_
          refine o_ll E hw vp_0_1 dL_law__1957 ?_
          refine lv_iload hx hb dL_law__1958 (lv_at hl 0 rfl) ?_
          refine lv_i2l hx hb dL_law__1960 rfl ?_
          refine W.lcmp hx hb dL_law__1961 ?_
          refine lv_if_eq (tgt := 1967) hx hb dL_law__1962 (by decide) (fun c57 => ?_) (fun c57 => ?_)
          · rw [if_pos c57] at h
            refine lv_goto (tgt := 2599) hx hb dL_law__1967 (by decide) ?_
            obtain ⟨y56, ey56, h⟩ := lt_some h
            refine lv_iinc (v := y56) (lv' := [(4, .int y56), (6, .int y51), (5, .int y34), (0, .ref b), (1, .ref (G.2.2 0)), (2, .ref (G.2.2 22)), (3, .ref oa)]) hx hb dL_law__2599 hl (k := 6) rfl (by rw [ey56]; rfl) (by decide) rfl (fun ls hl => ?_)
            refine lv_goto (tgt := 23) hx hb dL_law__2602 (by decide) ?_
            subst ey56
            exact kc V52 w33 (Option.some.inj h).symm H locs ls _ _ hw (lv_sub hl [3, 4, 5, 6, 0] rfl) (by omega) (by omega)
          · rw [if_neg c57] at h
            refine lv_iconst (v := (0 : Int32)) hx hb dL_law__1965 (by decide) ?_
            exact absurd (k1 _ (Option.some.inj h).symm) (by decide)
      · rw [if_neg c59] at h
        refine lv_iconst (v := (0 : Int32)) hx hb dL_law__1948 (by decide) ?_
        exact absurd (k1 _ (Option.some.inj h).symm) (by decide)
theorem dL_law__1970 : decode cL_law_ 1970 = .ok (.aload_n 1, 1) := by decide +kernel
theorem dL_law__1971 : decode cL_law_ 1971 = .ok (.aload_n 3, 1) := by decide +kernel
theorem dL_law__1972 : decode cL_law_ 1972 = .ok (.invokestatic 230, 3) := by decide +kernel
theorem dL_law__1975 : decode cL_law_ 1975 = .ok (.istore 5, 2) := by decide +kernel
theorem dL_law__1977 : decode cL_law_ 1977 = .ok (.aload_n 2, 1) := by decide +kernel
theorem dL_law__1978 : decode cL_law_ 1978 = .ok (.invokevirtual 232, 3) := by decide +kernel
theorem dL_law__1981 : decode cL_law_ 1981 = .ok (.istore 6, 2) := by decide +kernel
theorem dL_law__1983 : decode cL_law_ 1983 = .ok (.aload_n 2, 1) := by decide +kernel
theorem dL_law__1984 : decode cL_law_ 1984 = .ok (.invokevirtual 141, 3) := by decide +kernel
theorem dL_law__1987 : decode cL_law_ 1987 = .ok (.iload 5, 2) := by decide +kernel
theorem dL_law__1989 : decode cL_law_ 1989 = .ok (.if_icmp .eq 5, 3) := by decide +kernel
theorem dL_law__1992 : decode cL_law_ 1992 = .ok (.iconst 0, 1) := by decide +kernel
theorem dL_law__1993 : decode cL_law_ 1993 = .ok (.ireturn, 1) := by decide +kernel
theorem dL_law__1994 : decode cL_law_ 1994 = .ok (.iload 5, 2) := by decide +kernel
theorem dL_law__1996 : decode cL_law_ 1996 = .ok (.ifCond .ne 15, 3) := by decide +kernel
theorem dL_law__1999 : decode cL_law_ 1999 = .ok (.aload_n 3, 1) := by decide +kernel
theorem dL_law__2000 : decode cL_law_ 2000 = .ok (.iconst 0, 1) := by decide +kernel
theorem dL_law__2001 : decode cL_law_ 2001 = .ok (.laload, 1) := by decide +kernel
theorem dL_law__2002 : decode cL_law_ 2002 = .ok (.iload 6, 2) := by decide +kernel
theorem dL_law__2004 : decode cL_law_ 2004 = .ok (.i2l, 1) := by decide +kernel
theorem dL_law__2005 : decode cL_law_ 2005 = .ok (.lcmp, 1) := by decide +kernel
theorem dL_law__2006 : decode cL_law_ 2006 = .ok (.ifCond .eq 5, 3) := by decide +kernel
theorem dL_law__2009 : decode cL_law_ 2009 = .ok (.iconst 0, 1) := by decide +kernel
theorem dL_law__2010 : decode cL_law_ 2010 = .ok (.ireturn, 1) := by decide +kernel
theorem dL_law__2011 : decode cL_law_ 2011 = .ok (.goto 588, 3) := by decide +kernel
/-! opcode 29 -/
noncomputable def fL_c29 (xs : Nat → Int32) (L : Nat) (V : VT) (ov : Nat → Int64) (u4 : Int32) : Option ((VT × (Nat → Int64) × Int32) ⊕ Int32) := ob_I (fX9_ask V ) fun o1 V6 => ob_R (hL_ask o1 ov) fun qy3 => dt2_ qy3 fun y3 w2 => ob_I (fX10_ask V6 ) fun y8 V9 => ob_R (fX10_thrown V9 ) fun y11 => if y11 = y3 then (if y3 = 0 then (if (lg_cmp (w2 ((0 : Int32).toNatClampNeg)) y8.toInt64) = 0 then (lt_ (u4 + (6 : Int32)) fun y13 => some (.inl (V9, w2, y13))) else (some (.inr (0 : Int32)))) else (lt_ (u4 + (6 : Int32)) fun y12 => some (.inl (V9, w2, y12)))) else (some (.inr (0 : Int32)))
set_option maxHeartbeats 4000000 in
set_option maxRecDepth 100000 in
theorem wL_c29 {p : Program} {l : Launch} {e : Env} {s : State} {m : MethodId} {args : Array Value} {below : List Frame} {meth : Method} {c : Code} {G : GT} {Z : Nat → Nat × Nat} {oa b L : Nat} {xs : Nat → Int32} {Q : State → Prop} (E : EO p s m args c meth cL_law_ 7 RL (some .boolean) G (SH Z) oa) (ht : l.stackTraces = false) (hX : va_X b L xs s s.heap) (hbl : b < s.heap.size) (hbA : ¬ gO G oa s.heap.size b) (hL : L ≤ 3072) {C0 S0 : Nat} (hC0 : C0 ≤ 100000) (hS0 : S0 ≤ 1000000) {V : VT} {ov : Nat → Int64} {u4 : Int32} {r : ((VT × (Nat → Int64) × Int32) ⊕ Int32)} (h : fL_c29 xs L V ov u4 = some r) (k1 : ∀ y, r = .inr y → y = 1) (kc : ∀ (V2 : VT) (ov2 : Nat → Int64), r = .inl (V2, ov2, u4 + 6) → ∀ (H : Heap) (locs : List Loc) (ls : Array Slot) (cells slots : Nat), HO G oa s.heap (V2) (ov2) H locs → lv_has ls 7 [(0, .ref b), (1, .ref (G.2.2 0)), (2, .ref (G.2.2 22)), (3, .ref oa), (4, .int (u4 + 6))] → cells ≤ C0 + 3 → slots ≤ S0 + 18 → W p l e room_1 s m args below meth c H locs cells slots Q (F0 m 23 ls [])) {H : Heap} {locs : List Loc} {ls : Array Slot} {cells slots : Nat} (hw : HO G oa s.heap V ov H locs) (hl : lv_has ls 7 [(0, .ref b), (1, .ref (G.2.2 0)), (2, .ref (G.2.2 22)), (3, .ref oa), (4, .int u4)]) (hce : cells ≤ C0) (hsl : slots ≤ S0) : W p l e room_1 s m args below meth c H locs cells slots Q (F0 m 1970 ls []) := by
  have hx := E.1
  have hb := E.2.1
  have hfc : ∀ K : Nat, K ≤ 3 → cells + K ≤ room_1.cells ∧ slots + 6 * K ≤ room_1.slots := fun K hK => ⟨by show cells + K ≤ 601024; omega, by show slots + 6 * K ≤ 7293034; omega⟩
  have hf0 : ∀ {c9 s9 : Nat}, c9 ≤ C0 + 3 → s9 ≤ S0 + 18 → c9 ≤ room_1.cells ∧ s9 ≤ room_1.slots := fun h1 h2 => ⟨by show _ ≤ 601024; omega, by show _ ≤ 7293034; omega⟩
  unfold fL_c29 at h
  refine lv_aload_n hx hb dL_law__1970 rfl (lv_at hl 1 rfl) ?_
  refine lv_aload_n hx hb dL_law__1971 rfl (lv_at hl 3 rfl) ?_
  obtain ⟨o1, V6, h4, h⟩ := ob_I_some h
  obtain ⟨⟨y3, w2⟩, h5, h⟩ := ob_R_some h
  have h := dt2_eq h
  refine o_SH (n := 2) (As := [.ref (G.2.2 0), .ref oa]) E hw (kL_ask (l := l) (G := G) (Z := Z) (oa := oa) ht h4 h5) yw_L_ask lw_ini lm_RL_230 ⟨by decide, by decide, by decide +kernel⟩ rfl hl.1 (by decide) (hfc 1 (by decide)) (by decide) rfl (Nat.le_of_ble_eq_true rfl) dL_law__1972 (fun H locs hw => ?_)
  refine lv_istore (lv' := [(5, .int y3), (0, .ref b), (1, .ref (G.2.2 0)), (2, .ref (G.2.2 22)), (3, .ref oa), (4, .int u4)]) hx hb dL_law__1975 hl (by decide) rfl (fun ls hl => ?_)
  refine lv_aload_n hx hb dL_law__1977 rfl (lv_at hl 3 rfl) ?_
  obtain ⟨y8, V9, h7, h⟩ := ob_I_some h
  refine o_VI (As := []) E hw (kX10_ask (l := l) (G := G) (SG_ok Z) h7) yy_X10_ask lm_RL_232 rfl (by decide) rfl rfl hl.1 (by decide) (hf0 (by omega) (by omega)) (by decide) rfl (Nat.le_of_ble_eq_true rfl) dL_law__1978 (fun H locs hw => ?_)
  refine lv_istore (lv' := [(6, .int y8), (5, .int y3), (0, .ref b), (1, .ref (G.2.2 0)), (2, .ref (G.2.2 22)), (3, .ref oa), (4, .int u4)]) hx hb dL_law__1981 hl (by decide) rfl (fun ls hl => ?_)
  refine lv_aload_n hx hb dL_law__1983 rfl (lv_at hl 4 rfl) ?_
  obtain ⟨y11, h10, h⟩ := ob_R_some h
  refine o_VI (As := []) E hw (kX10_thrown (l := l) (G := G) (SG_ok Z) h10) yy_X10_thrown lm_RL_141 rfl (by decide) rfl rfl hl.1 (by decide) (hf0 (by omega) (by omega)) (by decide) rfl (Nat.le_of_ble_eq_true rfl) dL_law__1984 (fun H locs hw => ?_)
  refine lv_iload hx hb dL_law__1987 (lv_at hl 1 rfl) ?_
  refine lv_icmp_eq (tgt := 1994) hx hb dL_law__1989 (by decide) (fun c16 => ?_) (fun c16 => ?_)
  · rw [if_pos c16] at h
    refine lv_iload hx hb dL_law__1994 (lv_at hl 1 rfl) ?_
    refine lv_if_ne (tgt := 2011) hx hb dL_law__1996 (by decide) (fun c15 => ?_) (fun c15 => ?_)
    · rw [if_neg c15] at h
      refine lv_goto (tgt := 2599) hx hb dL_law__2011 (by decide) ?_
      obtain ⟨y12, ey12, h⟩ := lt_some h
      refine lv_iinc (v := y12) (lv' := [(4, .int y12), (6, .int y8), (5, .int y3), (0, .ref b), (1, .ref (G.2.2 0)), (2, .ref (G.2.2 22)), (3, .ref oa)]) hx hb dL_law__2599 hl (k := 6) rfl (by rw [ey12]; rfl) (by decide) rfl (fun ls hl => ?_)
      refine lv_goto (tgt := 23) hx hb dL_law__2602 (by decide) ?_
      subst ey12
      exact kc V9 w2 (Option.some.inj h).symm H locs ls _ _ hw (lv_sub hl [3, 4, 5, 6, 0] rfl) (by omega) (by omega)
    · rw [if_pos c15] at h
      refine lv_aload_n hx hb dL_law__1999 rfl (lv_at hl 5 rfl) ?_
      refine lv_iconst (v := (0 : Int32)) hx hb dL_law__2000 (by decide) ?_
      refine o_ll E hw vp_0_1 dL_law__2001 ?_
      refine lv_iload hx hb dL_law__2002 (lv_at hl 0 rfl) ?_
      refine lv_i2l hx hb dL_law__2004 rfl ?_
      refine W.lcmp hx hb dL_law__2005 ?_
      refine lv_if_eq (tgt := 2011) hx hb dL_law__2006 (by decide) (fun c14 => ?_) (fun c14 => ?_)
      · rw [if_pos c14] at h
        refine lv_goto (tgt := 2599) hx hb dL_law__2011 (by decide) ?_
        obtain ⟨y13, ey13, h⟩ := lt_some h
        refine lv_iinc (v := y13) (lv' := [(4, .int y13), (6, .int y8), (5, .int y3), (0, .ref b), (1, .ref (G.2.2 0)), (2, .ref (G.2.2 22)), (3, .ref oa)]) hx hb dL_law__2599 hl (k := 6) rfl (by rw [ey13]; rfl) (by decide) rfl (fun ls hl => ?_)
        refine lv_goto (tgt := 23) hx hb dL_law__2602 (by decide) ?_
        subst ey13
        exact kc V9 w2 (Option.some.inj h).symm H locs ls _ _ hw (lv_sub hl [3, 4, 5, 6, 0] rfl) (by omega) (by omega)
      · rw [if_neg c14] at h
        refine lv_iconst (v := (0 : Int32)) hx hb dL_law__2009 (by decide) ?_
        exact absurd (k1 _ (Option.some.inj h).symm) (by decide)
  · rw [if_neg c16] at h
    refine lv_iconst (v := (0 : Int32)) hx hb dL_law__1992 (by decide) ?_
    exact absurd (k1 _ (Option.some.inj h).symm) (by decide)
theorem dL_law__2014 : decode cL_law_ 2014 = .ok (.aload_n 1, 1) := by decide +kernel
theorem dL_law__2015 : decode cL_law_ 2015 = .ok (.invokevirtual 233, 3) := by decide +kernel
theorem dL_law__2018 : decode cL_law_ 2018 = .ok (.aload_n 2, 1) := by decide +kernel
theorem dL_law__2019 : decode cL_law_ 2019 = .ok (.invokevirtual 236, 3) := by decide +kernel
theorem dL_law__2022 : decode cL_law_ 2022 = .ok (.if_icmp .eq 577, 3) := by decide +kernel
theorem dL_law__2025 : decode cL_law_ 2025 = .ok (.iconst 0, 1) := by decide +kernel
theorem dL_law__2026 : decode cL_law_ 2026 = .ok (.ireturn, 1) := by decide +kernel
/-! opcode 30 -/
noncomputable def fL_c30 (xs : Nat → Int32) (L : Nat) (V : VT) (ov : Nat → Int64) (u4 : Int32) : Option ((VT × (Nat → Int64) × Int32) ⊕ Int32) := ob_I (fX9_twins V ) fun y2 V3 => ob_I (fX10_twins V3 ) fun y5 V6 => if y2 = y5 then (lt_ (u4 + (6 : Int32)) fun y7 => some (.inl (V6, ov, y7))) else (some (.inr (0 : Int32)))
set_option maxHeartbeats 4000000 in
set_option maxRecDepth 100000 in
theorem wL_c30 {p : Program} {l : Launch} {e : Env} {s : State} {m : MethodId} {args : Array Value} {below : List Frame} {meth : Method} {c : Code} {G : GT} {Z : Nat → Nat × Nat} {oa b L : Nat} {xs : Nat → Int32} {Q : State → Prop} (E : EO p s m args c meth cL_law_ 7 RL (some .boolean) G (SH Z) oa) (ht : l.stackTraces = false) (hX : va_X b L xs s s.heap) (hbl : b < s.heap.size) (hbA : ¬ gO G oa s.heap.size b) (hL : L ≤ 3072) {C0 S0 : Nat} (hC0 : C0 ≤ 100000) (hS0 : S0 ≤ 1000000) {V : VT} {ov : Nat → Int64} {u4 : Int32} {r : ((VT × (Nat → Int64) × Int32) ⊕ Int32)} (h : fL_c30 xs L V ov u4 = some r) (k1 : ∀ y, r = .inr y → y = 1) (kc : ∀ (V2 : VT) (ov2 : Nat → Int64), r = .inl (V2, ov2, u4 + 6) → ∀ (H : Heap) (locs : List Loc) (ls : Array Slot) (cells slots : Nat), HO G oa s.heap (V2) (ov2) H locs → lv_has ls 7 [(0, .ref b), (1, .ref (G.2.2 0)), (2, .ref (G.2.2 22)), (3, .ref oa), (4, .int (u4 + 6))] → cells ≤ C0 + 3 → slots ≤ S0 + 18 → W p l e room_1 s m args below meth c H locs cells slots Q (F0 m 23 ls [])) {H : Heap} {locs : List Loc} {ls : Array Slot} {cells slots : Nat} (hw : HO G oa s.heap V ov H locs) (hl : lv_has ls 7 [(0, .ref b), (1, .ref (G.2.2 0)), (2, .ref (G.2.2 22)), (3, .ref oa), (4, .int u4)]) (hce : cells ≤ C0) (hsl : slots ≤ S0) : W p l e room_1 s m args below meth c H locs cells slots Q (F0 m 2014 ls []) := by
  have hx := E.1
  have hb := E.2.1
  have hfc : ∀ K : Nat, K ≤ 3 → cells + K ≤ room_1.cells ∧ slots + 6 * K ≤ room_1.slots := fun K hK => ⟨by show cells + K ≤ 601024; omega, by show slots + 6 * K ≤ 7293034; omega⟩
  have hf0 : ∀ {c9 s9 : Nat}, c9 ≤ C0 + 3 → s9 ≤ S0 + 18 → c9 ≤ room_1.cells ∧ s9 ≤ room_1.slots := fun h1 h2 => ⟨by show _ ≤ 601024; omega, by show _ ≤ 7293034; omega⟩
  unfold fL_c30 at h
  refine lv_aload_n hx hb dL_law__2014 rfl (lv_at hl 1 rfl) ?_
  obtain ⟨y2, V3, h1, h⟩ := ob_I_some h
  refine o_VI (As := []) E hw (kX9_twins (l := l) (G := G) (SG_ok Z) h1) yy_X9_twins lm_RL_233 rfl (by decide) rfl rfl hl.1 (by decide) (hf0 (by omega) (by omega)) (by decide) rfl (Nat.le_of_ble_eq_true rfl) dL_law__2015 (fun H locs hw => ?_)
  refine lv_aload_n hx hb dL_law__2018 rfl (lv_at hl 2 rfl) ?_
  obtain ⟨y5, V6, h4, h⟩ := ob_I_some h
  refine o_VI (As := []) E hw (kX10_twins (l := l) (G := G) (SG_ok Z) h4) yy_X10_twins lm_RL_236 rfl (by decide) rfl rfl hl.1 (by decide) (hf0 (by omega) (by omega)) (by decide) rfl (Nat.le_of_ble_eq_true rfl) dL_law__2019 (fun H locs hw => ?_)
  refine lv_icmp_eq (tgt := 2599) hx hb dL_law__2022 (by decide) (fun c8 => ?_) (fun c8 => ?_)
  · rw [if_pos c8] at h
    obtain ⟨y7, ey7, h⟩ := lt_some h
    refine lv_iinc (v := y7) (lv' := [(4, .int y7), (0, .ref b), (1, .ref (G.2.2 0)), (2, .ref (G.2.2 22)), (3, .ref oa)]) hx hb dL_law__2599 hl (k := 4) rfl (by rw [ey7]; rfl) (by decide) rfl (fun ls hl => ?_)
    refine lv_goto (tgt := 23) hx hb dL_law__2602 (by decide) ?_
    subst ey7
    exact kc V6 ov (Option.some.inj h).symm H locs ls _ _ hw (lv_sub hl [1, 2, 3, 4, 0] rfl) (by omega) (by omega)
  · rw [if_neg c8] at h
    refine lv_iconst (v := (0 : Int32)) hx hb dL_law__2025 (by decide) ?_
    exact absurd (k1 _ (Option.some.inj h).symm) (by decide)
theorem dL_law__2027 : decode cL_law_ 2027 = .ok (.aload_n 1, 1) := by decide +kernel
theorem dL_law__2028 : decode cL_law_ 2028 = .ok (.aload_n 0, 1) := by decide +kernel
theorem dL_law__2029 : decode cL_law_ 2029 = .ok (.iload 4, 2) := by decide +kernel
theorem dL_law__2031 : decode cL_law_ 2031 = .ok (.iconst 1, 1) := by decide +kernel
theorem dL_law__2032 : decode cL_law_ 2032 = .ok (.iadd, 1) := by decide +kernel
theorem dL_law__2033 : decode cL_law_ 2033 = .ok (.iaload, 1) := by decide +kernel
theorem dL_law__2034 : decode cL_law_ 2034 = .ok (.aload_n 3, 1) := by decide +kernel
theorem dL_law__2035 : decode cL_law_ 2035 = .ok (.invokestatic 237, 3) := by decide +kernel
theorem dL_law__2038 : decode cL_law_ 2038 = .ok (.istore 5, 2) := by decide +kernel
theorem dL_law__2040 : decode cL_law_ 2040 = .ok (.aload_n 2, 1) := by decide +kernel
theorem dL_law__2041 : decode cL_law_ 2041 = .ok (.aload_n 0, 1) := by decide +kernel
theorem dL_law__2042 : decode cL_law_ 2042 = .ok (.iload 4, 2) := by decide +kernel
theorem dL_law__2044 : decode cL_law_ 2044 = .ok (.iconst 1, 1) := by decide +kernel
theorem dL_law__2045 : decode cL_law_ 2045 = .ok (.iadd, 1) := by decide +kernel
theorem dL_law__2046 : decode cL_law_ 2046 = .ok (.iaload, 1) := by decide +kernel
theorem dL_law__2047 : decode cL_law_ 2047 = .ok (.invokevirtual 239, 3) := by decide +kernel
theorem dL_law__2050 : decode cL_law_ 2050 = .ok (.istore 6, 2) := by decide +kernel
theorem dL_law__2052 : decode cL_law_ 2052 = .ok (.aload_n 2, 1) := by decide +kernel
theorem dL_law__2053 : decode cL_law_ 2053 = .ok (.invokevirtual 141, 3) := by decide +kernel
theorem dL_law__2056 : decode cL_law_ 2056 = .ok (.iload 5, 2) := by decide +kernel
theorem dL_law__2058 : decode cL_law_ 2058 = .ok (.if_icmp .eq 5, 3) := by decide +kernel
theorem dL_law__2061 : decode cL_law_ 2061 = .ok (.iconst 0, 1) := by decide +kernel
theorem dL_law__2062 : decode cL_law_ 2062 = .ok (.ireturn, 1) := by decide +kernel
theorem dL_law__2063 : decode cL_law_ 2063 = .ok (.iload 5, 2) := by decide +kernel
theorem dL_law__2065 : decode cL_law_ 2065 = .ok (.ifCond .ne 15, 3) := by decide +kernel
theorem dL_law__2068 : decode cL_law_ 2068 = .ok (.aload_n 3, 1) := by decide +kernel
theorem dL_law__2069 : decode cL_law_ 2069 = .ok (.iconst 0, 1) := by decide +kernel
theorem dL_law__2070 : decode cL_law_ 2070 = .ok (.laload, 1) := by decide +kernel
theorem dL_law__2071 : decode cL_law_ 2071 = .ok (.iload 6, 2) := by decide +kernel
theorem dL_law__2073 : decode cL_law_ 2073 = .ok (.i2l, 1) := by decide +kernel
theorem dL_law__2074 : decode cL_law_ 2074 = .ok (.lcmp, 1) := by decide +kernel
theorem dL_law__2075 : decode cL_law_ 2075 = .ok (.ifCond .eq 5, 3) := by decide +kernel
theorem dL_law__2078 : decode cL_law_ 2078 = .ok (.iconst 0, 1) := by decide +kernel
theorem dL_law__2079 : decode cL_law_ 2079 = .ok (.ireturn, 1) := by decide +kernel
theorem dL_law__2080 : decode cL_law_ 2080 = .ok (.goto 519, 3) := by decide +kernel
/-! opcode 31 -/
noncomputable def fL_c31 (xs : Nat → Int32) (L : Nat) (V : VT) (ov : Nat → Int64) (u4 : Int32) : Option ((VT × (Nat → Int64) × Int32) ⊕ Int32) := rd_ (u4 + (1 : Int32)) L (lt_ (xs (u4 + (1 : Int32)).toNatClampNeg) fun z2 => ob_I (fX9_eyes V z2) fun o3 V8 => ob_R (hL_eyes o3 ov) fun qy5 => dt2_ qy5 fun y5 w4 => rd_ (u4 + (1 : Int32)) L (lt_ (xs (u4 + (1 : Int32)).toNatClampNeg) fun z10 => ob_I (fX10_eyes V8 z10) fun y12 V13 => ob_R (fX10_thrown V13 ) fun y15 => if y15 = y5 then (if y5 = 0 then (if (lg_cmp (w4 ((0 : Int32).toNatClampNeg)) y12.toInt64) = 0 then (lt_ (u4 + (6 : Int32)) fun y17 => some (.inl (V13, w4, y17))) else (some (.inr (0 : Int32)))) else (lt_ (u4 + (6 : Int32)) fun y16 => some (.inl (V13, w4, y16)))) else (some (.inr (0 : Int32)))))
set_option maxHeartbeats 4000000 in
set_option maxRecDepth 100000 in
theorem wL_c31 {p : Program} {l : Launch} {e : Env} {s : State} {m : MethodId} {args : Array Value} {below : List Frame} {meth : Method} {c : Code} {G : GT} {Z : Nat → Nat × Nat} {oa b L : Nat} {xs : Nat → Int32} {Q : State → Prop} (E : EO p s m args c meth cL_law_ 7 RL (some .boolean) G (SH Z) oa) (ht : l.stackTraces = false) (hX : va_X b L xs s s.heap) (hbl : b < s.heap.size) (hbA : ¬ gO G oa s.heap.size b) (hL : L ≤ 3072) {C0 S0 : Nat} (hC0 : C0 ≤ 100000) (hS0 : S0 ≤ 1000000) {V : VT} {ov : Nat → Int64} {u4 : Int32} {r : ((VT × (Nat → Int64) × Int32) ⊕ Int32)} (h : fL_c31 xs L V ov u4 = some r) (k1 : ∀ y, r = .inr y → y = 1) (kc : ∀ (V2 : VT) (ov2 : Nat → Int64), r = .inl (V2, ov2, u4 + 6) → ∀ (H : Heap) (locs : List Loc) (ls : Array Slot) (cells slots : Nat), HO G oa s.heap (V2) (ov2) H locs → lv_has ls 7 [(0, .ref b), (1, .ref (G.2.2 0)), (2, .ref (G.2.2 22)), (3, .ref oa), (4, .int (u4 + 6))] → cells ≤ C0 + 3 → slots ≤ S0 + 18 → W p l e room_1 s m args below meth c H locs cells slots Q (F0 m 23 ls [])) {H : Heap} {locs : List Loc} {ls : Array Slot} {cells slots : Nat} (hw : HO G oa s.heap V ov H locs) (hl : lv_has ls 7 [(0, .ref b), (1, .ref (G.2.2 0)), (2, .ref (G.2.2 22)), (3, .ref oa), (4, .int u4)]) (hce : cells ≤ C0) (hsl : slots ≤ S0) : W p l e room_1 s m args below meth c H locs cells slots Q (F0 m 2027 ls []) := by
  have hx := E.1
  have hb := E.2.1
  have hfc : ∀ K : Nat, K ≤ 3 → cells + K ≤ room_1.cells ∧ slots + 6 * K ≤ room_1.slots := fun K hK => ⟨by show cells + K ≤ 601024; omega, by show slots + 6 * K ≤ 7293034; omega⟩
  have hf0 : ∀ {c9 s9 : Nat}, c9 ≤ C0 + 3 → s9 ≤ S0 + 18 → c9 ≤ room_1.cells ∧ s9 ≤ room_1.slots := fun h1 h2 => ⟨by show _ ≤ 601024; omega, by show _ ≤ 7293034; omega⟩
  unfold fL_c31 at h
  refine lv_aload_n hx hb dL_law__2027 rfl (lv_at hl 1 rfl) ?_
  refine lv_aload_n hx hb dL_law__2028 rfl (lv_at hl 0 rfl) ?_
  refine lv_iload hx hb dL_law__2029 (lv_at hl 4 rfl) ?_
  refine lv_iconst (v := (1 : Int32)) hx hb dL_law__2031 (by decide) ?_
  refine lv_iadd hx hb dL_law__2032 ?_
  obtain ⟨b1, h⟩ := rd_some h
  obtain ⟨z2, ez2, h⟩ := lt_some h
  refine va_sld hx hb hX hbl hbA hw.2.2 b1 dL_law__2033 ?_
  refine lv_eqi ez2 ?_
  refine lv_aload_n hx hb dL_law__2034 rfl (lv_at hl 3 rfl) ?_
  obtain ⟨o3, V8, h6, h⟩ := ob_I_some h
  obtain ⟨⟨y5, w4⟩, h7, h⟩ := ob_R_some h
  have h := dt2_eq h
  refine o_SH (n := 3) (As := [.ref (G.2.2 0), .int z2, .ref oa]) E hw (kL_eyes (l := l) (G := G) (Z := Z) (oa := oa) ht h6 h7) yw_L_eyes lw_ini lm_RL_237 ⟨by decide, by decide, by decide +kernel⟩ rfl hl.1 (by decide) (hfc 1 (by decide)) (by decide) rfl (Nat.le_of_ble_eq_true rfl) dL_law__2035 (fun H locs hw => ?_)
  refine lv_istore (lv' := [(5, .int y5), (0, .ref b), (1, .ref (G.2.2 0)), (2, .ref (G.2.2 22)), (3, .ref oa), (4, .int u4)]) hx hb dL_law__2038 hl (by decide) rfl (fun ls hl => ?_)
  refine lv_aload_n hx hb dL_law__2040 rfl (lv_at hl 3 rfl) ?_
  refine lv_aload_n hx hb dL_law__2041 rfl (lv_at hl 1 rfl) ?_
  refine lv_iload hx hb dL_law__2042 (lv_at hl 5 rfl) ?_
  refine lv_iconst (v := (1 : Int32)) hx hb dL_law__2044 (by decide) ?_
  refine lv_iadd hx hb dL_law__2045 ?_
  obtain ⟨b9, h⟩ := rd_some h
  obtain ⟨z10, ez10, h⟩ := lt_some h
  refine va_sld hx hb hX hbl hbA hw.2.2 b9 dL_law__2046 ?_
  refine lv_eqi ez10 ?_
  obtain ⟨y12, V13, h11, h⟩ := ob_I_some h
  refine o_VI (As := [.int z10]) E hw (kX10_eyes (l := l) (G := G) (SG_ok Z) h11) yy_X10_eyes lm_RL_239 rfl (by decide) rfl rfl hl.1 (by decide) (hf0 (by omega) (by omega)) (by decide) rfl (Nat.le_of_ble_eq_true rfl) dL_law__2047 (fun H locs hw => ?_)
  refine lv_istore (lv' := [(6, .int y12), (5, .int y5), (0, .ref b), (1, .ref (G.2.2 0)), (2, .ref (G.2.2 22)), (3, .ref oa), (4, .int u4)]) hx hb dL_law__2050 hl (by decide) rfl (fun ls hl => ?_)
  refine lv_aload_n hx hb dL_law__2052 rfl (lv_at hl 4 rfl) ?_
  obtain ⟨y15, h14, h⟩ := ob_R_some h
  refine o_VI (As := []) E hw (kX10_thrown (l := l) (G := G) (SG_ok Z) h14) yy_X10_thrown lm_RL_141 rfl (by decide) rfl rfl hl.1 (by decide) (hf0 (by omega) (by omega)) (by decide) rfl (Nat.le_of_ble_eq_true rfl) dL_law__2053 (fun H locs hw => ?_)
  refine lv_iload hx hb dL_law__2056 (lv_at hl 1 rfl) ?_
  refine lv_icmp_eq (tgt := 2063) hx hb dL_law__2058 (by decide) (fun c20 => ?_) (fun c20 => ?_)
  · rw [if_pos c20] at h
    refine lv_iload hx hb dL_law__2063 (lv_at hl 1 rfl) ?_
    refine lv_if_ne (tgt := 2080) hx hb dL_law__2065 (by decide) (fun c19 => ?_) (fun c19 => ?_)
    · rw [if_neg c19] at h
      refine lv_goto (tgt := 2599) hx hb dL_law__2080 (by decide) ?_
      obtain ⟨y16, ey16, h⟩ := lt_some h
      refine lv_iinc (v := y16) (lv' := [(4, .int y16), (6, .int y12), (5, .int y5), (0, .ref b), (1, .ref (G.2.2 0)), (2, .ref (G.2.2 22)), (3, .ref oa)]) hx hb dL_law__2599 hl (k := 6) rfl (by rw [ey16]; rfl) (by decide) rfl (fun ls hl => ?_)
      refine lv_goto (tgt := 23) hx hb dL_law__2602 (by decide) ?_
      subst ey16
      exact kc V13 w4 (Option.some.inj h).symm H locs ls _ _ hw (lv_sub hl [3, 4, 5, 6, 0] rfl) (by omega) (by omega)
    · rw [if_pos c19] at h
      refine lv_aload_n hx hb dL_law__2068 rfl (lv_at hl 5 rfl) ?_
      refine lv_iconst (v := (0 : Int32)) hx hb dL_law__2069 (by decide) ?_
      refine o_ll E hw vp_0_1 dL_law__2070 ?_
      refine lv_iload hx hb dL_law__2071 (lv_at hl 0 rfl) ?_
      refine lv_i2l hx hb dL_law__2073 rfl ?_
      refine W.lcmp hx hb dL_law__2074 ?_
      refine lv_if_eq (tgt := 2080) hx hb dL_law__2075 (by decide) (fun c18 => ?_) (fun c18 => ?_)
      · rw [if_pos c18] at h
        refine lv_goto (tgt := 2599) hx hb dL_law__2080 (by decide) ?_
        obtain ⟨y17, ey17, h⟩ := lt_some h
        refine lv_iinc (v := y17) (lv' := [(4, .int y17), (6, .int y12), (5, .int y5), (0, .ref b), (1, .ref (G.2.2 0)), (2, .ref (G.2.2 22)), (3, .ref oa)]) hx hb dL_law__2599 hl (k := 6) rfl (by rw [ey17]; rfl) (by decide) rfl (fun ls hl => ?_)
        refine lv_goto (tgt := 23) hx hb dL_law__2602 (by decide) ?_
        subst ey17
        exact kc V13 w4 (Option.some.inj h).symm H locs ls _ _ hw (lv_sub hl [3, 4, 5, 6, 0] rfl) (by omega) (by omega)
      · rw [if_neg c18] at h
        refine lv_iconst (v := (0 : Int32)) hx hb dL_law__2078 (by decide) ?_
        exact absurd (k1 _ (Option.some.inj h).symm) (by decide)
  · rw [if_neg c20] at h
    refine lv_iconst (v := (0 : Int32)) hx hb dL_law__2061 (by decide) ?_
    exact absurd (k1 _ (Option.some.inj h).symm) (by decide)
theorem dL_law__2083 : decode cL_law_ 2083 = .ok (.aload_n 1, 1) := by decide +kernel
theorem dL_law__2084 : decode cL_law_ 2084 = .ok (.aload_n 0, 1) := by decide +kernel
theorem dL_law__2085 : decode cL_law_ 2085 = .ok (.iload 4, 2) := by decide +kernel
theorem dL_law__2087 : decode cL_law_ 2087 = .ok (.iconst 1, 1) := by decide +kernel
theorem dL_law__2088 : decode cL_law_ 2088 = .ok (.iadd, 1) := by decide +kernel
theorem dL_law__2089 : decode cL_law_ 2089 = .ok (.iaload, 1) := by decide +kernel
theorem dL_law__2090 : decode cL_law_ 2090 = .ok (.aload_n 0, 1) := by decide +kernel
theorem dL_law__2091 : decode cL_law_ 2091 = .ok (.iload 4, 2) := by decide +kernel
theorem dL_law__2093 : decode cL_law_ 2093 = .ok (.iconst 2, 1) := by decide +kernel
theorem dL_law__2094 : decode cL_law_ 2094 = .ok (.iadd, 1) := by decide +kernel
theorem dL_law__2095 : decode cL_law_ 2095 = .ok (.iaload, 1) := by decide +kernel
theorem dL_law__2096 : decode cL_law_ 2096 = .ok (.aload_n 3, 1) := by decide +kernel
theorem dL_law__2097 : decode cL_law_ 2097 = .ok (.invokestatic 240, 3) := by decide +kernel
theorem dL_law__2100 : decode cL_law_ 2100 = .ok (.istore 5, 2) := by decide +kernel
theorem dL_law__2102 : decode cL_law_ 2102 = .ok (.aload_n 2, 1) := by decide +kernel
theorem dL_law__2103 : decode cL_law_ 2103 = .ok (.aload_n 0, 1) := by decide +kernel
theorem dL_law__2104 : decode cL_law_ 2104 = .ok (.iload 4, 2) := by decide +kernel
theorem dL_law__2106 : decode cL_law_ 2106 = .ok (.iconst 1, 1) := by decide +kernel
theorem dL_law__2107 : decode cL_law_ 2107 = .ok (.iadd, 1) := by decide +kernel
theorem dL_law__2108 : decode cL_law_ 2108 = .ok (.iaload, 1) := by decide +kernel
theorem dL_law__2109 : decode cL_law_ 2109 = .ok (.aload_n 0, 1) := by decide +kernel
theorem dL_law__2110 : decode cL_law_ 2110 = .ok (.iload 4, 2) := by decide +kernel
theorem dL_law__2112 : decode cL_law_ 2112 = .ok (.iconst 2, 1) := by decide +kernel
theorem dL_law__2113 : decode cL_law_ 2113 = .ok (.iadd, 1) := by decide +kernel
theorem dL_law__2114 : decode cL_law_ 2114 = .ok (.iaload, 1) := by decide +kernel
theorem dL_law__2115 : decode cL_law_ 2115 = .ok (.invokevirtual 242, 3) := by decide +kernel
theorem dL_law__2118 : decode cL_law_ 2118 = .ok (.istore 6, 2) := by decide +kernel
theorem dL_law__2120 : decode cL_law_ 2120 = .ok (.aload_n 2, 1) := by decide +kernel
theorem dL_law__2121 : decode cL_law_ 2121 = .ok (.invokevirtual 141, 3) := by decide +kernel
theorem dL_law__2124 : decode cL_law_ 2124 = .ok (.iload 5, 2) := by decide +kernel
theorem dL_law__2126 : decode cL_law_ 2126 = .ok (.if_icmp .eq 5, 3) := by decide +kernel
theorem dL_law__2129 : decode cL_law_ 2129 = .ok (.iconst 0, 1) := by decide +kernel
theorem dL_law__2130 : decode cL_law_ 2130 = .ok (.ireturn, 1) := by decide +kernel
theorem dL_law__2131 : decode cL_law_ 2131 = .ok (.iload 5, 2) := by decide +kernel
theorem dL_law__2133 : decode cL_law_ 2133 = .ok (.ifCond .ne 15, 3) := by decide +kernel
theorem dL_law__2136 : decode cL_law_ 2136 = .ok (.aload_n 3, 1) := by decide +kernel
theorem dL_law__2137 : decode cL_law_ 2137 = .ok (.iconst 0, 1) := by decide +kernel
theorem dL_law__2138 : decode cL_law_ 2138 = .ok (.laload, 1) := by decide +kernel
theorem dL_law__2139 : decode cL_law_ 2139 = .ok (.iload 6, 2) := by decide +kernel
theorem dL_law__2141 : decode cL_law_ 2141 = .ok (.i2l, 1) := by decide +kernel
theorem dL_law__2142 : decode cL_law_ 2142 = .ok (.lcmp, 1) := by decide +kernel
theorem dL_law__2143 : decode cL_law_ 2143 = .ok (.ifCond .eq 5, 3) := by decide +kernel
theorem dL_law__2146 : decode cL_law_ 2146 = .ok (.iconst 0, 1) := by decide +kernel
theorem dL_law__2147 : decode cL_law_ 2147 = .ok (.ireturn, 1) := by decide +kernel
theorem dL_law__2148 : decode cL_law_ 2148 = .ok (.goto 451, 3) := by decide +kernel
/-! opcode 32 -/
noncomputable def fL_c32 (xs : Nat → Int32) (L : Nat) (V : VT) (ov : Nat → Int64) (u4 : Int32) : Option ((VT × (Nat → Int64) × Int32) ⊕ Int32) := rd_ (u4 + (1 : Int32)) L (lt_ (xs (u4 + (1 : Int32)).toNatClampNeg) fun z2 => rd_ (u4 + (2 : Int32)) L (lt_ (xs (u4 + (2 : Int32)).toNatClampNeg) fun z4 => ob_I (fX9_alone V z2 z4) fun o5 V10 => ob_R (hL_alone o5 ov) fun qy7 => dt2_ qy7 fun y7 w6 => rd_ (u4 + (1 : Int32)) L (lt_ (xs (u4 + (1 : Int32)).toNatClampNeg) fun z12 => rd_ (u4 + (2 : Int32)) L (lt_ (xs (u4 + (2 : Int32)).toNatClampNeg) fun z14 => ob_I (fX10_alone V10 z12 z14) fun y16 V17 => ob_R (fX10_thrown V17 ) fun y19 => if y19 = y7 then (if y7 = 0 then (if (lg_cmp (w6 ((0 : Int32).toNatClampNeg)) y16.toInt64) = 0 then (lt_ (u4 + (6 : Int32)) fun y21 => some (.inl (V17, w6, y21))) else (some (.inr (0 : Int32)))) else (lt_ (u4 + (6 : Int32)) fun y20 => some (.inl (V17, w6, y20)))) else (some (.inr (0 : Int32)))))))
set_option maxHeartbeats 4000000 in
set_option maxRecDepth 100000 in
theorem wL_c32 {p : Program} {l : Launch} {e : Env} {s : State} {m : MethodId} {args : Array Value} {below : List Frame} {meth : Method} {c : Code} {G : GT} {Z : Nat → Nat × Nat} {oa b L : Nat} {xs : Nat → Int32} {Q : State → Prop} (E : EO p s m args c meth cL_law_ 7 RL (some .boolean) G (SH Z) oa) (ht : l.stackTraces = false) (hX : va_X b L xs s s.heap) (hbl : b < s.heap.size) (hbA : ¬ gO G oa s.heap.size b) (hL : L ≤ 3072) {C0 S0 : Nat} (hC0 : C0 ≤ 100000) (hS0 : S0 ≤ 1000000) {V : VT} {ov : Nat → Int64} {u4 : Int32} {r : ((VT × (Nat → Int64) × Int32) ⊕ Int32)} (h : fL_c32 xs L V ov u4 = some r) (k1 : ∀ y, r = .inr y → y = 1) (kc : ∀ (V2 : VT) (ov2 : Nat → Int64), r = .inl (V2, ov2, u4 + 6) → ∀ (H : Heap) (locs : List Loc) (ls : Array Slot) (cells slots : Nat), HO G oa s.heap (V2) (ov2) H locs → lv_has ls 7 [(0, .ref b), (1, .ref (G.2.2 0)), (2, .ref (G.2.2 22)), (3, .ref oa), (4, .int (u4 + 6))] → cells ≤ C0 + 3 → slots ≤ S0 + 18 → W p l e room_1 s m args below meth c H locs cells slots Q (F0 m 23 ls [])) {H : Heap} {locs : List Loc} {ls : Array Slot} {cells slots : Nat} (hw : HO G oa s.heap V ov H locs) (hl : lv_has ls 7 [(0, .ref b), (1, .ref (G.2.2 0)), (2, .ref (G.2.2 22)), (3, .ref oa), (4, .int u4)]) (hce : cells ≤ C0) (hsl : slots ≤ S0) : W p l e room_1 s m args below meth c H locs cells slots Q (F0 m 2083 ls []) := by
  have hx := E.1
  have hb := E.2.1
  have hfc : ∀ K : Nat, K ≤ 3 → cells + K ≤ room_1.cells ∧ slots + 6 * K ≤ room_1.slots := fun K hK => ⟨by show cells + K ≤ 601024; omega, by show slots + 6 * K ≤ 7293034; omega⟩
  have hf0 : ∀ {c9 s9 : Nat}, c9 ≤ C0 + 3 → s9 ≤ S0 + 18 → c9 ≤ room_1.cells ∧ s9 ≤ room_1.slots := fun h1 h2 => ⟨by show _ ≤ 601024; omega, by show _ ≤ 7293034; omega⟩
  unfold fL_c32 at h
  refine lv_aload_n hx hb dL_law__2083 rfl (lv_at hl 1 rfl) ?_
  refine lv_aload_n hx hb dL_law__2084 rfl (lv_at hl 0 rfl) ?_
  refine lv_iload hx hb dL_law__2085 (lv_at hl 4 rfl) ?_
  refine lv_iconst (v := (1 : Int32)) hx hb dL_law__2087 (by decide) ?_
  refine lv_iadd hx hb dL_law__2088 ?_
  obtain ⟨b1, h⟩ := rd_some h
  obtain ⟨z2, ez2, h⟩ := lt_some h
  refine va_sld hx hb hX hbl hbA hw.2.2 b1 dL_law__2089 ?_
  refine lv_eqi ez2 ?_
  refine lv_aload_n hx hb dL_law__2090 rfl (lv_at hl 0 rfl) ?_
  refine lv_iload hx hb dL_law__2091 (lv_at hl 4 rfl) ?_
  refine lv_iconst (v := (2 : Int32)) hx hb dL_law__2093 (by decide) ?_
  refine lv_iadd hx hb dL_law__2094 ?_
  obtain ⟨b3, h⟩ := rd_some h
  obtain ⟨z4, ez4, h⟩ := lt_some h
  refine va_sld hx hb hX hbl hbA hw.2.2 b3 dL_law__2095 ?_
  refine lv_eqi ez4 ?_
  refine lv_aload_n hx hb dL_law__2096 rfl (lv_at hl 3 rfl) ?_
  obtain ⟨o5, V10, h8, h⟩ := ob_I_some h
  obtain ⟨⟨y7, w6⟩, h9, h⟩ := ob_R_some h
  have h := dt2_eq h
  refine o_SH (n := 4) (As := [.ref (G.2.2 0), .int z2, .int z4, .ref oa]) E hw (kL_alone (l := l) (G := G) (Z := Z) (oa := oa) ht h8 h9) yw_L_alone lw_ini lm_RL_240 ⟨by decide, by decide, by decide +kernel⟩ rfl hl.1 (by decide) (hfc 2 (by decide)) (by decide) rfl (Nat.le_of_ble_eq_true rfl) dL_law__2097 (fun H locs hw => ?_)
  refine lv_istore (lv' := [(5, .int y7), (0, .ref b), (1, .ref (G.2.2 0)), (2, .ref (G.2.2 22)), (3, .ref oa), (4, .int u4)]) hx hb dL_law__2100 hl (by decide) rfl (fun ls hl => ?_)
  refine lv_aload_n hx hb dL_law__2102 rfl (lv_at hl 3 rfl) ?_
  refine lv_aload_n hx hb dL_law__2103 rfl (lv_at hl 1 rfl) ?_
  refine lv_iload hx hb dL_law__2104 (lv_at hl 5 rfl) ?_
  refine lv_iconst (v := (1 : Int32)) hx hb dL_law__2106 (by decide) ?_
  refine lv_iadd hx hb dL_law__2107 ?_
  obtain ⟨b11, h⟩ := rd_some h
  obtain ⟨z12, ez12, h⟩ := lt_some h
  refine va_sld hx hb hX hbl hbA hw.2.2 b11 dL_law__2108 ?_
  refine lv_eqi ez12 ?_
  refine lv_aload_n hx hb dL_law__2109 rfl (lv_at hl 1 rfl) ?_
  refine lv_iload hx hb dL_law__2110 (lv_at hl 5 rfl) ?_
  refine lv_iconst (v := (2 : Int32)) hx hb dL_law__2112 (by decide) ?_
  refine lv_iadd hx hb dL_law__2113 ?_
  obtain ⟨b13, h⟩ := rd_some h
  obtain ⟨z14, ez14, h⟩ := lt_some h
  refine va_sld hx hb hX hbl hbA hw.2.2 b13 dL_law__2114 ?_
  refine lv_eqi ez14 ?_
  obtain ⟨y16, V17, h15, h⟩ := ob_I_some h
  refine o_VI (As := [.int z12, .int z14]) E hw (kX10_alone (l := l) (G := G) (SG_ok Z) h15) yy_X10_alone lm_RL_242 rfl (by decide) rfl rfl hl.1 (by decide) (hf0 (by omega) (by omega)) (by decide) rfl (Nat.le_of_ble_eq_true rfl) dL_law__2115 (fun H locs hw => ?_)
  refine lv_istore (lv' := [(6, .int y16), (5, .int y7), (0, .ref b), (1, .ref (G.2.2 0)), (2, .ref (G.2.2 22)), (3, .ref oa), (4, .int u4)]) hx hb dL_law__2118 hl (by decide) rfl (fun ls hl => ?_)
  refine lv_aload_n hx hb dL_law__2120 rfl (lv_at hl 4 rfl) ?_
  obtain ⟨y19, h18, h⟩ := ob_R_some h
  refine o_VI (As := []) E hw (kX10_thrown (l := l) (G := G) (SG_ok Z) h18) yy_X10_thrown lm_RL_141 rfl (by decide) rfl rfl hl.1 (by decide) (hf0 (by omega) (by omega)) (by decide) rfl (Nat.le_of_ble_eq_true rfl) dL_law__2121 (fun H locs hw => ?_)
  refine lv_iload hx hb dL_law__2124 (lv_at hl 1 rfl) ?_
  refine lv_icmp_eq (tgt := 2131) hx hb dL_law__2126 (by decide) (fun c24 => ?_) (fun c24 => ?_)
  · rw [if_pos c24] at h
    refine lv_iload hx hb dL_law__2131 (lv_at hl 1 rfl) ?_
    refine lv_if_ne (tgt := 2148) hx hb dL_law__2133 (by decide) (fun c23 => ?_) (fun c23 => ?_)
    · rw [if_neg c23] at h
      refine lv_goto (tgt := 2599) hx hb dL_law__2148 (by decide) ?_
      obtain ⟨y20, ey20, h⟩ := lt_some h
      refine lv_iinc (v := y20) (lv' := [(4, .int y20), (6, .int y16), (5, .int y7), (0, .ref b), (1, .ref (G.2.2 0)), (2, .ref (G.2.2 22)), (3, .ref oa)]) hx hb dL_law__2599 hl (k := 6) rfl (by rw [ey20]; rfl) (by decide) rfl (fun ls hl => ?_)
      refine lv_goto (tgt := 23) hx hb dL_law__2602 (by decide) ?_
      subst ey20
      exact kc V17 w6 (Option.some.inj h).symm H locs ls _ _ hw (lv_sub hl [3, 4, 5, 6, 0] rfl) (by omega) (by omega)
    · rw [if_pos c23] at h
      refine lv_aload_n hx hb dL_law__2136 rfl (lv_at hl 5 rfl) ?_
      refine lv_iconst (v := (0 : Int32)) hx hb dL_law__2137 (by decide) ?_
      refine o_ll E hw vp_0_1 dL_law__2138 ?_
      refine lv_iload hx hb dL_law__2139 (lv_at hl 0 rfl) ?_
      refine lv_i2l hx hb dL_law__2141 rfl ?_
      refine W.lcmp hx hb dL_law__2142 ?_
      refine lv_if_eq (tgt := 2148) hx hb dL_law__2143 (by decide) (fun c22 => ?_) (fun c22 => ?_)
      · rw [if_pos c22] at h
        refine lv_goto (tgt := 2599) hx hb dL_law__2148 (by decide) ?_
        obtain ⟨y21, ey21, h⟩ := lt_some h
        refine lv_iinc (v := y21) (lv' := [(4, .int y21), (6, .int y16), (5, .int y7), (0, .ref b), (1, .ref (G.2.2 0)), (2, .ref (G.2.2 22)), (3, .ref oa)]) hx hb dL_law__2599 hl (k := 6) rfl (by rw [ey21]; rfl) (by decide) rfl (fun ls hl => ?_)
        refine lv_goto (tgt := 23) hx hb dL_law__2602 (by decide) ?_
        subst ey21
        exact kc V17 w6 (Option.some.inj h).symm H locs ls _ _ hw (lv_sub hl [3, 4, 5, 6, 0] rfl) (by omega) (by omega)
      · rw [if_neg c22] at h
        refine lv_iconst (v := (0 : Int32)) hx hb dL_law__2146 (by decide) ?_
        exact absurd (k1 _ (Option.some.inj h).symm) (by decide)
  · rw [if_neg c24] at h
    refine lv_iconst (v := (0 : Int32)) hx hb dL_law__2129 (by decide) ?_
    exact absurd (k1 _ (Option.some.inj h).symm) (by decide)
theorem dL_law__2151 : decode cL_law_ 2151 = .ok (.aload_n 1, 1) := by decide +kernel
theorem dL_law__2152 : decode cL_law_ 2152 = .ok (.aload_n 0, 1) := by decide +kernel
theorem dL_law__2153 : decode cL_law_ 2153 = .ok (.iload 4, 2) := by decide +kernel
theorem dL_law__2155 : decode cL_law_ 2155 = .ok (.iconst 1, 1) := by decide +kernel
theorem dL_law__2156 : decode cL_law_ 2156 = .ok (.iadd, 1) := by decide +kernel
theorem dL_law__2157 : decode cL_law_ 2157 = .ok (.iaload, 1) := by decide +kernel
theorem dL_law__2158 : decode cL_law_ 2158 = .ok (.ifCond .eq 7, 3) := by decide +kernel
theorem dL_law__2161 : decode cL_law_ 2161 = .ok (.iconst 1, 1) := by decide +kernel
theorem dL_law__2162 : decode cL_law_ 2162 = .ok (.goto 4, 3) := by decide +kernel
theorem dL_law__2165 : decode cL_law_ 2165 = .ok (.iconst 0, 1) := by decide +kernel
theorem dL_law__2166 : decode cL_law_ 2166 = .ok (.invokevirtual 243, 3) := by decide +kernel
theorem dL_law__2169 : decode cL_law_ 2169 = .ok (.aload_n 2, 1) := by decide +kernel
theorem dL_law__2170 : decode cL_law_ 2170 = .ok (.aload_n 0, 1) := by decide +kernel
theorem dL_law__2171 : decode cL_law_ 2171 = .ok (.iload 4, 2) := by decide +kernel
theorem dL_law__2173 : decode cL_law_ 2173 = .ok (.iconst 1, 1) := by decide +kernel
theorem dL_law__2174 : decode cL_law_ 2174 = .ok (.iadd, 1) := by decide +kernel
theorem dL_law__2175 : decode cL_law_ 2175 = .ok (.iaload, 1) := by decide +kernel
theorem dL_law__2176 : decode cL_law_ 2176 = .ok (.ifCond .eq 7, 3) := by decide +kernel
theorem dL_law__2179 : decode cL_law_ 2179 = .ok (.iconst 1, 1) := by decide +kernel
theorem dL_law__2180 : decode cL_law_ 2180 = .ok (.goto 4, 3) := by decide +kernel
theorem dL_law__2183 : decode cL_law_ 2183 = .ok (.iconst 0, 1) := by decide +kernel
theorem dL_law__2184 : decode cL_law_ 2184 = .ok (.invokevirtual 246, 3) := by decide +kernel
theorem dL_law__2187 : decode cL_law_ 2187 = .ok (.if_icmp .eq 412, 3) := by decide +kernel
theorem dL_law__2190 : decode cL_law_ 2190 = .ok (.iconst 0, 1) := by decide +kernel
theorem dL_law__2191 : decode cL_law_ 2191 = .ok (.ireturn, 1) := by decide +kernel
/-! opcode 33 -/
noncomputable def fL_c33 (xs : Nat → Int32) (L : Nat) (V : VT) (ov : Nat → Int64) (u4 : Int32) : Option ((VT × (Nat → Int64) × Int32) ⊕ Int32) := rd_ (u4 + (1 : Int32)) L (lt_ (xs (u4 + (1 : Int32)).toNatClampNeg) fun z2 => if z2 = 0 then (ob_R (fX9_book V (0 : Int32)) fun y4 => rd_ (u4 + (1 : Int32)) L (lt_ (xs (u4 + (1 : Int32)).toNatClampNeg) fun z6 => if z6 = 0 then (ob_I (fX10_book V (0 : Int32)) fun y8 V9 => if y4 = y8 then (lt_ (u4 + (6 : Int32)) fun y10 => some (.inl (V9, ov, y10))) else (some (.inr (0 : Int32)))) else (ob_I (fX10_book V (1 : Int32)) fun y13 V14 => if y4 = y13 then (lt_ (u4 + (6 : Int32)) fun y15 => some (.inl (V14, ov, y15))) else (some (.inr (0 : Int32)))))) else (ob_R (fX9_book V (1 : Int32)) fun y19 => rd_ (u4 + (1 : Int32)) L (lt_ (xs (u4 + (1 : Int32)).toNatClampNeg) fun z21 => if z21 = 0 then (ob_I (fX10_book V (0 : Int32)) fun y23 V24 => if y19 = y23 then (lt_ (u4 + (6 : Int32)) fun y25 => some (.inl (V24, ov, y25))) else (some (.inr (0 : Int32)))) else (ob_I (fX10_book V (1 : Int32)) fun y28 V29 => if y19 = y28 then (lt_ (u4 + (6 : Int32)) fun y30 => some (.inl (V29, ov, y30))) else (some (.inr (0 : Int32)))))))
set_option maxHeartbeats 4000000 in
set_option maxRecDepth 100000 in
theorem wL_c33 {p : Program} {l : Launch} {e : Env} {s : State} {m : MethodId} {args : Array Value} {below : List Frame} {meth : Method} {c : Code} {G : GT} {Z : Nat → Nat × Nat} {oa b L : Nat} {xs : Nat → Int32} {Q : State → Prop} (E : EO p s m args c meth cL_law_ 7 RL (some .boolean) G (SH Z) oa) (ht : l.stackTraces = false) (hX : va_X b L xs s s.heap) (hbl : b < s.heap.size) (hbA : ¬ gO G oa s.heap.size b) (hL : L ≤ 3072) {C0 S0 : Nat} (hC0 : C0 ≤ 100000) (hS0 : S0 ≤ 1000000) {V : VT} {ov : Nat → Int64} {u4 : Int32} {r : ((VT × (Nat → Int64) × Int32) ⊕ Int32)} (h : fL_c33 xs L V ov u4 = some r) (k1 : ∀ y, r = .inr y → y = 1) (kc : ∀ (V2 : VT) (ov2 : Nat → Int64), r = .inl (V2, ov2, u4 + 6) → ∀ (H : Heap) (locs : List Loc) (ls : Array Slot) (cells slots : Nat), HO G oa s.heap (V2) (ov2) H locs → lv_has ls 7 [(0, .ref b), (1, .ref (G.2.2 0)), (2, .ref (G.2.2 22)), (3, .ref oa), (4, .int (u4 + 6))] → cells ≤ C0 + 3 → slots ≤ S0 + 18 → W p l e room_1 s m args below meth c H locs cells slots Q (F0 m 23 ls [])) {H : Heap} {locs : List Loc} {ls : Array Slot} {cells slots : Nat} (hw : HO G oa s.heap V ov H locs) (hl : lv_has ls 7 [(0, .ref b), (1, .ref (G.2.2 0)), (2, .ref (G.2.2 22)), (3, .ref oa), (4, .int u4)]) (hce : cells ≤ C0) (hsl : slots ≤ S0) : W p l e room_1 s m args below meth c H locs cells slots Q (F0 m 2151 ls []) := by
  have hx := E.1
  have hb := E.2.1
  have hfc : ∀ K : Nat, K ≤ 3 → cells + K ≤ room_1.cells ∧ slots + 6 * K ≤ room_1.slots := fun K hK => ⟨by show cells + K ≤ 601024; omega, by show slots + 6 * K ≤ 7293034; omega⟩
  have hf0 : ∀ {c9 s9 : Nat}, c9 ≤ C0 + 3 → s9 ≤ S0 + 18 → c9 ≤ room_1.cells ∧ s9 ≤ room_1.slots := fun h1 h2 => ⟨by show _ ≤ 601024; omega, by show _ ≤ 7293034; omega⟩
  unfold fL_c33 at h
  refine lv_aload_n hx hb dL_law__2151 rfl (lv_at hl 1 rfl) ?_
  refine lv_aload_n hx hb dL_law__2152 rfl (lv_at hl 0 rfl) ?_
  refine lv_iload hx hb dL_law__2153 (lv_at hl 4 rfl) ?_
  refine lv_iconst (v := (1 : Int32)) hx hb dL_law__2155 (by decide) ?_
  refine lv_iadd hx hb dL_law__2156 ?_
  obtain ⟨b1, h⟩ := rd_some h
  obtain ⟨z2, ez2, h⟩ := lt_some h
  refine va_sld hx hb hX hbl hbA hw.2.2 b1 dL_law__2157 ?_
  refine lv_eqi ez2 ?_
  refine lv_if_eq (tgt := 2165) hx hb dL_law__2158 (by decide) (fun c33 => ?_) (fun c33 => ?_)
  · rw [if_pos c33] at h
    refine lv_iconst (v := (0 : Int32)) hx hb dL_law__2165 (by decide) ?_
    obtain ⟨y4, h3, h⟩ := ob_R_some h
    refine o_VI (As := [.int (0 : Int32)]) E hw (kX9_book (l := l) (G := G) (SG_ok Z) h3) yy_X9_book lm_RL_243 rfl (by decide) rfl rfl hl.1 (by decide) (hf0 (by omega) (by omega)) (by decide) rfl (Nat.le_of_ble_eq_true rfl) dL_law__2166 (fun H locs hw => ?_)
    refine lv_aload_n hx hb dL_law__2169 rfl (lv_at hl 2 rfl) ?_
    refine lv_aload_n hx hb dL_law__2170 rfl (lv_at hl 0 rfl) ?_
    refine lv_iload hx hb dL_law__2171 (lv_at hl 4 rfl) ?_
    refine lv_iconst (v := (1 : Int32)) hx hb dL_law__2173 (by decide) ?_
    refine lv_iadd hx hb dL_law__2174 ?_
    obtain ⟨b5, h⟩ := rd_some h
    obtain ⟨z6, ez6, h⟩ := lt_some h
    refine va_sld hx hb hX hbl hbA hw.2.2 b5 dL_law__2175 ?_
    refine lv_eqi ez6 ?_
    refine lv_if_eq (tgt := 2183) hx hb dL_law__2176 (by decide) (fun c17 => ?_) (fun c17 => ?_)
    · rw [if_pos c17] at h
      refine lv_iconst (v := (0 : Int32)) hx hb dL_law__2183 (by decide) ?_
      obtain ⟨y8, V9, h7, h⟩ := ob_I_some h
      refine o_VI (As := [.int (0 : Int32)]) E hw (kX10_book (l := l) (G := G) (SG_ok Z) h7) yy_X10_book lm_RL_246 rfl (by decide) rfl rfl hl.1 (by decide) (hf0 (by omega) (by omega)) (by decide) rfl (Nat.le_of_ble_eq_true rfl) dL_law__2184 (fun H locs hw => ?_)
      refine lv_icmp_eq (tgt := 2599) hx hb dL_law__2187 (by decide) (fun c11 => ?_) (fun c11 => ?_)
      · rw [if_pos c11] at h
        obtain ⟨y10, ey10, h⟩ := lt_some h
        refine lv_iinc (v := y10) (lv' := [(4, .int y10), (0, .ref b), (1, .ref (G.2.2 0)), (2, .ref (G.2.2 22)), (3, .ref oa)]) hx hb dL_law__2599 hl (k := 4) rfl (by rw [ey10]; rfl) (by decide) rfl (fun ls hl => ?_)
        refine lv_goto (tgt := 23) hx hb dL_law__2602 (by decide) ?_
        subst ey10
        exact kc V9 ov (Option.some.inj h).symm H locs ls _ _ hw (lv_sub hl [1, 2, 3, 4, 0] rfl) (by omega) (by omega)
      · rw [if_neg c11] at h
        refine lv_iconst (v := (0 : Int32)) hx hb dL_law__2190 (by decide) ?_
        exact absurd (k1 _ (Option.some.inj h).symm) (by decide)
    · rw [if_neg c17] at h
      refine lv_iconst (v := (1 : Int32)) hx hb dL_law__2179 (by decide) ?_
      refine lv_goto (tgt := 2184) hx hb dL_law__2180 (by decide) ?_
      obtain ⟨y13, V14, h12, h⟩ := ob_I_some h
      refine o_VI (As := [.int (1 : Int32)]) E hw (kX10_book (l := l) (G := G) (SG_ok Z) h12) yy_X10_book lm_RL_246 rfl (by decide) rfl rfl hl.1 (by decide) (hf0 (by omega) (by omega)) (by decide) rfl (Nat.le_of_ble_eq_true rfl) dL_law__2184 (fun H locs hw => ?_)
      refine lv_icmp_eq (tgt := 2599) hx hb dL_law__2187 (by decide) (fun c16 => ?_) (fun c16 => ?_)
      · rw [if_pos c16] at h
        obtain ⟨y15, ey15, h⟩ := lt_some h
        refine lv_iinc (v := y15) (lv' := [(4, .int y15), (0, .ref b), (1, .ref (G.2.2 0)), (2, .ref (G.2.2 22)), (3, .ref oa)]) hx hb dL_law__2599 hl (k := 4) rfl (by rw [ey15]; rfl) (by decide) rfl (fun ls hl => ?_)
        refine lv_goto (tgt := 23) hx hb dL_law__2602 (by decide) ?_
        subst ey15
        exact kc V14 ov (Option.some.inj h).symm H locs ls _ _ hw (lv_sub hl [1, 2, 3, 4, 0] rfl) (by omega) (by omega)
      · rw [if_neg c16] at h
        refine lv_iconst (v := (0 : Int32)) hx hb dL_law__2190 (by decide) ?_
        exact absurd (k1 _ (Option.some.inj h).symm) (by decide)
  · rw [if_neg c33] at h
    refine lv_iconst (v := (1 : Int32)) hx hb dL_law__2161 (by decide) ?_
    refine lv_goto (tgt := 2166) hx hb dL_law__2162 (by decide) ?_
    obtain ⟨y19, h18, h⟩ := ob_R_some h
    refine o_VI (As := [.int (1 : Int32)]) E hw (kX9_book (l := l) (G := G) (SG_ok Z) h18) yy_X9_book lm_RL_243 rfl (by decide) rfl rfl hl.1 (by decide) (hf0 (by omega) (by omega)) (by decide) rfl (Nat.le_of_ble_eq_true rfl) dL_law__2166 (fun H locs hw => ?_)
    refine lv_aload_n hx hb dL_law__2169 rfl (lv_at hl 2 rfl) ?_
    refine lv_aload_n hx hb dL_law__2170 rfl (lv_at hl 0 rfl) ?_
    refine lv_iload hx hb dL_law__2171 (lv_at hl 4 rfl) ?_
    refine lv_iconst (v := (1 : Int32)) hx hb dL_law__2173 (by decide) ?_
    refine lv_iadd hx hb dL_law__2174 ?_
    obtain ⟨b20, h⟩ := rd_some h
    obtain ⟨z21, ez21, h⟩ := lt_some h
    refine va_sld hx hb hX hbl hbA hw.2.2 b20 dL_law__2175 ?_
    refine lv_eqi ez21 ?_
    refine lv_if_eq (tgt := 2183) hx hb dL_law__2176 (by decide) (fun c32 => ?_) (fun c32 => ?_)
    · rw [if_pos c32] at h
      refine lv_iconst (v := (0 : Int32)) hx hb dL_law__2183 (by decide) ?_
      obtain ⟨y23, V24, h22, h⟩ := ob_I_some h
      refine o_VI (As := [.int (0 : Int32)]) E hw (kX10_book (l := l) (G := G) (SG_ok Z) h22) yy_X10_book lm_RL_246 rfl (by decide) rfl rfl hl.1 (by decide) (hf0 (by omega) (by omega)) (by decide) rfl (Nat.le_of_ble_eq_true rfl) dL_law__2184 (fun H locs hw => ?_)
      refine lv_icmp_eq (tgt := 2599) hx hb dL_law__2187 (by decide) (fun c26 => ?_) (fun c26 => ?_)
      · rw [if_pos c26] at h
        obtain ⟨y25, ey25, h⟩ := lt_some h
        refine lv_iinc (v := y25) (lv' := [(4, .int y25), (0, .ref b), (1, .ref (G.2.2 0)), (2, .ref (G.2.2 22)), (3, .ref oa)]) hx hb dL_law__2599 hl (k := 4) rfl (by rw [ey25]; rfl) (by decide) rfl (fun ls hl => ?_)
        refine lv_goto (tgt := 23) hx hb dL_law__2602 (by decide) ?_
        subst ey25
        exact kc V24 ov (Option.some.inj h).symm H locs ls _ _ hw (lv_sub hl [1, 2, 3, 4, 0] rfl) (by omega) (by omega)
      · rw [if_neg c26] at h
        refine lv_iconst (v := (0 : Int32)) hx hb dL_law__2190 (by decide) ?_
        exact absurd (k1 _ (Option.some.inj h).symm) (by decide)
    · rw [if_neg c32] at h
      refine lv_iconst (v := (1 : Int32)) hx hb dL_law__2179 (by decide) ?_
      refine lv_goto (tgt := 2184) hx hb dL_law__2180 (by decide) ?_
      obtain ⟨y28, V29, h27, h⟩ := ob_I_some h
      refine o_VI (As := [.int (1 : Int32)]) E hw (kX10_book (l := l) (G := G) (SG_ok Z) h27) yy_X10_book lm_RL_246 rfl (by decide) rfl rfl hl.1 (by decide) (hf0 (by omega) (by omega)) (by decide) rfl (Nat.le_of_ble_eq_true rfl) dL_law__2184 (fun H locs hw => ?_)
      refine lv_icmp_eq (tgt := 2599) hx hb dL_law__2187 (by decide) (fun c31 => ?_) (fun c31 => ?_)
      · rw [if_pos c31] at h
        obtain ⟨y30, ey30, h⟩ := lt_some h
        refine lv_iinc (v := y30) (lv' := [(4, .int y30), (0, .ref b), (1, .ref (G.2.2 0)), (2, .ref (G.2.2 22)), (3, .ref oa)]) hx hb dL_law__2599 hl (k := 4) rfl (by rw [ey30]; rfl) (by decide) rfl (fun ls hl => ?_)
        refine lv_goto (tgt := 23) hx hb dL_law__2602 (by decide) ?_
        subst ey30
        exact kc V29 ov (Option.some.inj h).symm H locs ls _ _ hw (lv_sub hl [1, 2, 3, 4, 0] rfl) (by omega) (by omega)
      · rw [if_neg c31] at h
        refine lv_iconst (v := (0 : Int32)) hx hb dL_law__2190 (by decide) ?_
        exact absurd (k1 _ (Option.some.inj h).symm) (by decide)
theorem dL_law__2192 : decode cL_law_ 2192 = .ok (.aload_n 1, 1) := by decide +kernel
theorem dL_law__2193 : decode cL_law_ 2193 = .ok (.aload_n 0, 1) := by decide +kernel
theorem dL_law__2194 : decode cL_law_ 2194 = .ok (.iload 4, 2) := by decide +kernel
theorem dL_law__2196 : decode cL_law_ 2196 = .ok (.iconst 1, 1) := by decide +kernel
theorem dL_law__2197 : decode cL_law_ 2197 = .ok (.iadd, 1) := by decide +kernel
theorem dL_law__2198 : decode cL_law_ 2198 = .ok (.iaload, 1) := by decide +kernel
theorem dL_law__2199 : decode cL_law_ 2199 = .ok (.aload_n 0, 1) := by decide +kernel
theorem dL_law__2200 : decode cL_law_ 2200 = .ok (.iload 4, 2) := by decide +kernel
theorem dL_law__2202 : decode cL_law_ 2202 = .ok (.iconst 2, 1) := by decide +kernel
theorem dL_law__2203 : decode cL_law_ 2203 = .ok (.iadd, 1) := by decide +kernel
theorem dL_law__2204 : decode cL_law_ 2204 = .ok (.iaload, 1) := by decide +kernel
theorem dL_law__2205 : decode cL_law_ 2205 = .ok (.ifCond .eq 7, 3) := by decide +kernel
theorem dL_law__2208 : decode cL_law_ 2208 = .ok (.iconst 1, 1) := by decide +kernel
theorem dL_law__2209 : decode cL_law_ 2209 = .ok (.goto 4, 3) := by decide +kernel
theorem dL_law__2212 : decode cL_law_ 2212 = .ok (.iconst 0, 1) := by decide +kernel
theorem dL_law__2213 : decode cL_law_ 2213 = .ok (.aload_n 3, 1) := by decide +kernel
theorem dL_law__2214 : decode cL_law_ 2214 = .ok (.invokestatic 247, 3) := by decide +kernel
theorem dL_law__2217 : decode cL_law_ 2217 = .ok (.istore 5, 2) := by decide +kernel
theorem dL_law__2219 : decode cL_law_ 2219 = .ok (.aload_n 2, 1) := by decide +kernel
theorem dL_law__2220 : decode cL_law_ 2220 = .ok (.aload_n 0, 1) := by decide +kernel
theorem dL_law__2221 : decode cL_law_ 2221 = .ok (.iload 4, 2) := by decide +kernel
theorem dL_law__2223 : decode cL_law_ 2223 = .ok (.iconst 1, 1) := by decide +kernel
theorem dL_law__2224 : decode cL_law_ 2224 = .ok (.iadd, 1) := by decide +kernel
theorem dL_law__2225 : decode cL_law_ 2225 = .ok (.iaload, 1) := by decide +kernel
theorem dL_law__2226 : decode cL_law_ 2226 = .ok (.aload_n 0, 1) := by decide +kernel
theorem dL_law__2227 : decode cL_law_ 2227 = .ok (.iload 4, 2) := by decide +kernel
theorem dL_law__2229 : decode cL_law_ 2229 = .ok (.iconst 2, 1) := by decide +kernel
theorem dL_law__2230 : decode cL_law_ 2230 = .ok (.iadd, 1) := by decide +kernel
theorem dL_law__2231 : decode cL_law_ 2231 = .ok (.iaload, 1) := by decide +kernel
theorem dL_law__2232 : decode cL_law_ 2232 = .ok (.ifCond .eq 7, 3) := by decide +kernel
theorem dL_law__2235 : decode cL_law_ 2235 = .ok (.iconst 1, 1) := by decide +kernel
theorem dL_law__2236 : decode cL_law_ 2236 = .ok (.goto 4, 3) := by decide +kernel
theorem dL_law__2239 : decode cL_law_ 2239 = .ok (.iconst 0, 1) := by decide +kernel
theorem dL_law__2240 : decode cL_law_ 2240 = .ok (.invokevirtual 249, 3) := by decide +kernel
theorem dL_law__2243 : decode cL_law_ 2243 = .ok (.istore 6, 2) := by decide +kernel
theorem dL_law__2245 : decode cL_law_ 2245 = .ok (.aload_n 2, 1) := by decide +kernel
theorem dL_law__2246 : decode cL_law_ 2246 = .ok (.invokevirtual 141, 3) := by decide +kernel
theorem dL_law__2249 : decode cL_law_ 2249 = .ok (.iload 5, 2) := by decide +kernel
theorem dL_law__2251 : decode cL_law_ 2251 = .ok (.if_icmp .eq 5, 3) := by decide +kernel
theorem dL_law__2254 : decode cL_law_ 2254 = .ok (.iconst 0, 1) := by decide +kernel
theorem dL_law__2255 : decode cL_law_ 2255 = .ok (.ireturn, 1) := by decide +kernel
theorem dL_law__2256 : decode cL_law_ 2256 = .ok (.iload 5, 2) := by decide +kernel
theorem dL_law__2258 : decode cL_law_ 2258 = .ok (.ifCond .ne 15, 3) := by decide +kernel
theorem dL_law__2261 : decode cL_law_ 2261 = .ok (.aload_n 3, 1) := by decide +kernel
theorem dL_law__2262 : decode cL_law_ 2262 = .ok (.iconst 0, 1) := by decide +kernel
theorem dL_law__2263 : decode cL_law_ 2263 = .ok (.laload, 1) := by decide +kernel
theorem dL_law__2264 : decode cL_law_ 2264 = .ok (.iload 6, 2) := by decide +kernel
theorem dL_law__2266 : decode cL_law_ 2266 = .ok (.i2l, 1) := by decide +kernel
theorem dL_law__2267 : decode cL_law_ 2267 = .ok (.lcmp, 1) := by decide +kernel
theorem dL_law__2268 : decode cL_law_ 2268 = .ok (.ifCond .eq 5, 3) := by decide +kernel
theorem dL_law__2271 : decode cL_law_ 2271 = .ok (.iconst 0, 1) := by decide +kernel
theorem dL_law__2272 : decode cL_law_ 2272 = .ok (.ireturn, 1) := by decide +kernel
theorem dL_law__2273 : decode cL_law_ 2273 = .ok (.goto 326, 3) := by decide +kernel
/-! opcode 34 -/
noncomputable def fL_c34 (xs : Nat → Int32) (L : Nat) (V : VT) (ov : Nat → Int64) (u4 : Int32) : Option ((VT × (Nat → Int64) × Int32) ⊕ Int32) := rd_ (u4 + (1 : Int32)) L (lt_ (xs (u4 + (1 : Int32)).toNatClampNeg) fun z2 => rd_ (u4 + (2 : Int32)) L (lt_ (xs (u4 + (2 : Int32)).toNatClampNeg) fun z4 => if z4 = 0 then (ob_I (fX9_trial V z2 (0 : Int32)) fun o5 V10 => ob_R (hL_trial o5 ov) fun qy7 => dt2_ qy7 fun y7 w6 => rd_ (u4 + (1 : Int32)) L (lt_ (xs (u4 + (1 : Int32)).toNatClampNeg) fun z12 => rd_ (u4 + (2 : Int32)) L (lt_ (xs (u4 + (2 : Int32)).toNatClampNeg) fun z14 => if z14 = 0 then (ob_I (fX10_trial V10 z12 (0 : Int32)) fun y16 V17 => ob_R (fX10_thrown V17 ) fun y19 => if y19 = y7 then (if y7 = 0 then (if (lg_cmp (w6 ((0 : Int32).toNatClampNeg)) y16.toInt64) = 0 then (lt_ (u4 + (6 : Int32)) fun y21 => some (.inl (V17, w6, y21))) else (some (.inr (0 : Int32)))) else (lt_ (u4 + (6 : Int32)) fun y20 => some (.inl (V17, w6, y20)))) else (some (.inr (0 : Int32)))) else (ob_I (fX10_trial V10 z12 (1 : Int32)) fun y26 V27 => ob_R (fX10_thrown V27 ) fun y29 => if y29 = y7 then (if y7 = 0 then (if (lg_cmp (w6 ((0 : Int32).toNatClampNeg)) y26.toInt64) = 0 then (lt_ (u4 + (6 : Int32)) fun y31 => some (.inl (V27, w6, y31))) else (some (.inr (0 : Int32)))) else (lt_ (u4 + (6 : Int32)) fun y30 => some (.inl (V27, w6, y30)))) else (some (.inr (0 : Int32))))))) else (ob_I (fX9_trial V z2 (1 : Int32)) fun o36 V41 => ob_R (hL_trial o36 ov) fun qy38 => dt2_ qy38 fun y38 w37 => rd_ (u4 + (1 : Int32)) L (lt_ (xs (u4 + (1 : Int32)).toNatClampNeg) fun z43 => rd_ (u4 + (2 : Int32)) L (lt_ (xs (u4 + (2 : Int32)).toNatClampNeg) fun z45 => if z45 = 0 then (ob_I (fX10_trial V41 z43 (0 : Int32)) fun y47 V48 => ob_R (fX10_thrown V48 ) fun y50 => if y50 = y38 then (if y38 = 0 then (if (lg_cmp (w37 ((0 : Int32).toNatClampNeg)) y47.toInt64) = 0 then (lt_ (u4 + (6 : Int32)) fun y52 => some (.inl (V48, w37, y52))) else (some (.inr (0 : Int32)))) else (lt_ (u4 + (6 : Int32)) fun y51 => some (.inl (V48, w37, y51)))) else (some (.inr (0 : Int32)))) else (ob_I (fX10_trial V41 z43 (1 : Int32)) fun y57 V58 => ob_R (fX10_thrown V58 ) fun y60 => if y60 = y38 then (if y38 = 0 then (if (lg_cmp (w37 ((0 : Int32).toNatClampNeg)) y57.toInt64) = 0 then (lt_ (u4 + (6 : Int32)) fun y62 => some (.inl (V58, w37, y62))) else (some (.inr (0 : Int32)))) else (lt_ (u4 + (6 : Int32)) fun y61 => some (.inl (V58, w37, y61)))) else (some (.inr (0 : Int32)))))))))
set_option maxHeartbeats 4000000 in
set_option maxRecDepth 100000 in
theorem wL_c34 {p : Program} {l : Launch} {e : Env} {s : State} {m : MethodId} {args : Array Value} {below : List Frame} {meth : Method} {c : Code} {G : GT} {Z : Nat → Nat × Nat} {oa b L : Nat} {xs : Nat → Int32} {Q : State → Prop} (E : EO p s m args c meth cL_law_ 7 RL (some .boolean) G (SH Z) oa) (ht : l.stackTraces = false) (hX : va_X b L xs s s.heap) (hbl : b < s.heap.size) (hbA : ¬ gO G oa s.heap.size b) (hL : L ≤ 3072) {C0 S0 : Nat} (hC0 : C0 ≤ 100000) (hS0 : S0 ≤ 1000000) {V : VT} {ov : Nat → Int64} {u4 : Int32} {r : ((VT × (Nat → Int64) × Int32) ⊕ Int32)} (h : fL_c34 xs L V ov u4 = some r) (k1 : ∀ y, r = .inr y → y = 1) (kc : ∀ (V2 : VT) (ov2 : Nat → Int64), r = .inl (V2, ov2, u4 + 6) → ∀ (H : Heap) (locs : List Loc) (ls : Array Slot) (cells slots : Nat), HO G oa s.heap (V2) (ov2) H locs → lv_has ls 7 [(0, .ref b), (1, .ref (G.2.2 0)), (2, .ref (G.2.2 22)), (3, .ref oa), (4, .int (u4 + 6))] → cells ≤ C0 + 3 → slots ≤ S0 + 18 → W p l e room_1 s m args below meth c H locs cells slots Q (F0 m 23 ls [])) {H : Heap} {locs : List Loc} {ls : Array Slot} {cells slots : Nat} (hw : HO G oa s.heap V ov H locs) (hl : lv_has ls 7 [(0, .ref b), (1, .ref (G.2.2 0)), (2, .ref (G.2.2 22)), (3, .ref oa), (4, .int u4)]) (hce : cells ≤ C0) (hsl : slots ≤ S0) : W p l e room_1 s m args below meth c H locs cells slots Q (F0 m 2192 ls []) := by
  have hx := E.1
  have hb := E.2.1
  have hfc : ∀ K : Nat, K ≤ 3 → cells + K ≤ room_1.cells ∧ slots + 6 * K ≤ room_1.slots := fun K hK => ⟨by show cells + K ≤ 601024; omega, by show slots + 6 * K ≤ 7293034; omega⟩
  have hf0 : ∀ {c9 s9 : Nat}, c9 ≤ C0 + 3 → s9 ≤ S0 + 18 → c9 ≤ room_1.cells ∧ s9 ≤ room_1.slots := fun h1 h2 => ⟨by show _ ≤ 601024; omega, by show _ ≤ 7293034; omega⟩
  unfold fL_c34 at h
  refine lv_aload_n hx hb dL_law__2192 rfl (lv_at hl 1 rfl) ?_
  refine lv_aload_n hx hb dL_law__2193 rfl (lv_at hl 0 rfl) ?_
  refine lv_iload hx hb dL_law__2194 (lv_at hl 4 rfl) ?_
  refine lv_iconst (v := (1 : Int32)) hx hb dL_law__2196 (by decide) ?_
  refine lv_iadd hx hb dL_law__2197 ?_
  obtain ⟨b1, h⟩ := rd_some h
  obtain ⟨z2, ez2, h⟩ := lt_some h
  refine va_sld hx hb hX hbl hbA hw.2.2 b1 dL_law__2198 ?_
  refine lv_eqi ez2 ?_
  refine lv_aload_n hx hb dL_law__2199 rfl (lv_at hl 0 rfl) ?_
  refine lv_iload hx hb dL_law__2200 (lv_at hl 4 rfl) ?_
  refine lv_iconst (v := (2 : Int32)) hx hb dL_law__2202 (by decide) ?_
  refine lv_iadd hx hb dL_law__2203 ?_
  obtain ⟨b3, h⟩ := rd_some h
  obtain ⟨z4, ez4, h⟩ := lt_some h
  refine va_sld hx hb hX hbl hbA hw.2.2 b3 dL_law__2204 ?_
  refine lv_eqi ez4 ?_
  refine lv_if_eq (tgt := 2212) hx hb dL_law__2205 (by decide) (fun c67 => ?_) (fun c67 => ?_)
  · rw [if_pos c67] at h
    refine lv_iconst (v := (0 : Int32)) hx hb dL_law__2212 (by decide) ?_
    refine lv_aload_n hx hb dL_law__2213 rfl (lv_at hl 3 rfl) ?_
    obtain ⟨o5, V10, h8, h⟩ := ob_I_some h
    obtain ⟨⟨y7, w6⟩, h9, h⟩ := ob_R_some h
    have h := dt2_eq h
    refine o_SH (n := 4) (As := [.ref (G.2.2 0), .int z2, .int (0 : Int32), .ref oa]) E hw (kL_trial (l := l) (G := G) (Z := Z) (oa := oa) ht h8 h9) yw_L_trial lw_ini lm_RL_247 ⟨by decide, by decide, by decide +kernel⟩ rfl hl.1 (by decide) (hfc 1 (by decide)) (by decide) rfl (Nat.le_of_ble_eq_true rfl) dL_law__2214 (fun H locs hw => ?_)
    refine lv_istore (lv' := [(5, .int y7), (0, .ref b), (1, .ref (G.2.2 0)), (2, .ref (G.2.2 22)), (3, .ref oa), (4, .int u4)]) hx hb dL_law__2217 hl (by decide) rfl (fun ls hl => ?_)
    refine lv_aload_n hx hb dL_law__2219 rfl (lv_at hl 3 rfl) ?_
    refine lv_aload_n hx hb dL_law__2220 rfl (lv_at hl 1 rfl) ?_
    refine lv_iload hx hb dL_law__2221 (lv_at hl 5 rfl) ?_
    refine lv_iconst (v := (1 : Int32)) hx hb dL_law__2223 (by decide) ?_
    refine lv_iadd hx hb dL_law__2224 ?_
    obtain ⟨b11, h⟩ := rd_some h
    obtain ⟨z12, ez12, h⟩ := lt_some h
    refine va_sld hx hb hX hbl hbA hw.2.2 b11 dL_law__2225 ?_
    refine lv_eqi ez12 ?_
    refine lv_aload_n hx hb dL_law__2226 rfl (lv_at hl 1 rfl) ?_
    refine lv_iload hx hb dL_law__2227 (lv_at hl 5 rfl) ?_
    refine lv_iconst (v := (2 : Int32)) hx hb dL_law__2229 (by decide) ?_
    refine lv_iadd hx hb dL_law__2230 ?_
    obtain ⟨b13, h⟩ := rd_some h
    obtain ⟨z14, ez14, h⟩ := lt_some h
    refine va_sld hx hb hX hbl hbA hw.2.2 b13 dL_law__2231 ?_
    refine lv_eqi ez14 ?_
    refine lv_if_eq (tgt := 2239) hx hb dL_law__2232 (by decide) (fun c35 => ?_) (fun c35 => ?_)
    · rw [if_pos c35] at h
      refine lv_iconst (v := (0 : Int32)) hx hb dL_law__2239 (by decide) ?_
      obtain ⟨y16, V17, h15, h⟩ := ob_I_some h
      refine o_VI (As := [.int z12, .int (0 : Int32)]) E hw (kX10_trial (l := l) (G := G) (SG_ok Z) h15) yy_X10_trial lm_RL_249 rfl (by decide) rfl rfl hl.1 (by decide) (hf0 (by omega) (by omega)) (by decide) rfl (Nat.le_of_ble_eq_true rfl) dL_law__2240 (fun H locs hw => ?_)
      refine lv_istore (lv' := [(6, .int y16), (5, .int y7), (0, .ref b), (1, .ref (G.2.2 0)), (2, .ref (G.2.2 22)), (3, .ref oa), (4, .int u4)]) hx hb dL_law__2243 hl (by decide) rfl (fun ls hl => ?_)
      refine lv_aload_n hx hb dL_law__2245 rfl (lv_at hl 4 rfl) ?_
      obtain ⟨y19, h18, h⟩ := ob_R_some h
      refine o_VI (As := []) E hw (kX10_thrown (l := l) (G := G) (SG_ok Z) h18) yy_X10_thrown lm_RL_141 rfl (by decide) rfl rfl hl.1 (by decide) (hf0 (by omega) (by omega)) (by decide) rfl (Nat.le_of_ble_eq_true rfl) dL_law__2246 (fun H locs hw => ?_)
      refine lv_iload hx hb dL_law__2249 (lv_at hl 1 rfl) ?_
      refine lv_icmp_eq (tgt := 2256) hx hb dL_law__2251 (by decide) (fun c24 => ?_) (fun c24 => ?_)
      · rw [if_pos c24] at h
        refine lv_iload hx hb dL_law__2256 (lv_at hl 1 rfl) ?_
        refine lv_if_ne (tgt := 2273) hx hb dL_law__2258 (by decide) (fun c23 => ?_) (fun c23 => ?_)
        · rw [if_neg c23] at h
          refine lv_goto (tgt := 2599) hx hb dL_law__2273 (by decide) ?_
          obtain ⟨y20, ey20, h⟩ := lt_some h
          refine lv_iinc (v := y20) (lv' := [(4, .int y20), (6, .int y16), (5, .int y7), (0, .ref b), (1, .ref (G.2.2 0)), (2, .ref (G.2.2 22)), (3, .ref oa)]) hx hb dL_law__2599 hl (k := 6) rfl (by rw [ey20]; rfl) (by decide) rfl (fun ls hl => ?_)
          refine lv_goto (tgt := 23) hx hb dL_law__2602 (by decide) ?_
          subst ey20
          exact kc V17 w6 (Option.some.inj h).symm H locs ls _ _ hw (lv_sub hl [3, 4, 5, 6, 0] rfl) (by omega) (by omega)
        · rw [if_pos c23] at h
          refine lv_aload_n hx hb dL_law__2261 rfl (lv_at hl 5 rfl) ?_
          refine lv_iconst (v := (0 : Int32)) hx hb dL_law__2262 (by decide) ?_
          refine o_ll E hw vp_0_1 dL_law__2263 ?_
          refine lv_iload hx hb dL_law__2264 (lv_at hl 0 rfl) ?_
          refine lv_i2l hx hb dL_law__2266 rfl ?_
          refine W.lcmp hx hb dL_law__2267 ?_
          refine lv_if_eq (tgt := 2273) hx hb dL_law__2268 (by decide) (fun c22 => ?_) (fun c22 => ?_)
          · rw [if_pos c22] at h
            refine lv_goto (tgt := 2599) hx hb dL_law__2273 (by decide) ?_
            obtain ⟨y21, ey21, h⟩ := lt_some h
            refine lv_iinc (v := y21) (lv' := [(4, .int y21), (6, .int y16), (5, .int y7), (0, .ref b), (1, .ref (G.2.2 0)), (2, .ref (G.2.2 22)), (3, .ref oa)]) hx hb dL_law__2599 hl (k := 6) rfl (by rw [ey21]; rfl) (by decide) rfl (fun ls hl => ?_)
            refine lv_goto (tgt := 23) hx hb dL_law__2602 (by decide) ?_
            subst ey21
            exact kc V17 w6 (Option.some.inj h).symm H locs ls _ _ hw (lv_sub hl [3, 4, 5, 6, 0] rfl) (by omega) (by omega)
          · rw [if_neg c22] at h
            refine lv_iconst (v := (0 : Int32)) hx hb dL_law__2271 (by decide) ?_
            exact absurd (k1 _ (Option.some.inj h).symm) (by decide)
      · rw [if_neg c24] at h
        refine lv_iconst (v := (0 : Int32)) hx hb dL_law__2254 (by decide) ?_
        exact absurd (k1 _ (Option.some.inj h).symm) (by decide)
    · rw [if_neg c35] at h
      refine lv_iconst (v := (1 : Int32)) hx hb dL_law__2235 (by decide) ?_
      refine lv_goto (tgt := 2240) hx hb dL_law__2236 (by decide) ?_
      obtain ⟨y26, V27, h25, h⟩ := ob_I_some h
      refine o_VI (As := [.int z12, .int (1 : Int32)]) E hw (kX10_trial (l := l) (G := G) (SG_ok Z) h25) yy_X10_trial lm_RL_249 rfl (by decide) rfl rfl hl.1 (by decide) (hf0 (by omega) (by omega)) (by decide) rfl (Nat.le_of_ble_eq_true rfl) dL_law__2240 (fun H locs hw => ?_)
      refine lv_istore (lv' := [(6, .int y26), (5, .int y7), (0, .ref b), (1, .ref (G.2.2 0)), (2, .ref (G.2.2 22)), (3, .ref oa), (4, .int u4)]) hx hb dL_law__2243 hl (by decide) rfl (fun ls hl => ?_)
      refine lv_aload_n hx hb dL_law__2245 rfl (lv_at hl 4 rfl) ?_
      obtain ⟨y29, h28, h⟩ := ob_R_some h
      refine o_VI (As := []) E hw (kX10_thrown (l := l) (G := G) (SG_ok Z) h28) yy_X10_thrown lm_RL_141 rfl (by decide) rfl rfl hl.1 (by decide) (hf0 (by omega) (by omega)) (by decide) rfl (Nat.le_of_ble_eq_true rfl) dL_law__2246 (fun H locs hw => ?_)
      refine lv_iload hx hb dL_law__2249 (lv_at hl 1 rfl) ?_
      refine lv_icmp_eq (tgt := 2256) hx hb dL_law__2251 (by decide) (fun c34 => ?_) (fun c34 => ?_)
      · rw [if_pos c34] at h
        refine lv_iload hx hb dL_law__2256 (lv_at hl 1 rfl) ?_
        refine lv_if_ne (tgt := 2273) hx hb dL_law__2258 (by decide) (fun c33 => ?_) (fun c33 => ?_)
        · rw [if_neg c33] at h
          refine lv_goto (tgt := 2599) hx hb dL_law__2273 (by decide) ?_
          obtain ⟨y30, ey30, h⟩ := lt_some h
          refine lv_iinc (v := y30) (lv' := [(4, .int y30), (6, .int y26), (5, .int y7), (0, .ref b), (1, .ref (G.2.2 0)), (2, .ref (G.2.2 22)), (3, .ref oa)]) hx hb dL_law__2599 hl (k := 6) rfl (by rw [ey30]; rfl) (by decide) rfl (fun ls hl => ?_)
          refine lv_goto (tgt := 23) hx hb dL_law__2602 (by decide) ?_
          subst ey30
          exact kc V27 w6 (Option.some.inj h).symm H locs ls _ _ hw (lv_sub hl [3, 4, 5, 6, 0] rfl) (by omega) (by omega)
        · rw [if_pos c33] at h
          refine lv_aload_n hx hb dL_law__2261 rfl (lv_at hl 5 rfl) ?_
          refine lv_iconst (v := (0 : Int32)) hx hb dL_law__2262 (by decide) ?_
          refine o_ll E hw vp_0_1 dL_law__2263 ?_
          refine lv_iload hx hb dL_law__2264 (lv_at hl 0 rfl) ?_
          refine lv_i2l hx hb dL_law__2266 rfl ?_
          refine W.lcmp hx hb dL_law__2267 ?_
          refine lv_if_eq (tgt := 2273) hx hb dL_law__2268 (by decide) (fun c32 => ?_) (fun c32 => ?_)
          · rw [if_pos c32] at h
            refine lv_goto (tgt := 2599) hx hb dL_law__2273 (by decide) ?_
            obtain ⟨y31, ey31, h⟩ := lt_some h
            refine lv_iinc (v := y31) (lv' := [(4, .int y31), (6, .int y26), (5, .int y7), (0, .ref b), (1, .ref (G.2.2 0)), (2, .ref (G.2.2 22)), (3, .ref oa)]) hx hb dL_law__2599 hl (k := 6) rfl (by rw [ey31]; rfl) (by decide) rfl (fun ls hl => ?_)
            refine lv_goto (tgt := 23) hx hb dL_law__2602 (by decide) ?_
            subst ey31
            exact kc V27 w6 (Option.some.inj h).symm H locs ls _ _ hw (lv_sub hl [3, 4, 5, 6, 0] rfl) (by omega) (by omega)
          · rw [if_neg c32] at h
            refine lv_iconst (v := (0 : Int32)) hx hb dL_law__2271 (by decide) ?_
            exact absurd (k1 _ (Option.some.inj h).symm) (by decide)
      · rw [if_neg c34] at h
        refine lv_iconst (v := (0 : Int32)) hx hb dL_law__2254 (by decide) ?_
        exact absurd (k1 _ (Option.some.inj h).symm) (by decide)
  · rw [if_neg c67] at h
    refine lv_iconst (v := (1 : Int32)) hx hb dL_law__2208 (by decide) ?_
    refine lv_goto (tgt := 2213) hx hb dL_law__2209 (by decide) ?_
    refine lv_aload_n hx hb dL_law__2213 rfl (lv_at hl 3 rfl) ?_
    obtain ⟨o36, V41, h39, h⟩ := ob_I_some h
    obtain ⟨⟨y38, w37⟩, h40, h⟩ := ob_R_some h
    have h := dt2_eq h
    refine o_SH (n := 4) (As := [.ref (G.2.2 0), .int z2, .int (1 : Int32), .ref oa]) E hw (kL_trial (l := l) (G := G) (Z := Z) (oa := oa) ht h39 h40) yw_L_trial lw_ini lm_RL_247 ⟨by decide, by decide, by decide +kernel⟩ rfl hl.1 (by decide) (hfc 1 (by decide)) (by decide) rfl (Nat.le_of_ble_eq_true rfl) dL_law__2214 (fun H locs hw => ?_)
    refine lv_istore (lv' := [(5, .int y38), (0, .ref b), (1, .ref (G.2.2 0)), (2, .ref (G.2.2 22)), (3, .ref oa), (4, .int u4)]) hx hb dL_law__2217 hl (by decide) rfl (fun ls hl => ?_)
    refine lv_aload_n hx hb dL_law__2219 rfl (lv_at hl 3 rfl) ?_
    refine lv_aload_n hx hb dL_law__2220 rfl (lv_at hl 1 rfl) ?_
    refine lv_iload hx hb dL_law__2221 (lv_at hl 5 rfl) ?_
    refine lv_iconst (v := (1 : Int32)) hx hb dL_law__2223 (by decide) ?_
    refine lv_iadd hx hb dL_law__2224 ?_
    obtain ⟨b42, h⟩ := rd_some h
    obtain ⟨z43, ez43, h⟩ := lt_some h
    refine va_sld hx hb hX hbl hbA hw.2.2 b42 dL_law__2225 ?_
    refine lv_eqi ez43 ?_
    refine lv_aload_n hx hb dL_law__2226 rfl (lv_at hl 1 rfl) ?_
    refine lv_iload hx hb dL_law__2227 (lv_at hl 5 rfl) ?_
    refine lv_iconst (v := (2 : Int32)) hx hb dL_law__2229 (by decide) ?_
    refine lv_iadd hx hb dL_law__2230 ?_
    obtain ⟨b44, h⟩ := rd_some h
    obtain ⟨z45, ez45, h⟩ := lt_some h
    refine va_sld hx hb hX hbl hbA hw.2.2 b44 dL_law__2231 ?_
    refine lv_eqi ez45 ?_
    refine lv_if_eq (tgt := 2239) hx hb dL_law__2232 (by decide) (fun c66 => ?_) (fun c66 => ?_)
    · rw [if_pos c66] at h
      refine lv_iconst (v := (0 : Int32)) hx hb dL_law__2239 (by decide) ?_
      obtain ⟨y47, V48, h46, h⟩ := ob_I_some h
      refine o_VI (As := [.int z43, .int (0 : Int32)]) E hw (kX10_trial (l := l) (G := G) (SG_ok Z) h46) yy_X10_trial lm_RL_249 rfl (by decide) rfl rfl hl.1 (by decide) (hf0 (by omega) (by omega)) (by decide) rfl (Nat.le_of_ble_eq_true rfl) dL_law__2240 (fun H locs hw => ?_)
      refine lv_istore (lv' := [(6, .int y47), (5, .int y38), (0, .ref b), (1, .ref (G.2.2 0)), (2, .ref (G.2.2 22)), (3, .ref oa), (4, .int u4)]) hx hb dL_law__2243 hl (by decide) rfl (fun ls hl => ?_)
      refine lv_aload_n hx hb dL_law__2245 rfl (lv_at hl 4 rfl) ?_
      obtain ⟨y50, h49, h⟩ := ob_R_some h
      refine o_VI (As := []) E hw (kX10_thrown (l := l) (G := G) (SG_ok Z) h49) yy_X10_thrown lm_RL_141 rfl (by decide) rfl rfl hl.1 (by decide) (hf0 (by omega) (by omega)) (by decide) rfl (Nat.le_of_ble_eq_true rfl) dL_law__2246 (fun H locs hw => ?_)
      refine lv_iload hx hb dL_law__2249 (lv_at hl 1 rfl) ?_
      refine lv_icmp_eq (tgt := 2256) hx hb dL_law__2251 (by decide) (fun c55 => ?_) (fun c55 => ?_)
      · rw [if_pos c55] at h
        refine lv_iload hx hb dL_law__2256 (lv_at hl 1 rfl) ?_
        refine lv_if_ne (tgt := 2273) hx hb dL_law__2258 (by decide) (fun c54 => ?_) (fun c54 => ?_)
        · rw [if_neg c54] at h
          refine lv_goto (tgt := 2599) hx hb dL_law__2273 (by decide) ?_
          obtain ⟨y51, ey51, h⟩ := lt_some h
          refine lv_iinc (v := y51) (lv' := [(4, .int y51), (6, .int y47), (5, .int y38), (0, .ref b), (1, .ref (G.2.2 0)), (2, .ref (G.2.2 22)), (3, .ref oa)]) hx hb dL_law__2599 hl (k := 6) rfl (by rw [ey51]; rfl) (by decide) rfl (fun ls hl => ?_)
          refine lv_goto (tgt := 23) hx hb dL_law__2602 (by decide) ?_
          subst ey51
          exact kc V48 w37 (Option.some.inj h).symm H locs ls _ _ hw (lv_sub hl [3, 4, 5, 6, 0] rfl) (by omega) (by omega)
        · rw [if_pos c54] at h
          refine lv_aload_n hx hb dL_law__2261 rfl (lv_at hl 5 rfl) ?_
          refine lv_iconst (v := (0 : Int32)) hx hb dL_law__2262 (by decide) ?_
          refine o_ll E hw vp_0_1 dL_law__2263 ?_
          refine lv_iload hx hb dL_law__2264 (lv_at hl 0 rfl) ?_
          refine lv_i2l hx hb dL_law__2266 rfl ?_
          refine W.lcmp hx hb dL_law__2267 ?_
          refine lv_if_eq (tgt := 2273) hx hb dL_law__2268 (by decide) (fun c53 => ?_) (fun c53 => ?_)
          · rw [if_pos c53] at h
            refine lv_goto (tgt := 2599) hx hb dL_law__2273 (by decide) ?_
            obtain ⟨y52, ey52, h⟩ := lt_some h
            refine lv_iinc (v := y52) (lv' := [(4, .int y52), (6, .int y47), (5, .int y38), (0, .ref b), (1, .ref (G.2.2 0)), (2, .ref (G.2.2 22)), (3, .ref oa)]) hx hb dL_law__2599 hl (k := 6) rfl (by rw [ey52]; rfl) (by decide) rfl (fun ls hl => ?_)
            refine lv_goto (tgt := 23) hx hb dL_law__2602 (by decide) ?_
            subst ey52
            exact kc V48 w37 (Option.some.inj h).symm H locs ls _ _ hw (lv_sub hl [3, 4, 5, 6, 0] rfl) (by omega) (by omega)
          · rw [if_neg c53] at h
            refine lv_iconst (v := (0 : Int32)) hx hb dL_law__2271 (by decide) ?_
            exact absurd (k1 _ (Option.some.inj h).symm) (by decide)
      · rw [if_neg c55] at h
        refine lv_iconst (v := (0 : Int32)) hx hb dL_law__2254 (by decide) ?_
        exact absurd (k1 _ (Option.some.inj h).symm) (by decide)
    · rw [if_neg c66] at h
      refine lv_iconst (v := (1 : Int32)) hx hb dL_law__2235 (by decide) ?_
      refine lv_goto (tgt := 2240) hx hb dL_law__2236 (by decide) ?_
      obtain ⟨y57, V58, h56, h⟩ := ob_I_some h
      refine o_VI (As := [.int z43, .int (1 : Int32)]) E hw (kX10_trial (l := l) (G := G) (SG_ok Z) h56) yy_X10_trial lm_RL_249 rfl (by decide) rfl rfl hl.1 (by decide) (hf0 (by omega) (by omega)) (by decide) rfl (Nat.le_of_ble_eq_true rfl) dL_law__2240 (fun H locs hw => ?_)
      refine lv_istore (lv' := [(6, .int y57), (5, .int y38), (0, .ref b), (1, .ref (G.2.2 0)), (2, .ref (G.2.2 22)), (3, .ref oa), (4, .int u4)]) hx hb dL_law__2243 hl (by decide) rfl (fun ls hl => ?_)
      refine lv_aload_n hx hb dL_law__2245 rfl (lv_at hl 4 rfl) ?_
      obtain ⟨y60, h59, h⟩ := ob_R_some h
      refine o_VI (As := []) E hw (kX10_thrown (l := l) (G := G) (SG_ok Z) h59) yy_X10_thrown lm_RL_141 rfl (by decide) rfl rfl hl.1 (by decide) (hf0 (by omega) (by omega)) (by decide) rfl (Nat.le_of_ble_eq_true rfl) dL_law__2246 (fun H locs hw => ?_)
      refine lv_iload hx hb dL_law__2249 (lv_at hl 1 rfl) ?_
      refine lv_icmp_eq (tgt := 2256) hx hb dL_law__2251 (by decide) (fun c65 => ?_) (fun c65 => ?_)
      · rw [if_pos c65] at h
        refine lv_iload hx hb dL_law__2256 (lv_at hl 1 rfl) ?_
        refine lv_if_ne (tgt := 2273) hx hb dL_law__2258 (by decide) (fun c64 => ?_) (fun c64 => ?_)
        · rw [if_neg c64] at h
          refine lv_goto (tgt := 2599) hx hb dL_law__2273 (by decide) ?_
          obtain ⟨y61, ey61, h⟩ := lt_some h
          refine lv_iinc (v := y61) (lv' := [(4, .int y61), (6, .int y57), (5, .int y38), (0, .ref b), (1, .ref (G.2.2 0)), (2, .ref (G.2.2 22)), (3, .ref oa)]) hx hb dL_law__2599 hl (k := 6) rfl (by rw [ey61]; rfl) (by decide) rfl (fun ls hl => ?_)
          refine lv_goto (tgt := 23) hx hb dL_law__2602 (by decide) ?_
          subst ey61
          exact kc V58 w37 (Option.some.inj h).symm H locs ls _ _ hw (lv_sub hl [3, 4, 5, 6, 0] rfl) (by omega) (by omega)
        · rw [if_pos c64] at h
          refine lv_aload_n hx hb dL_law__2261 rfl (lv_at hl 5 rfl) ?_
          refine lv_iconst (v := (0 : Int32)) hx hb dL_law__2262 (by decide) ?_
          refine o_ll E hw vp_0_1 dL_law__2263 ?_
          refine lv_iload hx hb dL_law__2264 (lv_at hl 0 rfl) ?_
          refine lv_i2l hx hb dL_law__2266 rfl ?_
          refine W.lcmp hx hb dL_law__2267 ?_
          refine lv_if_eq (tgt := 2273) hx hb dL_law__2268 (by decide) (fun c63 => ?_) (fun c63 => ?_)
          · rw [if_pos c63] at h
            refine lv_goto (tgt := 2599) hx hb dL_law__2273 (by decide) ?_
            obtain ⟨y62, ey62, h⟩ := lt_some h
            refine lv_iinc (v := y62) (lv' := [(4, .int y62), (6, .int y57), (5, .int y38), (0, .ref b), (1, .ref (G.2.2 0)), (2, .ref (G.2.2 22)), (3, .ref oa)]) hx hb dL_law__2599 hl (k := 6) rfl (by rw [ey62]; rfl) (by decide) rfl (fun ls hl => ?_)
            refine lv_goto (tgt := 23) hx hb dL_law__2602 (by decide) ?_
            subst ey62
            exact kc V58 w37 (Option.some.inj h).symm H locs ls _ _ hw (lv_sub hl [3, 4, 5, 6, 0] rfl) (by omega) (by omega)
          · rw [if_neg c63] at h
            refine lv_iconst (v := (0 : Int32)) hx hb dL_law__2271 (by decide) ?_
            exact absurd (k1 _ (Option.some.inj h).symm) (by decide)
      · rw [if_neg c65] at h
        refine lv_iconst (v := (0 : Int32)) hx hb dL_law__2254 (by decide) ?_
        exact absurd (k1 _ (Option.some.inj h).symm) (by decide)
theorem dL_law__2276 : decode cL_law_ 2276 = .ok (.aload_n 1, 1) := by decide +kernel
theorem dL_law__2277 : decode cL_law_ 2277 = .ok (.aload_n 0, 1) := by decide +kernel
theorem dL_law__2278 : decode cL_law_ 2278 = .ok (.iload 4, 2) := by decide +kernel
theorem dL_law__2280 : decode cL_law_ 2280 = .ok (.iconst 1, 1) := by decide +kernel
theorem dL_law__2281 : decode cL_law_ 2281 = .ok (.iadd, 1) := by decide +kernel
theorem dL_law__2282 : decode cL_law_ 2282 = .ok (.iaload, 1) := by decide +kernel
theorem dL_law__2283 : decode cL_law_ 2283 = .ok (.aload_n 0, 1) := by decide +kernel
theorem dL_law__2284 : decode cL_law_ 2284 = .ok (.iload 4, 2) := by decide +kernel
theorem dL_law__2286 : decode cL_law_ 2286 = .ok (.iconst 2, 1) := by decide +kernel
theorem dL_law__2287 : decode cL_law_ 2287 = .ok (.iadd, 1) := by decide +kernel
theorem dL_law__2288 : decode cL_law_ 2288 = .ok (.iaload, 1) := by decide +kernel
theorem dL_law__2289 : decode cL_law_ 2289 = .ok (.ifCond .eq 7, 3) := by decide +kernel
theorem dL_law__2292 : decode cL_law_ 2292 = .ok (.iconst 1, 1) := by decide +kernel
theorem dL_law__2293 : decode cL_law_ 2293 = .ok (.goto 4, 3) := by decide +kernel
theorem dL_law__2296 : decode cL_law_ 2296 = .ok (.iconst 0, 1) := by decide +kernel
theorem dL_law__2297 : decode cL_law_ 2297 = .ok (.aload_n 3, 1) := by decide +kernel
theorem dL_law__2298 : decode cL_law_ 2298 = .ok (.invokestatic 250, 3) := by decide +kernel
theorem dL_law__2301 : decode cL_law_ 2301 = .ok (.istore 5, 2) := by decide +kernel
theorem dL_law__2303 : decode cL_law_ 2303 = .ok (.aload_n 2, 1) := by decide +kernel
theorem dL_law__2304 : decode cL_law_ 2304 = .ok (.aload_n 0, 1) := by decide +kernel
theorem dL_law__2305 : decode cL_law_ 2305 = .ok (.iload 4, 2) := by decide +kernel
theorem dL_law__2307 : decode cL_law_ 2307 = .ok (.iconst 1, 1) := by decide +kernel
theorem dL_law__2308 : decode cL_law_ 2308 = .ok (.iadd, 1) := by decide +kernel
theorem dL_law__2309 : decode cL_law_ 2309 = .ok (.iaload, 1) := by decide +kernel
theorem dL_law__2310 : decode cL_law_ 2310 = .ok (.aload_n 0, 1) := by decide +kernel
theorem dL_law__2311 : decode cL_law_ 2311 = .ok (.iload 4, 2) := by decide +kernel
theorem dL_law__2313 : decode cL_law_ 2313 = .ok (.iconst 2, 1) := by decide +kernel
theorem dL_law__2314 : decode cL_law_ 2314 = .ok (.iadd, 1) := by decide +kernel
theorem dL_law__2315 : decode cL_law_ 2315 = .ok (.iaload, 1) := by decide +kernel
theorem dL_law__2316 : decode cL_law_ 2316 = .ok (.ifCond .eq 7, 3) := by decide +kernel
theorem dL_law__2319 : decode cL_law_ 2319 = .ok (.iconst 1, 1) := by decide +kernel
theorem dL_law__2320 : decode cL_law_ 2320 = .ok (.goto 4, 3) := by decide +kernel
theorem dL_law__2323 : decode cL_law_ 2323 = .ok (.iconst 0, 1) := by decide +kernel
theorem dL_law__2324 : decode cL_law_ 2324 = .ok (.invokevirtual 252, 3) := by decide +kernel
theorem dL_law__2327 : decode cL_law_ 2327 = .ok (.istore 6, 2) := by decide +kernel
theorem dL_law__2329 : decode cL_law_ 2329 = .ok (.aload_n 2, 1) := by decide +kernel
theorem dL_law__2330 : decode cL_law_ 2330 = .ok (.invokevirtual 141, 3) := by decide +kernel
theorem dL_law__2333 : decode cL_law_ 2333 = .ok (.iload 5, 2) := by decide +kernel
theorem dL_law__2335 : decode cL_law_ 2335 = .ok (.if_icmp .eq 5, 3) := by decide +kernel
theorem dL_law__2338 : decode cL_law_ 2338 = .ok (.iconst 0, 1) := by decide +kernel
theorem dL_law__2339 : decode cL_law_ 2339 = .ok (.ireturn, 1) := by decide +kernel
theorem dL_law__2340 : decode cL_law_ 2340 = .ok (.iload 5, 2) := by decide +kernel
theorem dL_law__2342 : decode cL_law_ 2342 = .ok (.ifCond .ne 15, 3) := by decide +kernel
theorem dL_law__2345 : decode cL_law_ 2345 = .ok (.aload_n 3, 1) := by decide +kernel
theorem dL_law__2346 : decode cL_law_ 2346 = .ok (.iconst 0, 1) := by decide +kernel
theorem dL_law__2347 : decode cL_law_ 2347 = .ok (.laload, 1) := by decide +kernel
theorem dL_law__2348 : decode cL_law_ 2348 = .ok (.iload 6, 2) := by decide +kernel
theorem dL_law__2350 : decode cL_law_ 2350 = .ok (.i2l, 1) := by decide +kernel
theorem dL_law__2351 : decode cL_law_ 2351 = .ok (.lcmp, 1) := by decide +kernel
theorem dL_law__2352 : decode cL_law_ 2352 = .ok (.ifCond .eq 5, 3) := by decide +kernel
theorem dL_law__2355 : decode cL_law_ 2355 = .ok (.iconst 0, 1) := by decide +kernel
theorem dL_law__2356 : decode cL_law_ 2356 = .ok (.ireturn, 1) := by decide +kernel
theorem dL_law__2357 : decode cL_law_ 2357 = .ok (.goto 242, 3) := by decide +kernel
/-! opcode 35 -/
noncomputable def fL_c35 (xs : Nat → Int32) (L : Nat) (V : VT) (ov : Nat → Int64) (u4 : Int32) : Option ((VT × (Nat → Int64) × Int32) ⊕ Int32) := rd_ (u4 + (1 : Int32)) L (lt_ (xs (u4 + (1 : Int32)).toNatClampNeg) fun z2 => rd_ (u4 + (2 : Int32)) L (lt_ (xs (u4 + (2 : Int32)).toNatClampNeg) fun z4 => if z4 = 0 then (ob_I (fX9_span V z2 (0 : Int32)) fun o5 V10 => ob_R (hL_span o5 ov) fun qy7 => dt2_ qy7 fun y7 w6 => rd_ (u4 + (1 : Int32)) L (lt_ (xs (u4 + (1 : Int32)).toNatClampNeg) fun z12 => rd_ (u4 + (2 : Int32)) L (lt_ (xs (u4 + (2 : Int32)).toNatClampNeg) fun z14 => if z14 = 0 then (ob_I (fX10_span V10 z12 (0 : Int32)) fun y16 V17 => ob_R (fX10_thrown V17 ) fun y19 => if y19 = y7 then (if y7 = 0 then (if (lg_cmp (w6 ((0 : Int32).toNatClampNeg)) y16.toInt64) = 0 then (lt_ (u4 + (6 : Int32)) fun y21 => some (.inl (V17, w6, y21))) else (some (.inr (0 : Int32)))) else (lt_ (u4 + (6 : Int32)) fun y20 => some (.inl (V17, w6, y20)))) else (some (.inr (0 : Int32)))) else (ob_I (fX10_span V10 z12 (1 : Int32)) fun y26 V27 => ob_R (fX10_thrown V27 ) fun y29 => if y29 = y7 then (if y7 = 0 then (if (lg_cmp (w6 ((0 : Int32).toNatClampNeg)) y26.toInt64) = 0 then (lt_ (u4 + (6 : Int32)) fun y31 => some (.inl (V27, w6, y31))) else (some (.inr (0 : Int32)))) else (lt_ (u4 + (6 : Int32)) fun y30 => some (.inl (V27, w6, y30)))) else (some (.inr (0 : Int32))))))) else (ob_I (fX9_span V z2 (1 : Int32)) fun o36 V41 => ob_R (hL_span o36 ov) fun qy38 => dt2_ qy38 fun y38 w37 => rd_ (u4 + (1 : Int32)) L (lt_ (xs (u4 + (1 : Int32)).toNatClampNeg) fun z43 => rd_ (u4 + (2 : Int32)) L (lt_ (xs (u4 + (2 : Int32)).toNatClampNeg) fun z45 => if z45 = 0 then (ob_I (fX10_span V41 z43 (0 : Int32)) fun y47 V48 => ob_R (fX10_thrown V48 ) fun y50 => if y50 = y38 then (if y38 = 0 then (if (lg_cmp (w37 ((0 : Int32).toNatClampNeg)) y47.toInt64) = 0 then (lt_ (u4 + (6 : Int32)) fun y52 => some (.inl (V48, w37, y52))) else (some (.inr (0 : Int32)))) else (lt_ (u4 + (6 : Int32)) fun y51 => some (.inl (V48, w37, y51)))) else (some (.inr (0 : Int32)))) else (ob_I (fX10_span V41 z43 (1 : Int32)) fun y57 V58 => ob_R (fX10_thrown V58 ) fun y60 => if y60 = y38 then (if y38 = 0 then (if (lg_cmp (w37 ((0 : Int32).toNatClampNeg)) y57.toInt64) = 0 then (lt_ (u4 + (6 : Int32)) fun y62 => some (.inl (V58, w37, y62))) else (some (.inr (0 : Int32)))) else (lt_ (u4 + (6 : Int32)) fun y61 => some (.inl (V58, w37, y61)))) else (some (.inr (0 : Int32)))))))))
set_option maxHeartbeats 4000000 in
set_option maxRecDepth 100000 in
theorem wL_c35 {p : Program} {l : Launch} {e : Env} {s : State} {m : MethodId} {args : Array Value} {below : List Frame} {meth : Method} {c : Code} {G : GT} {Z : Nat → Nat × Nat} {oa b L : Nat} {xs : Nat → Int32} {Q : State → Prop} (E : EO p s m args c meth cL_law_ 7 RL (some .boolean) G (SH Z) oa) (ht : l.stackTraces = false) (hX : va_X b L xs s s.heap) (hbl : b < s.heap.size) (hbA : ¬ gO G oa s.heap.size b) (hL : L ≤ 3072) {C0 S0 : Nat} (hC0 : C0 ≤ 100000) (hS0 : S0 ≤ 1000000) {V : VT} {ov : Nat → Int64} {u4 : Int32} {r : ((VT × (Nat → Int64) × Int32) ⊕ Int32)} (h : fL_c35 xs L V ov u4 = some r) (k1 : ∀ y, r = .inr y → y = 1) (kc : ∀ (V2 : VT) (ov2 : Nat → Int64), r = .inl (V2, ov2, u4 + 6) → ∀ (H : Heap) (locs : List Loc) (ls : Array Slot) (cells slots : Nat), HO G oa s.heap (V2) (ov2) H locs → lv_has ls 7 [(0, .ref b), (1, .ref (G.2.2 0)), (2, .ref (G.2.2 22)), (3, .ref oa), (4, .int (u4 + 6))] → cells ≤ C0 + 3 → slots ≤ S0 + 18 → W p l e room_1 s m args below meth c H locs cells slots Q (F0 m 23 ls [])) {H : Heap} {locs : List Loc} {ls : Array Slot} {cells slots : Nat} (hw : HO G oa s.heap V ov H locs) (hl : lv_has ls 7 [(0, .ref b), (1, .ref (G.2.2 0)), (2, .ref (G.2.2 22)), (3, .ref oa), (4, .int u4)]) (hce : cells ≤ C0) (hsl : slots ≤ S0) : W p l e room_1 s m args below meth c H locs cells slots Q (F0 m 2276 ls []) := by
  have hx := E.1
  have hb := E.2.1
  have hfc : ∀ K : Nat, K ≤ 3 → cells + K ≤ room_1.cells ∧ slots + 6 * K ≤ room_1.slots := fun K hK => ⟨by show cells + K ≤ 601024; omega, by show slots + 6 * K ≤ 7293034; omega⟩
  have hf0 : ∀ {c9 s9 : Nat}, c9 ≤ C0 + 3 → s9 ≤ S0 + 18 → c9 ≤ room_1.cells ∧ s9 ≤ room_1.slots := fun h1 h2 => ⟨by show _ ≤ 601024; omega, by show _ ≤ 7293034; omega⟩
  unfold fL_c35 at h
  refine lv_aload_n hx hb dL_law__2276 rfl (lv_at hl 1 rfl) ?_
  refine lv_aload_n hx hb dL_law__2277 rfl (lv_at hl 0 rfl) ?_
  refine lv_iload hx hb dL_law__2278 (lv_at hl 4 rfl) ?_
  refine lv_iconst (v := (1 : Int32)) hx hb dL_law__2280 (by decide) ?_
  refine lv_iadd hx hb dL_law__2281 ?_
  obtain ⟨b1, h⟩ := rd_some h
  obtain ⟨z2, ez2, h⟩ := lt_some h
  refine va_sld hx hb hX hbl hbA hw.2.2 b1 dL_law__2282 ?_
  refine lv_eqi ez2 ?_
  refine lv_aload_n hx hb dL_law__2283 rfl (lv_at hl 0 rfl) ?_
  refine lv_iload hx hb dL_law__2284 (lv_at hl 4 rfl) ?_
  refine lv_iconst (v := (2 : Int32)) hx hb dL_law__2286 (by decide) ?_
  refine lv_iadd hx hb dL_law__2287 ?_
  obtain ⟨b3, h⟩ := rd_some h
  obtain ⟨z4, ez4, h⟩ := lt_some h
  refine va_sld hx hb hX hbl hbA hw.2.2 b3 dL_law__2288 ?_
  refine lv_eqi ez4 ?_
  refine lv_if_eq (tgt := 2296) hx hb dL_law__2289 (by decide) (fun c67 => ?_) (fun c67 => ?_)
  · rw [if_pos c67] at h
    refine lv_iconst (v := (0 : Int32)) hx hb dL_law__2296 (by decide) ?_
    refine lv_aload_n hx hb dL_law__2297 rfl (lv_at hl 3 rfl) ?_
    obtain ⟨o5, V10, h8, h⟩ := ob_I_some h
    obtain ⟨⟨y7, w6⟩, h9, h⟩ := ob_R_some h
    have h := dt2_eq h
    refine o_SH (n := 4) (As := [.ref (G.2.2 0), .int z2, .int (0 : Int32), .ref oa]) E hw (kL_span (l := l) (G := G) (Z := Z) (oa := oa) ht h8 h9) yw_L_span lw_ini lm_RL_250 ⟨by decide, by decide, by decide +kernel⟩ rfl hl.1 (by decide) (hfc 1 (by decide)) (by decide) rfl (Nat.le_of_ble_eq_true rfl) dL_law__2298 (fun H locs hw => ?_)
    refine lv_istore (lv' := [(5, .int y7), (0, .ref b), (1, .ref (G.2.2 0)), (2, .ref (G.2.2 22)), (3, .ref oa), (4, .int u4)]) hx hb dL_law__2301 hl (by decide) rfl (fun ls hl => ?_)
    refine lv_aload_n hx hb dL_law__2303 rfl (lv_at hl 3 rfl) ?_
    refine lv_aload_n hx hb dL_law__2304 rfl (lv_at hl 1 rfl) ?_
    refine lv_iload hx hb dL_law__2305 (lv_at hl 5 rfl) ?_
    refine lv_iconst (v := (1 : Int32)) hx hb dL_law__2307 (by decide) ?_
    refine lv_iadd hx hb dL_law__2308 ?_
    obtain ⟨b11, h⟩ := rd_some h
    obtain ⟨z12, ez12, h⟩ := lt_some h
    refine va_sld hx hb hX hbl hbA hw.2.2 b11 dL_law__2309 ?_
    refine lv_eqi ez12 ?_
    refine lv_aload_n hx hb dL_law__2310 rfl (lv_at hl 1 rfl) ?_
    refine lv_iload hx hb dL_law__2311 (lv_at hl 5 rfl) ?_
    refine lv_iconst (v := (2 : Int32)) hx hb dL_law__2313 (by decide) ?_
    refine lv_iadd hx hb dL_law__2314 ?_
    obtain ⟨b13, h⟩ := rd_some h
    obtain ⟨z14, ez14, h⟩ := lt_some h
    refine va_sld hx hb hX hbl hbA hw.2.2 b13 dL_law__2315 ?_
    refine lv_eqi ez14 ?_
    refine lv_if_eq (tgt := 2323) hx hb dL_law__2316 (by decide) (fun c35 => ?_) (fun c35 => ?_)
    · rw [if_pos c35] at h
      refine lv_iconst (v := (0 : Int32)) hx hb dL_law__2323 (by decide) ?_
      obtain ⟨y16, V17, h15, h⟩ := ob_I_some h
      refine o_VI (As := [.int z12, .int (0 : Int32)]) E hw (kX10_span (l := l) (G := G) (SG_ok Z) h15) yy_X10_span lm_RL_252 rfl (by decide) rfl rfl hl.1 (by decide) (hf0 (by omega) (by omega)) (by decide) rfl (Nat.le_of_ble_eq_true rfl) dL_law__2324 (fun H locs hw => ?_)
      refine lv_istore (lv' := [(6, .int y16), (5, .int y7), (0, .ref b), (1, .ref (G.2.2 0)), (2, .ref (G.2.2 22)), (3, .ref oa), (4, .int u4)]) hx hb dL_law__2327 hl (by decide) rfl (fun ls hl => ?_)
      refine lv_aload_n hx hb dL_law__2329 rfl (lv_at hl 4 rfl) ?_
      obtain ⟨y19, h18, h⟩ := ob_R_some h
      refine o_VI (As := []) E hw (kX10_thrown (l := l) (G := G) (SG_ok Z) h18) yy_X10_thrown lm_RL_141 rfl (by decide) rfl rfl hl.1 (by decide) (hf0 (by omega) (by omega)) (by decide) rfl (Nat.le_of_ble_eq_true rfl) dL_law__2330 (fun H locs hw => ?_)
      refine lv_iload hx hb dL_law__2333 (lv_at hl 1 rfl) ?_
      refine lv_icmp_eq (tgt := 2340) hx hb dL_law__2335 (by decide) (fun c24 => ?_) (fun c24 => ?_)
      · rw [if_pos c24] at h
        refine lv_iload hx hb dL_law__2340 (lv_at hl 1 rfl) ?_
        refine lv_if_ne (tgt := 2357) hx hb dL_law__2342 (by decide) (fun c23 => ?_) (fun c23 => ?_)
        · rw [if_neg c23] at h
          refine lv_goto (tgt := 2599) hx hb dL_law__2357 (by decide) ?_
          obtain ⟨y20, ey20, h⟩ := lt_some h
          refine lv_iinc (v := y20) (lv' := [(4, .int y20), (6, .int y16), (5, .int y7), (0, .ref b), (1, .ref (G.2.2 0)), (2, .ref (G.2.2 22)), (3, .ref oa)]) hx hb dL_law__2599 hl (k := 6) rfl (by rw [ey20]; rfl) (by decide) rfl (fun ls hl => ?_)
          refine lv_goto (tgt := 23) hx hb dL_law__2602 (by decide) ?_
          subst ey20
          exact kc V17 w6 (Option.some.inj h).symm H locs ls _ _ hw (lv_sub hl [3, 4, 5, 6, 0] rfl) (by omega) (by omega)
        · rw [if_pos c23] at h
          refine lv_aload_n hx hb dL_law__2345 rfl (lv_at hl 5 rfl) ?_
          refine lv_iconst (v := (0 : Int32)) hx hb dL_law__2346 (by decide) ?_
          refine o_ll E hw vp_0_1 dL_law__2347 ?_
          refine lv_iload hx hb dL_law__2348 (lv_at hl 0 rfl) ?_
          refine lv_i2l hx hb dL_law__2350 rfl ?_
          refine W.lcmp hx hb dL_law__2351 ?_
          refine lv_if_eq (tgt := 2357) hx hb dL_law__2352 (by decide) (fun c22 => ?_) (fun c22 => ?_)
          · rw [if_pos c22] at h
            refine lv_goto (tgt := 2599) hx hb dL_law__2357 (by decide) ?_
            obtain ⟨y21, ey21, h⟩ := lt_some h
            refine lv_iinc (v := y21) (lv' := [(4, .int y21), (6, .int y16), (5, .int y7), (0, .ref b), (1, .ref (G.2.2 0)), (2, .ref (G.2.2 22)), (3, .ref oa)]) hx hb dL_law__2599 hl (k := 6) rfl (by rw [ey21]; rfl) (by decide) rfl (fun ls hl => ?_)
            refine lv_goto (tgt := 23) hx hb dL_law__2602 (by decide) ?_
            subst ey21
            exact kc V17 w6 (Option.some.inj h).symm H locs ls _ _ hw (lv_sub hl [3, 4, 5, 6, 0] rfl) (by omega) (by omega)
          · rw [if_neg c22] at h
            refine lv_iconst (v := (0 : Int32)) hx hb dL_law__2355 (by decide) ?_
            exact absurd (k1 _ (Option.some.inj h).symm) (by decide)
      · rw [if_neg c24] at h
        refine lv_iconst (v := (0 : Int32)) hx hb dL_law__2338 (by decide) ?_
        exact absurd (k1 _ (Option.some.inj h).symm) (by decide)
    · rw [if_neg c35] at h
      refine lv_iconst (v := (1 : Int32)) hx hb dL_law__2319 (by decide) ?_
      refine lv_goto (tgt := 2324) hx hb dL_law__2320 (by decide) ?_
      obtain ⟨y26, V27, h25, h⟩ := ob_I_some h
      refine o_VI (As := [.int z12, .int (1 : Int32)]) E hw (kX10_span (l := l) (G := G) (SG_ok Z) h25) yy_X10_span lm_RL_252 rfl (by decide) rfl rfl hl.1 (by decide) (hf0 (by omega) (by omega)) (by decide) rfl (Nat.le_of_ble_eq_true rfl) dL_law__2324 (fun H locs hw => ?_)
      refine lv_istore (lv' := [(6, .int y26), (5, .int y7), (0, .ref b), (1, .ref (G.2.2 0)), (2, .ref (G.2.2 22)), (3, .ref oa), (4, .int u4)]) hx hb dL_law__2327 hl (by decide) rfl (fun ls hl => ?_)
      refine lv_aload_n hx hb dL_law__2329 rfl (lv_at hl 4 rfl) ?_
      obtain ⟨y29, h28, h⟩ := ob_R_some h
      refine o_VI (As := []) E hw (kX10_thrown (l := l) (G := G) (SG_ok Z) h28) yy_X10_thrown lm_RL_141 rfl (by decide) rfl rfl hl.1 (by decide) (hf0 (by omega) (by omega)) (by decide) rfl (Nat.le_of_ble_eq_true rfl) dL_law__2330 (fun H locs hw => ?_)
      refine lv_iload hx hb dL_law__2333 (lv_at hl 1 rfl) ?_
      refine lv_icmp_eq (tgt := 2340) hx hb dL_law__2335 (by decide) (fun c34 => ?_) (fun c34 => ?_)
      · rw [if_pos c34] at h
        refine lv_iload hx hb dL_law__2340 (lv_at hl 1 rfl) ?_
        refine lv_if_ne (tgt := 2357) hx hb dL_law__2342 (by decide) (fun c33 => ?_) (fun c33 => ?_)
        · rw [if_neg c33] at h
          refine lv_goto (tgt := 2599) hx hb dL_law__2357 (by decide) ?_
          obtain ⟨y30, ey30, h⟩ := lt_some h
          refine lv_iinc (v := y30) (lv' := [(4, .int y30), (6, .int y26), (5, .int y7), (0, .ref b), (1, .ref (G.2.2 0)), (2, .ref (G.2.2 22)), (3, .ref oa)]) hx hb dL_law__2599 hl (k := 6) rfl (by rw [ey30]; rfl) (by decide) rfl (fun ls hl => ?_)
          refine lv_goto (tgt := 23) hx hb dL_law__2602 (by decide) ?_
          subst ey30
          exact kc V27 w6 (Option.some.inj h).symm H locs ls _ _ hw (lv_sub hl [3, 4, 5, 6, 0] rfl) (by omega) (by omega)
        · rw [if_pos c33] at h
          refine lv_aload_n hx hb dL_law__2345 rfl (lv_at hl 5 rfl) ?_
          refine lv_iconst (v := (0 : Int32)) hx hb dL_law__2346 (by decide) ?_
          refine o_ll E hw vp_0_1 dL_law__2347 ?_
          refine lv_iload hx hb dL_law__2348 (lv_at hl 0 rfl) ?_
          refine lv_i2l hx hb dL_law__2350 rfl ?_
          refine W.lcmp hx hb dL_law__2351 ?_
          refine lv_if_eq (tgt := 2357) hx hb dL_law__2352 (by decide) (fun c32 => ?_) (fun c32 => ?_)
          · rw [if_pos c32] at h
            refine lv_goto (tgt := 2599) hx hb dL_law__2357 (by decide) ?_
            obtain ⟨y31, ey31, h⟩ := lt_some h
            refine lv_iinc (v := y31) (lv' := [(4, .int y31), (6, .int y26), (5, .int y7), (0, .ref b), (1, .ref (G.2.2 0)), (2, .ref (G.2.2 22)), (3, .ref oa)]) hx hb dL_law__2599 hl (k := 6) rfl (by rw [ey31]; rfl) (by decide) rfl (fun ls hl => ?_)
            refine lv_goto (tgt := 23) hx hb dL_law__2602 (by decide) ?_
            subst ey31
            exact kc V27 w6 (Option.some.inj h).symm H locs ls _ _ hw (lv_sub hl [3, 4, 5, 6, 0] rfl) (by omega) (by omega)
          · rw [if_neg c32] at h
            refine lv_iconst (v := (0 : Int32)) hx hb dL_law__2355 (by decide) ?_
            exact absurd (k1 _ (Option.some.inj h).symm) (by decide)
      · rw [if_neg c34] at h
        refine lv_iconst (v := (0 : Int32)) hx hb dL_law__2338 (by decide) ?_
        exact absurd (k1 _ (Option.some.inj h).symm) (by decide)
  · rw [if_neg c67] at h
    refine lv_iconst (v := (1 : Int32)) hx hb dL_law__2292 (by decide) ?_
    refine lv_goto (tgt := 2297) hx hb dL_law__2293 (by decide) ?_
    refine lv_aload_n hx hb dL_law__2297 rfl (lv_at hl 3 rfl) ?_
    obtain ⟨o36, V41, h39, h⟩ := ob_I_some h
    obtain ⟨⟨y38, w37⟩, h40, h⟩ := ob_R_some h
    have h := dt2_eq h
    refine o_SH (n := 4) (As := [.ref (G.2.2 0), .int z2, .int (1 : Int32), .ref oa]) E hw (kL_span (l := l) (G := G) (Z := Z) (oa := oa) ht h39 h40) yw_L_span lw_ini lm_RL_250 ⟨by decide, by decide, by decide +kernel⟩ rfl hl.1 (by decide) (hfc 1 (by decide)) (by decide) rfl (Nat.le_of_ble_eq_true rfl) dL_law__2298 (fun H locs hw => ?_)
    refine lv_istore (lv' := [(5, .int y38), (0, .ref b), (1, .ref (G.2.2 0)), (2, .ref (G.2.2 22)), (3, .ref oa), (4, .int u4)]) hx hb dL_law__2301 hl (by decide) rfl (fun ls hl => ?_)
    refine lv_aload_n hx hb dL_law__2303 rfl (lv_at hl 3 rfl) ?_
    refine lv_aload_n hx hb dL_law__2304 rfl (lv_at hl 1 rfl) ?_
    refine lv_iload hx hb dL_law__2305 (lv_at hl 5 rfl) ?_
    refine lv_iconst (v := (1 : Int32)) hx hb dL_law__2307 (by decide) ?_
    refine lv_iadd hx hb dL_law__2308 ?_
    obtain ⟨b42, h⟩ := rd_some h
    obtain ⟨z43, ez43, h⟩ := lt_some h
    refine va_sld hx hb hX hbl hbA hw.2.2 b42 dL_law__2309 ?_
    refine lv_eqi ez43 ?_
    refine lv_aload_n hx hb dL_law__2310 rfl (lv_at hl 1 rfl) ?_
    refine lv_iload hx hb dL_law__2311 (lv_at hl 5 rfl) ?_
    refine lv_iconst (v := (2 : Int32)) hx hb dL_law__2313 (by decide) ?_
    refine lv_iadd hx hb dL_law__2314 ?_
    obtain ⟨b44, h⟩ := rd_some h
    obtain ⟨z45, ez45, h⟩ := lt_some h
    refine va_sld hx hb hX hbl hbA hw.2.2 b44 dL_law__2315 ?_
    refine lv_eqi ez45 ?_
    refine lv_if_eq (tgt := 2323) hx hb dL_law__2316 (by decide) (fun c66 => ?_) (fun c66 => ?_)
    · rw [if_pos c66] at h
      refine lv_iconst (v := (0 : Int32)) hx hb dL_law__2323 (by decide) ?_
      obtain ⟨y47, V48, h46, h⟩ := ob_I_some h
      refine o_VI (As := [.int z43, .int (0 : Int32)]) E hw (kX10_span (l := l) (G := G) (SG_ok Z) h46) yy_X10_span lm_RL_252 rfl (by decide) rfl rfl hl.1 (by decide) (hf0 (by omega) (by omega)) (by decide) rfl (Nat.le_of_ble_eq_true rfl) dL_law__2324 (fun H locs hw => ?_)
      refine lv_istore (lv' := [(6, .int y47), (5, .int y38), (0, .ref b), (1, .ref (G.2.2 0)), (2, .ref (G.2.2 22)), (3, .ref oa), (4, .int u4)]) hx hb dL_law__2327 hl (by decide) rfl (fun ls hl => ?_)
      refine lv_aload_n hx hb dL_law__2329 rfl (lv_at hl 4 rfl) ?_
      obtain ⟨y50, h49, h⟩ := ob_R_some h
      refine o_VI (As := []) E hw (kX10_thrown (l := l) (G := G) (SG_ok Z) h49) yy_X10_thrown lm_RL_141 rfl (by decide) rfl rfl hl.1 (by decide) (hf0 (by omega) (by omega)) (by decide) rfl (Nat.le_of_ble_eq_true rfl) dL_law__2330 (fun H locs hw => ?_)
      refine lv_iload hx hb dL_law__2333 (lv_at hl 1 rfl) ?_
      refine lv_icmp_eq (tgt := 2340) hx hb dL_law__2335 (by decide) (fun c55 => ?_) (fun c55 => ?_)
      · rw [if_pos c55] at h
        refine lv_iload hx hb dL_law__2340 (lv_at hl 1 rfl) ?_
        refine lv_if_ne (tgt := 2357) hx hb dL_law__2342 (by decide) (fun c54 => ?_) (fun c54 => ?_)
        · rw [if_neg c54] at h
          refine lv_goto (tgt := 2599) hx hb dL_law__2357 (by decide) ?_
          obtain ⟨y51, ey51, h⟩ := lt_some h
          refine lv_iinc (v := y51) (lv' := [(4, .int y51), (6, .int y47), (5, .int y38), (0, .ref b), (1, .ref (G.2.2 0)), (2, .ref (G.2.2 22)), (3, .ref oa)]) hx hb dL_law__2599 hl (k := 6) rfl (by rw [ey51]; rfl) (by decide) rfl (fun ls hl => ?_)
          refine lv_goto (tgt := 23) hx hb dL_law__2602 (by decide) ?_
          subst ey51
          exact kc V48 w37 (Option.some.inj h).symm H locs ls _ _ hw (lv_sub hl [3, 4, 5, 6, 0] rfl) (by omega) (by omega)
        · rw [if_pos c54] at h
          refine lv_aload_n hx hb dL_law__2345 rfl (lv_at hl 5 rfl) ?_
          refine lv_iconst (v := (0 : Int32)) hx hb dL_law__2346 (by decide) ?_
          refine o_ll E hw vp_0_1 dL_law__2347 ?_
          refine lv_iload hx hb dL_law__2348 (lv_at hl 0 rfl) ?_
          refine lv_i2l hx hb dL_law__2350 rfl ?_
          refine W.lcmp hx hb dL_law__2351 ?_
          refine lv_if_eq (tgt := 2357) hx hb dL_law__2352 (by decide) (fun c53 => ?_) (fun c53 => ?_)
          · rw [if_pos c53] at h
            refine lv_goto (tgt := 2599) hx hb dL_law__2357 (by decide) ?_
            obtain ⟨y52, ey52, h⟩ := lt_some h
            refine lv_iinc (v := y52) (lv' := [(4, .int y52), (6, .int y47), (5, .int y38), (0, .ref b), (1, .ref (G.2.2 0)), (2, .ref (G.2.2 22)), (3, .ref oa)]) hx hb dL_law__2599 hl (k := 6) rfl (by rw [ey52]; rfl) (by decide) rfl (fun ls hl => ?_)
            refine lv_goto (tgt := 23) hx hb dL_law__2602 (by decide) ?_
            subst ey52
            exact kc V48 w37 (Option.some.inj h).symm H locs ls _ _ hw (lv_sub hl [3, 4, 5, 6, 0] rfl) (by omega) (by omega)
          · rw [if_neg c53] at h
            refine lv_iconst (v := (0 : Int32)) hx hb dL_law__2355 (by decide) ?_
            exact absurd (k1 _ (Option.some.inj h).symm) (by decide)
      · rw [if_neg c55] at h
        refine lv_iconst (v := (0 : Int32)) hx hb dL_law__2338 (by decide) ?_
        exact absurd (k1 _ (Option.some.inj h).symm) (by decide)
    · rw [if_neg c66] at h
      refine lv_iconst (v := (1 : Int32)) hx hb dL_law__2319 (by decide) ?_
      refine lv_goto (tgt := 2324) hx hb dL_law__2320 (by decide) ?_
      obtain ⟨y57, V58, h56, h⟩ := ob_I_some h
      refine o_VI (As := [.int z43, .int (1 : Int32)]) E hw (kX10_span (l := l) (G := G) (SG_ok Z) h56) yy_X10_span lm_RL_252 rfl (by decide) rfl rfl hl.1 (by decide) (hf0 (by omega) (by omega)) (by decide) rfl (Nat.le_of_ble_eq_true rfl) dL_law__2324 (fun H locs hw => ?_)
      refine lv_istore (lv' := [(6, .int y57), (5, .int y38), (0, .ref b), (1, .ref (G.2.2 0)), (2, .ref (G.2.2 22)), (3, .ref oa), (4, .int u4)]) hx hb dL_law__2327 hl (by decide) rfl (fun ls hl => ?_)
      refine lv_aload_n hx hb dL_law__2329 rfl (lv_at hl 4 rfl) ?_
      obtain ⟨y60, h59, h⟩ := ob_R_some h
      refine o_VI (As := []) E hw (kX10_thrown (l := l) (G := G) (SG_ok Z) h59) yy_X10_thrown lm_RL_141 rfl (by decide) rfl rfl hl.1 (by decide) (hf0 (by omega) (by omega)) (by decide) rfl (Nat.le_of_ble_eq_true rfl) dL_law__2330 (fun H locs hw => ?_)
      refine lv_iload hx hb dL_law__2333 (lv_at hl 1 rfl) ?_
      refine lv_icmp_eq (tgt := 2340) hx hb dL_law__2335 (by decide) (fun c65 => ?_) (fun c65 => ?_)
      · rw [if_pos c65] at h
        refine lv_iload hx hb dL_law__2340 (lv_at hl 1 rfl) ?_
        refine lv_if_ne (tgt := 2357) hx hb dL_law__2342 (by decide) (fun c64 => ?_) (fun c64 => ?_)
        · rw [if_neg c64] at h
          refine lv_goto (tgt := 2599) hx hb dL_law__2357 (by decide) ?_
          obtain ⟨y61, ey61, h⟩ := lt_some h
          refine lv_iinc (v := y61) (lv' := [(4, .int y61), (6, .int y57), (5, .int y38), (0, .ref b), (1, .ref (G.2.2 0)), (2, .ref (G.2.2 22)), (3, .ref oa)]) hx hb dL_law__2599 hl (k := 6) rfl (by rw [ey61]; rfl) (by decide) rfl (fun ls hl => ?_)
          refine lv_goto (tgt := 23) hx hb dL_law__2602 (by decide) ?_
          subst ey61
          exact kc V58 w37 (Option.some.inj h).symm H locs ls _ _ hw (lv_sub hl [3, 4, 5, 6, 0] rfl) (by omega) (by omega)
        · rw [if_pos c64] at h
          refine lv_aload_n hx hb dL_law__2345 rfl (lv_at hl 5 rfl) ?_
          refine lv_iconst (v := (0 : Int32)) hx hb dL_law__2346 (by decide) ?_
          refine o_ll E hw vp_0_1 dL_law__2347 ?_
          refine lv_iload hx hb dL_law__2348 (lv_at hl 0 rfl) ?_
          refine lv_i2l hx hb dL_law__2350 rfl ?_
          refine W.lcmp hx hb dL_law__2351 ?_
          refine lv_if_eq (tgt := 2357) hx hb dL_law__2352 (by decide) (fun c63 => ?_) (fun c63 => ?_)
          · rw [if_pos c63] at h
            refine lv_goto (tgt := 2599) hx hb dL_law__2357 (by decide) ?_
            obtain ⟨y62, ey62, h⟩ := lt_some h
            refine lv_iinc (v := y62) (lv' := [(4, .int y62), (6, .int y57), (5, .int y38), (0, .ref b), (1, .ref (G.2.2 0)), (2, .ref (G.2.2 22)), (3, .ref oa)]) hx hb dL_law__2599 hl (k := 6) rfl (by rw [ey62]; rfl) (by decide) rfl (fun ls hl => ?_)
            refine lv_goto (tgt := 23) hx hb dL_law__2602 (by decide) ?_
            subst ey62
            exact kc V58 w37 (Option.some.inj h).symm H locs ls _ _ hw (lv_sub hl [3, 4, 5, 6, 0] rfl) (by omega) (by omega)
          · rw [if_neg c63] at h
            refine lv_iconst (v := (0 : Int32)) hx hb dL_law__2355 (by decide) ?_
            exact absurd (k1 _ (Option.some.inj h).symm) (by decide)
      · rw [if_neg c65] at h
        refine lv_iconst (v := (0 : Int32)) hx hb dL_law__2338 (by decide) ?_
        exact absurd (k1 _ (Option.some.inj h).symm) (by decide)
theorem dL_law__2360 : decode cL_law_ 2360 = .ok (.aload_n 1, 1) := by decide +kernel
theorem dL_law__2361 : decode cL_law_ 2361 = .ok (.aload_n 0, 1) := by decide +kernel
theorem dL_law__2362 : decode cL_law_ 2362 = .ok (.iload 4, 2) := by decide +kernel
theorem dL_law__2364 : decode cL_law_ 2364 = .ok (.iconst 1, 1) := by decide +kernel
theorem dL_law__2365 : decode cL_law_ 2365 = .ok (.iadd, 1) := by decide +kernel
theorem dL_law__2366 : decode cL_law_ 2366 = .ok (.iaload, 1) := by decide +kernel
theorem dL_law__2367 : decode cL_law_ 2367 = .ok (.aload_n 0, 1) := by decide +kernel
theorem dL_law__2368 : decode cL_law_ 2368 = .ok (.iload 4, 2) := by decide +kernel
theorem dL_law__2370 : decode cL_law_ 2370 = .ok (.iconst 2, 1) := by decide +kernel
theorem dL_law__2371 : decode cL_law_ 2371 = .ok (.iadd, 1) := by decide +kernel
theorem dL_law__2372 : decode cL_law_ 2372 = .ok (.iaload, 1) := by decide +kernel
theorem dL_law__2373 : decode cL_law_ 2373 = .ok (.ifCond .eq 7, 3) := by decide +kernel
theorem dL_law__2376 : decode cL_law_ 2376 = .ok (.iconst 1, 1) := by decide +kernel
theorem dL_law__2377 : decode cL_law_ 2377 = .ok (.goto 4, 3) := by decide +kernel
theorem dL_law__2380 : decode cL_law_ 2380 = .ok (.iconst 0, 1) := by decide +kernel
theorem dL_law__2381 : decode cL_law_ 2381 = .ok (.aload_n 3, 1) := by decide +kernel
theorem dL_law__2382 : decode cL_law_ 2382 = .ok (.invokestatic 253, 3) := by decide +kernel
theorem dL_law__2385 : decode cL_law_ 2385 = .ok (.istore 5, 2) := by decide +kernel
theorem dL_law__2387 : decode cL_law_ 2387 = .ok (.aload_n 2, 1) := by decide +kernel
theorem dL_law__2388 : decode cL_law_ 2388 = .ok (.aload_n 0, 1) := by decide +kernel
theorem dL_law__2389 : decode cL_law_ 2389 = .ok (.iload 4, 2) := by decide +kernel
theorem dL_law__2391 : decode cL_law_ 2391 = .ok (.iconst 1, 1) := by decide +kernel
theorem dL_law__2392 : decode cL_law_ 2392 = .ok (.iadd, 1) := by decide +kernel
theorem dL_law__2393 : decode cL_law_ 2393 = .ok (.iaload, 1) := by decide +kernel
theorem dL_law__2394 : decode cL_law_ 2394 = .ok (.aload_n 0, 1) := by decide +kernel
theorem dL_law__2395 : decode cL_law_ 2395 = .ok (.iload 4, 2) := by decide +kernel
theorem dL_law__2397 : decode cL_law_ 2397 = .ok (.iconst 2, 1) := by decide +kernel
theorem dL_law__2398 : decode cL_law_ 2398 = .ok (.iadd, 1) := by decide +kernel
theorem dL_law__2399 : decode cL_law_ 2399 = .ok (.iaload, 1) := by decide +kernel
theorem dL_law__2400 : decode cL_law_ 2400 = .ok (.ifCond .eq 7, 3) := by decide +kernel
theorem dL_law__2403 : decode cL_law_ 2403 = .ok (.iconst 1, 1) := by decide +kernel
theorem dL_law__2404 : decode cL_law_ 2404 = .ok (.goto 4, 3) := by decide +kernel
theorem dL_law__2407 : decode cL_law_ 2407 = .ok (.iconst 0, 1) := by decide +kernel
theorem dL_law__2408 : decode cL_law_ 2408 = .ok (.invokevirtual 255, 3) := by decide +kernel
theorem dL_law__2411 : decode cL_law_ 2411 = .ok (.istore 6, 2) := by decide +kernel
theorem dL_law__2413 : decode cL_law_ 2413 = .ok (.aload_n 2, 1) := by decide +kernel
theorem dL_law__2414 : decode cL_law_ 2414 = .ok (.invokevirtual 141, 3) := by decide +kernel
theorem dL_law__2417 : decode cL_law_ 2417 = .ok (.iload 5, 2) := by decide +kernel
theorem dL_law__2419 : decode cL_law_ 2419 = .ok (.if_icmp .eq 5, 3) := by decide +kernel
theorem dL_law__2422 : decode cL_law_ 2422 = .ok (.iconst 0, 1) := by decide +kernel
theorem dL_law__2423 : decode cL_law_ 2423 = .ok (.ireturn, 1) := by decide +kernel
theorem dL_law__2424 : decode cL_law_ 2424 = .ok (.iload 5, 2) := by decide +kernel
theorem dL_law__2426 : decode cL_law_ 2426 = .ok (.ifCond .ne 15, 3) := by decide +kernel
theorem dL_law__2429 : decode cL_law_ 2429 = .ok (.aload_n 3, 1) := by decide +kernel
theorem dL_law__2430 : decode cL_law_ 2430 = .ok (.iconst 0, 1) := by decide +kernel
theorem dL_law__2431 : decode cL_law_ 2431 = .ok (.laload, 1) := by decide +kernel
theorem dL_law__2432 : decode cL_law_ 2432 = .ok (.iload 6, 2) := by decide +kernel
theorem dL_law__2434 : decode cL_law_ 2434 = .ok (.i2l, 1) := by decide +kernel
theorem dL_law__2435 : decode cL_law_ 2435 = .ok (.lcmp, 1) := by decide +kernel
theorem dL_law__2436 : decode cL_law_ 2436 = .ok (.ifCond .eq 5, 3) := by decide +kernel
theorem dL_law__2439 : decode cL_law_ 2439 = .ok (.iconst 0, 1) := by decide +kernel
theorem dL_law__2440 : decode cL_law_ 2440 = .ok (.ireturn, 1) := by decide +kernel
theorem dL_law__2441 : decode cL_law_ 2441 = .ok (.goto 158, 3) := by decide +kernel
