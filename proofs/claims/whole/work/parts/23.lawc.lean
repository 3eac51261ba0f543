/-! opcode 36 -/
noncomputable def fL_c36 (xs : Nat → Int32) (L : Nat) (V : VT) (ov : Nat → Int64) (u4 : Int32) : Option ((VT × (Nat → Int64) × Int32) ⊕ Int32) := rd_ (u4 + (1 : Int32)) L (lt_ (xs (u4 + (1 : Int32)).toNatClampNeg) fun z2 => rd_ (u4 + (2 : Int32)) L (lt_ (xs (u4 + (2 : Int32)).toNatClampNeg) fun z4 => if z4 = 0 then (ob_I (fX9_led V z2 (0 : Int32)) fun o5 V10 => ob_R (hL_led o5 ov) fun qy7 => dt2_ qy7 fun y7 w6 => rd_ (u4 + (1 : Int32)) L (lt_ (xs (u4 + (1 : Int32)).toNatClampNeg) fun z12 => rd_ (u4 + (2 : Int32)) L (lt_ (xs (u4 + (2 : Int32)).toNatClampNeg) fun z14 => if z14 = 0 then (ob_I (fX10_led V10 z12 (0 : Int32)) fun y16 V17 => ob_R (fX10_thrown V17 ) fun y19 => if y19 = y7 then (if y7 = 0 then (if (lg_cmp (w6 ((0 : Int32).toNatClampNeg)) y16.toInt64) = 0 then (lt_ (u4 + (6 : Int32)) fun y21 => some (.inl (V17, w6, y21))) else (some (.inr (0 : Int32)))) else (lt_ (u4 + (6 : Int32)) fun y20 => some (.inl (V17, w6, y20)))) else (some (.inr (0 : Int32)))) else (ob_I (fX10_led V10 z12 (1 : Int32)) fun y26 V27 => ob_R (fX10_thrown V27 ) fun y29 => if y29 = y7 then (if y7 = 0 then (if (lg_cmp (w6 ((0 : Int32).toNatClampNeg)) y26.toInt64) = 0 then (lt_ (u4 + (6 : Int32)) fun y31 => some (.inl (V27, w6, y31))) else (some (.inr (0 : Int32)))) else (lt_ (u4 + (6 : Int32)) fun y30 => some (.inl (V27, w6, y30)))) else (some (.inr (0 : Int32))))))) else (ob_I (fX9_led V z2 (1 : Int32)) fun o36 V41 => ob_R (hL_led o36 ov) fun qy38 => dt2_ qy38 fun y38 w37 => rd_ (u4 + (1 : Int32)) L (lt_ (xs (u4 + (1 : Int32)).toNatClampNeg) fun z43 => rd_ (u4 + (2 : Int32)) L (lt_ (xs (u4 + (2 : Int32)).toNatClampNeg) fun z45 => if z45 = 0 then (ob_I (fX10_led V41 z43 (0 : Int32)) fun y47 V48 => ob_R (fX10_thrown V48 ) fun y50 => if y50 = y38 then (if y38 = 0 then (if (lg_cmp (w37 ((0 : Int32).toNatClampNeg)) y47.toInt64) = 0 then (lt_ (u4 + (6 : Int32)) fun y52 => some (.inl (V48, w37, y52))) else (some (.inr (0 : Int32)))) else (lt_ (u4 + (6 : Int32)) fun y51 => some (.inl (V48, w37, y51)))) else (some (.inr (0 : Int32)))) else (ob_I (fX10_led V41 z43 (1 : Int32)) fun y57 V58 => ob_R (fX10_thrown V58 ) fun y60 => if y60 = y38 then (if y38 = 0 then (if (lg_cmp (w37 ((0 : Int32).toNatClampNeg)) y57.toInt64) = 0 then (lt_ (u4 + (6 : Int32)) fun y62 => some (.inl (V58, w37, y62))) else (some (.inr (0 : Int32)))) else (lt_ (u4 + (6 : Int32)) fun y61 => some (.inl (V58, w37, y61)))) else (some (.inr (0 : Int32)))))))))
set_option maxHeartbeats 4000000 in
set_option maxRecDepth 100000 in
theorem wL_c36 {p : Program} {l : Launch} {e : Env} {s : State} {m : MethodId} {args : Array Value} {below : List Frame} {meth : Method} {c : Code} {G : GT} {Z : Nat → Nat × Nat} {oa b L : Nat} {xs : Nat → Int32} {Q : State → Prop} (E : EO p s m args c meth cL_law_ 7 RL (some .boolean) G (SH Z) oa) (ht : l.stackTraces = false) (hX : va_X b L xs s s.heap) (hbl : b < s.heap.size) (hbA : ¬ gO G oa s.heap.size b) (hL : L ≤ 3072) {C0 S0 : Nat} (hC0 : C0 ≤ 100000) (hS0 : S0 ≤ 1000000) {V : VT} {ov : Nat → Int64} {u4 : Int32} {r : ((VT × (Nat → Int64) × Int32) ⊕ Int32)} (h : fL_c36 xs L V ov u4 = some r) (k1 : ∀ y, r = .inr y → y = 1) (kc : ∀ (V2 : VT) (ov2 : Nat → Int64), r = .inl (V2, ov2, u4 + 6) → ∀ (H : Heap) (locs : List Loc) (ls : Array Slot) (cells slots : Nat), HO G oa s.heap (V2) (ov2) H locs → lv_has ls 7 [(0, .ref b), (1, .ref (G.2.2 0)), (2, .ref (G.2.2 22)), (3, .ref oa), (4, .int (u4 + 6))] → cells ≤ C0 + 3 → slots ≤ S0 + 18 → W p l e room_1 s m args below meth c H locs cells slots Q (F0 m 23 ls [])) {H : Heap} {locs : List Loc} {ls : Array Slot} {cells slots : Nat} (hw : HO G oa s.heap V ov H locs) (hl : lv_has ls 7 [(0, .ref b), (1, .ref (G.2.2 0)), (2, .ref (G.2.2 22)), (3, .ref oa), (4, .int u4)]) (hce : cells ≤ C0) (hsl : slots ≤ S0) : W p l e room_1 s m args below meth c H locs cells slots Q (F0 m 2360 ls []) := by
  have hx := E.1
  have hb := E.2.1
  have hfc : ∀ K : Nat, K ≤ 3 → cells + K ≤ room_1.cells ∧ slots + 6 * K ≤ room_1.slots := fun K hK => ⟨by show cells + K ≤ 601024; omega, by show slots + 6 * K ≤ 7293034; omega⟩
  have hf0 : ∀ {c9 s9 : Nat}, c9 ≤ C0 + 3 → s9 ≤ S0 + 18 → c9 ≤ room_1.cells ∧ s9 ≤ room_1.slots := fun h1 h2 => ⟨by show _ ≤ 601024; omega, by show _ ≤ 7293034; omega⟩
  unfold fL_c36 at h
  refine lv_aload_n hx hb dL_law__2360 rfl (lv_at hl 1 rfl) ?_
  refine lv_aload_n hx hb dL_law__2361 rfl (lv_at hl 0 rfl) ?_
  refine lv_iload hx hb dL_law__2362 (lv_at hl 4 rfl) ?_
  refine lv_iconst (v := (1 : Int32)) hx hb dL_law__2364 (by decide) ?_
  refine lv_iadd hx hb dL_law__2365 ?_
  obtain ⟨b1, h⟩ := rd_some h
  obtain ⟨z2, ez2, h⟩ := lt_some h
  refine va_sld hx hb hX hbl hbA hw.2.2 b1 dL_law__2366 ?_
  refine lv_eqi ez2 ?_
  refine lv_aload_n hx hb dL_law__2367 rfl (lv_at hl 0 rfl) ?_
  refine lv_iload hx hb dL_law__2368 (lv_at hl 4 rfl) ?_
  refine lv_iconst (v := (2 : Int32)) hx hb dL_law__2370 (by decide) ?_
  refine lv_iadd hx hb dL_law__2371 ?_
  obtain ⟨b3, h⟩ := rd_some h
  obtain ⟨z4, ez4, h⟩ := lt_some h
  refine va_sld hx hb hX hbl hbA hw.2.2 b3 dL_law__2372 ?_
  refine lv_eqi ez4 ?_
  refine lv_if_eq (tgt := 2380) hx hb dL_law__2373 (by decide) (fun c67 => ?_) (fun c67 => ?_)
  · rw [if_pos c67] at h
    refine lv_iconst (v := (0 : Int32)) hx hb dL_law__2380 (by decide) ?_
    refine lv_aload_n hx hb dL_law__2381 rfl (lv_at hl 3 rfl) ?_
    obtain ⟨o5, V10, h8, h⟩ := ob_I_some h
    obtain ⟨⟨y7, w6⟩, h9, h⟩ := ob_R_some h
    have h := dt2_eq h
    refine o_SH (n := 4) (As := [.ref (G.2.2 0), .int z2, .int (0 : Int32), .ref oa]) E hw (kL_led (l := l) (G := G) (Z := Z) (oa := oa) ht h8 h9) yw_L_led lw_ini lm_RL_253 ⟨by decide, by decide, by decide +kernel⟩ rfl hl.1 (by decide) (hfc 1 (by decide)) (by decide) rfl (Nat.le_of_ble_eq_true rfl) dL_law__2382 (fun H locs hw => ?_)
    refine lv_istore (lv' := [(5, .int y7), (0, .ref b), (1, .ref (G.2.2 0)), (2, .ref (G.2.2 22)), (3, .ref oa), (4, .int u4)]) hx hb dL_law__2385 hl (by decide) rfl (fun ls hl => ?_)
    refine lv_aload_n hx hb dL_law__2387 rfl (lv_at hl 3 rfl) ?_
    refine lv_aload_n hx hb dL_law__2388 rfl (lv_at hl 1 rfl) ?_
    refine lv_iload hx hb dL_law__2389 (lv_at hl 5 rfl) ?_
    refine lv_iconst (v := (1 : Int32)) hx hb dL_law__2391 (by decide) ?_
    refine lv_iadd hx hb dL_law__2392 ?_
    obtain ⟨b11, h⟩ := rd_some h
    obtain ⟨z12, ez12, h⟩ := lt_some h
    refine va_sld hx hb hX hbl hbA hw.2.2 b11 dL_law__2393 ?_
    refine lv_eqi ez12 ?_
    refine lv_aload_n hx hb dL_law__2394 rfl (lv_at hl 1 rfl) ?_
    refine lv_iload hx hb dL_law__2395 (lv_at hl 5 rfl) ?_
    refine lv_iconst (v := (2 : Int32)) hx hb dL_law__2397 (by decide) ?_
    refine lv_iadd hx hb dL_law__2398 ?_
    obtain ⟨b13, h⟩ := rd_some h
    obtain ⟨z14, ez14, h⟩ := lt_some h
    refine va_sld hx hb hX hbl hbA hw.2.2 b13 dL_law__2399 ?_
    refine lv_eqi ez14 ?_
    refine lv_if_eq (tgt := 2407) hx hb dL_law__2400 (by decide) (fun c35 => ?_) (fun c35 => ?_)
    · rw [if_pos c35] at h
      refine lv_iconst (v := (0 : Int32)) hx hb dL_law__2407 (by decide) ?_
      obtain ⟨y16, V17, h15, h⟩ := ob_I_some h
      refine o_VI (As := [.int z12, .int (0 : Int32)]) E hw (kX10_led (l := l) (G := G) (SG_ok Z) h15) yy_X10_led lm_RL_255 rfl (by decide) rfl rfl hl.1 (by decide) (hf0 (by omega) (by omega)) (by decide) rfl (Nat.le_of_ble_eq_true rfl) dL_law__2408 (fun H locs hw => ?_)
      refine lv_istore (lv' := [(6, .int y16), (5, .int y7), (0, .ref b), (1, .ref (G.2.2 0)), (2, .ref (G.2.2 22)), (3, .ref oa), (4, .int u4)]) hx hb dL_law__2411 hl (by decide) rfl (fun ls hl => ?_)
      refine lv_aload_n hx hb dL_law__2413 rfl (lv_at hl 4 rfl) ?_
      obtain ⟨y19, h18, h⟩ := ob_R_some h
      refine o_VI (As := []) E hw (kX10_thrown (l := l) (G := G) (SG_ok Z) h18) yy_X10_thrown lm_RL_141 rfl (by decide) rfl rfl hl.1 (by decide) (hf0 (by omega) (by omega)) (by decide) rfl (Nat.le_of_ble_eq_true rfl) dL_law__2414 (fun H locs hw => ?_)
      refine lv_iload hx hb dL_law__2417 (lv_at hl 1 rfl) ?_
      refine lv_icmp_eq (tgt := 2424) hx hb dL_law__2419 (by decide) (fun c24 => ?_) (fun c24 => ?_)
      · rw [if_pos c24] at h
        refine lv_iload hx hb dL_law__2424 (lv_at hl 1 rfl) ?_
        refine lv_if_ne (tgt := 2441) hx hb dL_law__2426 (by decide) (fun c23 => ?_) (fun c23 => ?_)
        · rw [if_neg c23] at h
          refine lv_goto (tgt := 2599) hx hb dL_law__2441 (by decide) ?_
          obtain ⟨y20, ey20, h⟩ := lt_some h
          refine lv_iinc (v := y20) (lv' := [(4, .int y20), (6, .int y16), (5, .int y7), (0, .ref b), (1, .ref (G.2.2 0)), (2, .ref (G.2.2 22)), (3, .ref oa)]) hx hb dL_law__2599 hl (k := 6) rfl (by rw [ey20]; rfl) (by decide) rfl (fun ls hl => ?_)
          refine lv_goto (tgt := 23) hx hb dL_law__2602 (by decide) ?_
          subst ey20
          exact kc V17 w6 (Option.some.inj h).symm H locs ls _ _ hw (lv_sub hl [3, 4, 5, 6, 0] rfl) (by omega) (by omega)
        · rw [if_pos c23] at h
          refine lv_aload_n hx hb dL_law__2429 rfl (lv_at hl 5 rfl) ?_
          refine lv_iconst (v := (0 : Int32)) hx hb dL_law__2430 (by decide) ?_
          refine o_ll E hw vp_0_1 dL_law__2431 ?_
          refine lv_iload hx hb dL_law__2432 (lv_at hl 0 rfl) ?_
          refine lv_i2l hx hb dL_law__2434 rfl ?_
          refine W.lcmp hx hb dL_law__2435 ?_
          refine lv_if_eq (tgt := 2441) hx hb dL_law__2436 (by decide) (fun c22 => ?_) (fun c22 => ?_)
          · rw [if_pos c22] at h
            refine lv_goto (tgt := 2599) hx hb dL_law__2441 (by decide) ?_
            obtain ⟨y21, ey21, h⟩ := lt_some h
            refine lv_iinc (v := y21) (lv' := [(4, .int y21), (6, .int y16), (5, .int y7), (0, .ref b), (1, .ref (G.2.2 0)), (2, .ref (G.2.2 22)), (3, .ref oa)]) hx hb dL_law__2599 hl (k := 6) rfl (by rw [ey21]; rfl) (by decide) rfl (fun ls hl => ?_)
            refine lv_goto (tgt := 23) hx hb dL_law__2602 (by decide) ?_
            subst ey21
            exact kc V17 w6 (Option.some.inj h).symm H locs ls _ _ hw (lv_sub hl [3, 4, 5, 6, 0] rfl) (by omega) (by omega)
          · rw [if_neg c22] at h
            refine lv_iconst (v := (0 : Int32)) hx hb dL_law__2439 (by decide) ?_
            exact absurd (k1 _ (Option.some.inj h).symm) (by decide)
      · rw [if_neg c24] at h
        refine lv_iconst (v := (0 : Int32)) hx hb dL_law__2422 (by decide) ?_
        exact absurd (k1 _ (Option.some.inj h).symm) (by decide)
    · rw [if_neg c35] at h
      refine lv_iconst (v := (1 : Int32)) hx hb dL_law__2403 (by decide) ?_
      refine lv_goto (tgt := 2408) hx hb dL_law__2404 (by decide) ?_
      obtain ⟨y26, V27, h25, h⟩ := ob_I_some h
      refine o_VI (As := [.int z12, .int (1 : Int32)]) E hw (kX10_led (l := l) (G := G) (SG_ok Z) h25) yy_X10_led lm_RL_255 rfl (by decide) rfl rfl hl.1 (by decide) (hf0 (by omega) (by omega)) (by decide) rfl (Nat.le_of_ble_eq_true rfl) dL_law__2408 (fun H locs hw => ?_)
      refine lv_istore (lv' := [(6, .int y26), (5, .int y7), (0, .ref b), (1, .ref (G.2.2 0)), (2, .ref (G.2.2 22)), (3, .ref oa), (4, .int u4)]) hx hb dL_law__2411 hl (by decide) rfl (fun ls hl => ?_)
      refine lv_aload_n hx hb dL_law__2413 rfl (lv_at hl 4 rfl) ?_
      obtain ⟨y29, h28, h⟩ := ob_R_some h
      refine o_VI (As := []) E hw (kX10_thrown (l := l) (G := G) (SG_ok Z) h28) yy_X10_thrown lm_RL_141 rfl (by decide) rfl rfl hl.1 (by decide) (hf0 (by omega) (by omega)) (by decide) rfl (Nat.le_of_ble_eq_true rfl) dL_law__2414 (fun H locs hw => ?_)
      refine lv_iload hx hb dL_law__2417 (lv_at hl 1 rfl) ?_
      refine lv_icmp_eq (tgt := 2424) hx hb dL_law__2419 (by decide) (fun c34 => ?_) (fun c34 => ?_)
      · rw [if_pos c34] at h
        refine lv_iload hx hb dL_law__2424 (lv_at hl 1 rfl) ?_
        refine lv_if_ne (tgt := 2441) hx hb dL_law__2426 (by decide) (fun c33 => ?_) (fun c33 => ?_)
        · rw [if_neg c33] at h
          refine lv_goto (tgt := 2599) hx hb dL_law__2441 (by decide) ?_
          obtain ⟨y30, ey30, h⟩ := lt_some h
          refine lv_iinc (v := y30) (lv' := [(4, .int y30), (6, .int y26), (5, .int y7), (0, .ref b), (1, .ref (G.2.2 0)), (2, .ref (G.2.2 22)), (3, .ref oa)]) hx hb dL_law__2599 hl (k := 6) rfl (by rw [ey30]; rfl) (by decide) rfl (fun ls hl => ?_)
          refine lv_goto (tgt := 23) hx hb dL_law__2602 (by decide) ?_
          subst ey30
          exact kc V27 w6 (Option.some.inj h).symm H locs ls _ _ hw (lv_sub hl [3, 4, 5, 6, 0] rfl) (by omega) (by omega)
        · rw [if_pos c33] at h
          refine lv_aload_n hx hb dL_law__2429 rfl (lv_at hl 5 rfl) ?_
          refine lv_iconst (v := (0 : Int32)) hx hb dL_law__2430 (by decide) ?_
          refine o_ll E hw vp_0_1 dL_law__2431 ?_
          refine lv_iload hx hb dL_law__2432 (lv_at hl 0 rfl) ?_
          refine lv_i2l hx hb dL_law__2434 rfl ?_
          refine W.lcmp hx hb dL_law__2435 ?_
          refine lv_if_eq (tgt := 2441) hx hb dL_law__2436 (by decide) (fun c32 => ?_) (fun c32 => ?_)
          · rw [if_pos c32] at h
            refine lv_goto (tgt := 2599) hx hb dL_law__2441 (by decide) ?_
            obtain ⟨y31, ey31, h⟩ := lt_some h
            refine lv_iinc (v := y31) (lv' := [(4, .int y31), (6, .int y26), (5, .int y7), (0, .ref b), (1, .ref (G.2.2 0)), (2, .ref (G.2.2 22)), (3, .ref oa)]) hx hb dL_law__2599 hl (k := 6) rfl (by rw [ey31]; rfl) (by decide) rfl (fun ls hl => ?_)
            refine lv_goto (tgt := 23) hx hb dL_law__2602 (by decide) ?_
            subst ey31
            exact kc V27 w6 (Option.some.inj h).symm H locs ls _ _ hw (lv_sub hl [3, 4, 5, 6, 0] rfl) (by omega) (by omega)
          · rw [if_neg c32] at h
            refine lv_iconst (v := (0 : Int32)) hx hb dL_law__2439 (by decide) ?_
            exact absurd (k1 _ (Option.some.inj h).symm) (by decide)
      · rw [if_neg c34] at h
        refine lv_iconst (v := (0 : Int32)) hx hb dL_law__2422 (by decide) ?_
        exact absurd (k1 _ (Option.some.inj h).symm) (by decide)
  · rw [if_neg c67] at h
    refine lv_iconst (v := (1 : Int32)) hx hb dL_law__2376 (by decide) ?_
    refine lv_goto (tgt := 2381) hx hb dL_law__2377 (by decide) ?_
    refine lv_aload_n hx hb dL_law__2381 rfl (lv_at hl 3 rfl) ?_
    obtain ⟨o36, V41, h39, h⟩ := ob_I_some h
    obtain ⟨⟨y38, w37⟩, h40, h⟩ := ob_R_some h
    have h := dt2_eq h
    refine o_SH (n := 4) (As := [.ref (G.2.2 0), .int z2, .int (1 : Int32), .ref oa]) E hw (kL_led (l := l) (G := G) (Z := Z) (oa := oa) ht h39 h40) yw_L_led lw_ini lm_RL_253 ⟨by decide, by decide, by decide +kernel⟩ rfl hl.1 (by decide) (hfc 1 (by decide)) (by decide) rfl (Nat.le_of_ble_eq_true rfl) dL_law__2382 (fun H locs hw => ?_)
    refine lv_istore (lv' := [(5, .int y38), (0, .ref b), (1, .ref (G.2.2 0)), (2, .ref (G.2.2 22)), (3, .ref oa), (4, .int u4)]) hx hb dL_law__2385 hl (by decide) rfl (fun ls hl => ?_)
    refine lv_aload_n hx hb dL_law__2387 rfl (lv_at hl 3 rfl) ?_
    refine lv_aload_n hx hb dL_law__2388 rfl (lv_at hl 1 rfl) ?_
    refine lv_iload hx hb dL_law__2389 (lv_at hl 5 rfl) ?_
    refine lv_iconst (v := (1 : Int32)) hx hb dL_law__2391 (by decide) ?_
    refine lv_iadd hx hb dL_law__2392 ?_
    obtain ⟨b42, h⟩ := rd_some h
    obtain ⟨z43, ez43, h⟩ := lt_some h
    refine va_sld hx hb hX hbl hbA hw.2.2 b42 dL_law__2393 ?_
    refine lv_eqi ez43 ?_
    refine lv_aload_n hx hb dL_law__2394 rfl (lv_at hl 1 rfl) ?_
    refine lv_iload hx hb dL_law__2395 (lv_at hl 5 rfl) ?_
    refine lv_iconst (v := (2 : Int32)) hx hb dL_law__2397 (by decide) ?_
    refine lv_iadd hx hb dL_law__2398 ?_
    obtain ⟨b44, h⟩ := rd_some h
    obtain ⟨z45, ez45, h⟩ := lt_some h
    refine va_sld hx hb hX hbl hbA hw.2.2 b44 dL_law__2399 ?_
    refine lv_eqi ez45 ?_
    refine lv_if_eq (tgt := 2407) hx hb dL_law__2400 (by decide) (fun c66 => ?_) (fun c66 => ?_)
    · rw [if_pos c66] at h
      refine lv_iconst (v := (0 : Int32)) hx hb dL_law__2407 (by decide) ?_
      obtain ⟨y47, V48, h46, h⟩ := ob_I_some h
      refine o_VI (As := [.int z43, .int (0 : Int32)]) E hw (kX10_led (l := l) (G := G) (SG_ok Z) h46) yy_X10_led lm_RL_255 rfl (by decide) rfl rfl hl.1 (by decide) (hf0 (by omega) (by omega)) (by decide) rfl (Nat.le_of_ble_eq_true rfl) dL_law__2408 (fun H locs hw => ?_)
      refine lv_istore (lv' := [(6, .int y47), (5, .int y38), (0, .ref b), (1, .ref (G.2.2 0)), (2, .ref (G.2.2 22)), (3, .ref oa), (4, .int u4)]) hx hb dL_law__2411 hl (by decide) rfl (fun ls hl => ?_)
      refine lv_aload_n hx hb dL_law__2413 rfl (lv_at hl 4 rfl) ?_
      obtain ⟨y50, h49, h⟩ := ob_R_some h
      refine o_VI (As := []) E hw (kX10_thrown (l := l) (G := G) (SG_ok Z) h49) yy_X10_thrown lm_RL_141 rfl (by decide) rfl rfl hl.1 (by decide) (hf0 (by omega) (by omega)) (by decide) rfl (Nat.le_of_ble_eq_true rfl) dL_law__2414 (fun H locs hw => ?_)
      refine lv_iload hx hb dL_law__2417 (lv_at hl 1 rfl) ?_
      refine lv_icmp_eq (tgt := 2424) hx hb dL_law__2419 (by decide) (fun c55 => ?_) (fun c55 => ?_)
      · rw [if_pos c55] at h
        refine lv_iload hx hb dL_law__2424 (lv_at hl 1 rfl) ?_
        refine lv_if_ne (tgt := 2441) hx hb dL_law__2426 (by decide) (fun c54 => ?_) (fun c54 => ?_)
        · rw [if_neg c54] at h
          refine lv_goto (tgt := 2599) hx hb dL_law__2441 (by decide) ?_
          obtain ⟨y51, ey51, h⟩ := lt_some h
          refine lv_iinc (v := y51) (lv' := [(4, .int y51), (6, .int y47), (5, .int y38), (0, .ref b), (1, .ref (G.2.2 0)), (2, .ref (G.2.2 22)), (3, .ref oa)]) hx hb dL_law__2599 hl (k := 6) rfl (by rw [ey51]; rfl) (by decide) rfl (fun ls hl => ?_)
          refine lv_goto (tgt := 23) hx hb dL_law__2602 (by decide) ?_
          subst ey51
          exact kc V48 w37 (Option.some.inj h).symm H locs ls _ _ hw (lv_sub hl [3, 4, 5, 6, 0] rfl) (by omega) (by omega)
        · rw [if_pos c54] at h
          refine lv_aload_n hx hb dL_law__2429 rfl (lv_at hl 5 rfl) ?_
          refine lv_iconst (v := (0 : Int32)) hx hb dL_law__2430 (by decide) ?_
          refine o_ll E hw vp_0_1 dL_law__2431 ?_
          refine lv_iload hx hb dL_law__2432 (lv_at hl 0 rfl) ?_
          refine lv_i2l hx hb dL_law__2434 rfl ?_
          refine W.lcmp hx hb dL_law__2435 ?_
          refine lv_if_eq (tgt := 2441) hx hb dL_law__2436 (by decide) (fun c53 => ?_) (fun c53 => ?_)
          · rw [if_pos c53] at h
            refine lv_goto (tgt := 2599) hx hb dL_law__2441 (by decide) ?_
            obtain ⟨y52, ey52, h⟩ := lt_some h
            refine lv_iinc (v := y52) (lv' := [(4, .int y52), (6, .int y47), (5, .int y38), (0, .ref b), (1, .ref (G.2.2 0)), (2, .ref (G.2.2 22)), (3, .ref oa)]) hx hb dL_law__2599 hl (k := 6) rfl (by rw [ey52]; rfl) (by decide) rfl (fun ls hl => ?_)
            refine lv_goto (tgt := 23) hx hb dL_law__2602 (by decide) ?_
            subst ey52
            exact kc V48 w37 (Option.some.inj h).symm H locs ls _ _ hw (lv_sub hl [3, 4, 5, 6, 0] rfl) (by omega) (by omega)
          · rw [if_neg c53] at h
            refine lv_iconst (v := (0 : Int32)) hx hb dL_law__2439 (by decide) ?_
            exact absurd (k1 _ (Option.some.inj h).symm) (by decide)
      · rw [if_neg c55] at h
        refine lv_iconst (v := (0 : Int32)) hx hb dL_law__2422 (by decide) ?_
        exact absurd (k1 _ (Option.some.inj h).symm) (by decide)
    · rw [if_neg c66] at h
      refine lv_iconst (v := (1 : Int32)) hx hb dL_law__2403 (by decide) ?_
      refine lv_goto (tgt := 2408) hx hb dL_law__2404 (by decide) ?_
      obtain ⟨y57, V58, h56, h⟩ := ob_I_some h
      refine o_VI (As := [.int z43, .int (1 : Int32)]) E hw (kX10_led (l := l) (G := G) (SG_ok Z) h56) yy_X10_led lm_RL_255 rfl (by decide) rfl rfl hl.1 (by decide) (hf0 (by omega) (by omega)) (by decide) rfl (Nat.le_of_ble_eq_true rfl) dL_law__2408 (fun H locs hw => ?_)
      refine lv_istore (lv' := [(6, .int y57), (5, .int y38), (0, .ref b), (1, .ref (G.2.2 0)), (2, .ref (G.2.2 22)), (3, .ref oa), (4, .int u4)]) hx hb dL_law__2411 hl (by decide) rfl (fun ls hl => ?_)
      refine lv_aload_n hx hb dL_law__2413 rfl (lv_at hl 4 rfl) ?_
      obtain ⟨y60, h59, h⟩ := ob_R_some h
      refine o_VI (As := []) E hw (kX10_thrown (l := l) (G := G) (SG_ok Z) h59) yy_X10_thrown lm_RL_141 rfl (by decide) rfl rfl hl.1 (by decide) (hf0 (by omega) (by omega)) (by decide) rfl (Nat.le_of_ble_eq_true rfl) dL_law__2414 (fun H locs hw => ?_)
      refine lv_iload hx hb dL_law__2417 (lv_at hl 1 rfl) ?_
      refine lv_icmp_eq (tgt := 2424) hx hb dL_law__2419 (by decide) (fun c65 => ?_) (fun c65 => ?_)
      · rw [if_pos c65] at h
        refine lv_iload hx hb dL_law__2424 (lv_at hl 1 rfl) ?_
        refine lv_if_ne (tgt := 2441) hx hb dL_law__2426 (by decide) (fun c64 => ?_) (fun c64 => ?_)
        · rw [if_neg c64] at h
          refine lv_goto (tgt := 2599) hx hb dL_law__2441 (by decide) ?_
          obtain ⟨y61, ey61, h⟩ := lt_some h
          refine lv_iinc (v := y61) (lv' := [(4, .int y61), (6, .int y57), (5, .int y38), (0, .ref b), (1, .ref (G.2.2 0)), (2, .ref (G.2.2 22)), (3, .ref oa)]) hx hb dL_law__2599 hl (k := 6) rfl (by rw [ey61]; rfl) (by decide) rfl (fun ls hl => ?_)
          refine lv_goto (tgt := 23) hx hb dL_law__2602 (by decide) ?_
          subst ey61
          exact kc V58 w37 (Option.some.inj h).symm H locs ls _ _ hw (lv_sub hl [3, 4, 5, 6, 0] rfl) (by omega) (by omega)
        · rw [if_pos c64] at h
          refine lv_aload_n hx hb dL_law__2429 rfl (lv_at hl 5 rfl) ?_
          refine lv_iconst (v := (0 : Int32)) hx hb dL_law__2430 (by decide) ?_
          refine o_ll E hw vp_0_1 dL_law__2431 ?_
          refine lv_iload hx hb dL_law__2432 (lv_at hl 0 rfl) ?_
          refine lv_i2l hx hb dL_law__2434 rfl ?_
          refine W.lcmp hx hb dL_law__2435 ?_
          refine lv_if_eq (tgt := 2441) hx hb dL_law__2436 (by decide) (fun c63 => ?_) (fun c63 => ?_)
          · rw [if_pos c63] at h
            refine lv_goto (tgt := 2599) hx hb dL_law__2441 (by decide) ?_
            obtain ⟨y62, ey62, h⟩ := lt_some h
            refine lv_iinc (v := y62) (lv' := [(4, .int y62), (6, .int y57), (5, .int y38), (0, .ref b), (1, .ref (G.2.2 0)), (2, .ref (G.2.2 22)), (3, .ref oa)]) hx hb dL_law__2599 hl (k := 6) rfl (by rw [ey62]; rfl) (by decide) rfl (fun ls hl => ?_)
            refine lv_goto (tgt := 23) hx hb dL_law__2602 (by decide) ?_
            subst ey62
            exact kc V58 w37 (Option.some.inj h).symm H locs ls _ _ hw (lv_sub hl [3, 4, 5, 6, 0] rfl) (by omega) (by omega)
          · rw [if_neg c63] at h
            refine lv_iconst (v := (0 : Int32)) hx hb dL_law__2439 (by decide) ?_
            exact absurd (k1 _ (Option.some.inj h).symm) (by decide)
      · rw [if_neg c65] at h
        refine lv_iconst (v := (0 : Int32)) hx hb dL_law__2422 (by decide) ?_
        exact absurd (k1 _ (Option.some.inj h).symm) (by decide)
theorem dL_law__2444 : decode cL_law_ 2444 = .ok (.aload_n 1, 1) := by decide +kernel
theorem dL_law__2445 : decode cL_law_ 2445 = .ok (.aload_n 0, 1) := by decide +kernel
theorem dL_law__2446 : decode cL_law_ 2446 = .ok (.iload 4, 2) := by decide +kernel
theorem dL_law__2448 : decode cL_law_ 2448 = .ok (.iconst 1, 1) := by decide +kernel
theorem dL_law__2449 : decode cL_law_ 2449 = .ok (.iadd, 1) := by decide +kernel
theorem dL_law__2450 : decode cL_law_ 2450 = .ok (.iaload, 1) := by decide +kernel
theorem dL_law__2451 : decode cL_law_ 2451 = .ok (.aload_n 0, 1) := by decide +kernel
theorem dL_law__2452 : decode cL_law_ 2452 = .ok (.iload 4, 2) := by decide +kernel
theorem dL_law__2454 : decode cL_law_ 2454 = .ok (.iconst 2, 1) := by decide +kernel
theorem dL_law__2455 : decode cL_law_ 2455 = .ok (.iadd, 1) := by decide +kernel
theorem dL_law__2456 : decode cL_law_ 2456 = .ok (.iaload, 1) := by decide +kernel
theorem dL_law__2457 : decode cL_law_ 2457 = .ok (.aload_n 3, 1) := by decide +kernel
theorem dL_law__2458 : decode cL_law_ 2458 = .ok (.invokestatic 256, 3) := by decide +kernel
theorem dL_law__2461 : decode cL_law_ 2461 = .ok (.istore 5, 2) := by decide +kernel
theorem dL_law__2463 : decode cL_law_ 2463 = .ok (.aload_n 2, 1) := by decide +kernel
theorem dL_law__2464 : decode cL_law_ 2464 = .ok (.aload_n 0, 1) := by decide +kernel
theorem dL_law__2465 : decode cL_law_ 2465 = .ok (.iload 4, 2) := by decide +kernel
theorem dL_law__2467 : decode cL_law_ 2467 = .ok (.iconst 1, 1) := by decide +kernel
theorem dL_law__2468 : decode cL_law_ 2468 = .ok (.iadd, 1) := by decide +kernel
theorem dL_law__2469 : decode cL_law_ 2469 = .ok (.iaload, 1) := by decide +kernel
theorem dL_law__2470 : decode cL_law_ 2470 = .ok (.aload_n 0, 1) := by decide +kernel
theorem dL_law__2471 : decode cL_law_ 2471 = .ok (.iload 4, 2) := by decide +kernel
theorem dL_law__2473 : decode cL_law_ 2473 = .ok (.iconst 2, 1) := by decide +kernel
theorem dL_law__2474 : decode cL_law_ 2474 = .ok (.iadd, 1) := by decide +kernel
theorem dL_law__2475 : decode cL_law_ 2475 = .ok (.iaload, 1) := by decide +kernel
theorem dL_law__2476 : decode cL_law_ 2476 = .ok (.invokevirtual 258, 3) := by decide +kernel
theorem dL_law__2479 : decode cL_law_ 2479 = .ok (.istore 6, 2) := by decide +kernel
theorem dL_law__2481 : decode cL_law_ 2481 = .ok (.aload_n 2, 1) := by decide +kernel
theorem dL_law__2482 : decode cL_law_ 2482 = .ok (.invokevirtual 141, 3) := by decide +kernel
theorem dL_law__2485 : decode cL_law_ 2485 = .ok (.iload 5, 2) := by decide +kernel
theorem dL_law__2487 : decode cL_law_ 2487 = .ok (.if_icmp .eq 5, 3) := by decide +kernel
theorem dL_law__2490 : decode cL_law_ 2490 = .ok (.iconst 0, 1) := by decide +kernel
theorem dL_law__2491 : decode cL_law_ 2491 = .ok (.ireturn, 1) := by decide +kernel
theorem dL_law__2492 : decode cL_law_ 2492 = .ok (.iload 5, 2) := by decide +kernel
theorem dL_law__2494 : decode cL_law_ 2494 = .ok (.ifCond .ne 15, 3) := by decide +kernel
theorem dL_law__2497 : decode cL_law_ 2497 = .ok (.aload_n 3, 1) := by decide +kernel
theorem dL_law__2498 : decode cL_law_ 2498 = .ok (.iconst 0, 1) := by decide +kernel
theorem dL_law__2499 : decode cL_law_ 2499 = .ok (.laload, 1) := by decide +kernel
theorem dL_law__2500 : decode cL_law_ 2500 = .ok (.iload 6, 2) := by decide +kernel
theorem dL_law__2502 : decode cL_law_ 2502 = .ok (.i2l, 1) := by decide +kernel
theorem dL_law__2503 : decode cL_law_ 2503 = .ok (.lcmp, 1) := by decide +kernel
theorem dL_law__2504 : decode cL_law_ 2504 = .ok (.ifCond .eq 5, 3) := by decide +kernel
theorem dL_law__2507 : decode cL_law_ 2507 = .ok (.iconst 0, 1) := by decide +kernel
theorem dL_law__2508 : decode cL_law_ 2508 = .ok (.ireturn, 1) := by decide +kernel
theorem dL_law__2509 : decode cL_law_ 2509 = .ok (.goto 90, 3) := by decide +kernel
/-! opcode 37 -/
noncomputable def fL_c37 (xs : Nat → Int32) (L : Nat) (V : VT) (ov : Nat → Int64) (u4 : Int32) : Option ((VT × (Nat → Int64) × Int32) ⊕ Int32) := rd_ (u4 + (1 : Int32)) L (lt_ (xs (u4 + (1 : Int32)).toNatClampNeg) fun z2 => rd_ (u4 + (2 : Int32)) L (lt_ (xs (u4 + (2 : Int32)).toNatClampNeg) fun z4 => ob_I (fX9_log V z2 z4) fun o5 V10 => ob_R (hL_log o5 ov) fun qy7 => dt2_ qy7 fun y7 w6 => rd_ (u4 + (1 : Int32)) L (lt_ (xs (u4 + (1 : Int32)).toNatClampNeg) fun z12 => rd_ (u4 + (2 : Int32)) L (lt_ (xs (u4 + (2 : Int32)).toNatClampNeg) fun z14 => ob_I (fX10_log V10 z12 z14) fun y16 V17 => ob_R (fX10_thrown V17 ) fun y19 => if y19 = y7 then (if y7 = 0 then (if (lg_cmp (w6 ((0 : Int32).toNatClampNeg)) y16.toInt64) = 0 then (lt_ (u4 + (6 : Int32)) fun y21 => some (.inl (V17, w6, y21))) else (some (.inr (0 : Int32)))) else (lt_ (u4 + (6 : Int32)) fun y20 => some (.inl (V17, w6, y20)))) else (some (.inr (0 : Int32)))))))
set_option maxHeartbeats 4000000 in
set_option maxRecDepth 100000 in
theorem wL_c37 {p : Program} {l : Launch} {e : Env} {s : State} {m : MethodId} {args : Array Value} {below : List Frame} {meth : Method} {c : Code} {G : GT} {Z : Nat → Nat × Nat} {oa b L : Nat} {xs : Nat → Int32} {Q : State → Prop} (E : EO p s m args c meth cL_law_ 7 RL (some .boolean) G (SH Z) oa) (ht : l.stackTraces = false) (hX : va_X b L xs s s.heap) (hbl : b < s.heap.size) (hbA : ¬ gO G oa s.heap.size b) (hL : L ≤ 3072) {C0 S0 : Nat} (hC0 : C0 ≤ 100000) (hS0 : S0 ≤ 1000000) {V : VT} {ov : Nat → Int64} {u4 : Int32} {r : ((VT × (Nat → Int64) × Int32) ⊕ Int32)} (h : fL_c37 xs L V ov u4 = some r) (k1 : ∀ y, r = .inr y → y = 1) (kc : ∀ (V2 : VT) (ov2 : Nat → Int64), r = .inl (V2, ov2, u4 + 6) → ∀ (H : Heap) (locs : List Loc) (ls : Array Slot) (cells slots : Nat), HO G oa s.heap (V2) (ov2) H locs → lv_has ls 7 [(0, .ref b), (1, .ref (G.2.2 0)), (2, .ref (G.2.2 22)), (3, .ref oa), (4, .int (u4 + 6))] → cells ≤ C0 + 3 → slots ≤ S0 + 18 → W p l e room_1 s m args below meth c H locs cells slots Q (F0 m 23 ls [])) {H : Heap} {locs : List Loc} {ls : Array Slot} {cells slots : Nat} (hw : HO G oa s.heap V ov H locs) (hl : lv_has ls 7 [(0, .ref b), (1, .ref (G.2.2 0)), (2, .ref (G.2.2 22)), (3, .ref oa), (4, .int u4)]) (hce : cells ≤ C0) (hsl : slots ≤ S0) : W p l e room_1 s m args below meth c H locs cells slots Q (F0 m 2444 ls []) := by
  have hx := E.1
  have hb := E.2.1
  have hfc : ∀ K : Nat, K ≤ 3 → cells + K ≤ room_1.cells ∧ slots + 6 * K ≤ room_1.slots := fun K hK => ⟨by show cells + K ≤ 601024; omega, by show slots + 6 * K ≤ 7293034; omega⟩
  have hf0 : ∀ {c9 s9 : Nat}, c9 ≤ C0 + 3 → s9 ≤ S0 + 18 → c9 ≤ room_1.cells ∧ s9 ≤ room_1.slots := fun h1 h2 => ⟨by show _ ≤ 601024; omega, by show _ ≤ 7293034; omega⟩
  unfold fL_c37 at h
  refine lv_aload_n hx hb dL_law__2444 rfl (lv_at hl 1 rfl) ?_
  refine lv_aload_n hx hb dL_law__2445 rfl (lv_at hl 0 rfl) ?_
  refine lv_iload hx hb dL_law__2446 (lv_at hl 4 rfl) ?_
  refine lv_iconst (v := (1 : Int32)) hx hb dL_law__2448 (by decide) ?_
  refine lv_iadd hx hb dL_law__2449 ?_
  obtain ⟨b1, h⟩ := rd_some h
  obtain ⟨z2, ez2, h⟩ := lt_some h
  refine va_sld hx hb hX hbl hbA hw.2.2 b1 dL_law__2450 ?_
  refine lv_eqi ez2 ?_
  refine lv_aload_n hx hb dL_law__2451 rfl (lv_at hl 0 rfl) ?_
  refine lv_iload hx hb dL_law__2452 (lv_at hl 4 rfl) ?_
  refine lv_iconst (v := (2 : Int32)) hx hb dL_law__2454 (by decide) ?_
  refine lv_iadd hx hb dL_law__2455 ?_
  obtain ⟨b3, h⟩ := rd_some h
  obtain ⟨z4, ez4, h⟩ := lt_some h
  refine va_sld hx hb hX hbl hbA hw.2.2 b3 dL_law__2456 ?_
  refine lv_eqi ez4 ?_
  refine lv_aload_n hx hb dL_law__2457 rfl (lv_at hl 3 rfl) ?_
  obtain ⟨o5, V10, h8, h⟩ := ob_I_some h
  obtain ⟨⟨y7, w6⟩, h9, h⟩ := ob_R_some h
  have h := dt2_eq h
  refine o_SH (n := 4) (As := [.ref (G.2.2 0), .int z2, .int z4, .ref oa]) E hw (kL_log (l := l) (G := G) (Z := Z) (oa := oa) ht h8 h9) yw_L_log lw_ini lm_RL_256 ⟨by decide, by decide, by decide +kernel⟩ rfl hl.1 (by decide) (hfc 1 (by decide)) (by decide) rfl (Nat.le_of_ble_eq_true rfl) dL_law__2458 (fun H locs hw => ?_)
  refine lv_istore (lv' := [(5, .int y7), (0, .ref b), (1, .ref (G.2.2 0)), (2, .ref (G.2.2 22)), (3, .ref oa), (4, .int u4)]) hx hb dL_law__2461 hl (by decide) rfl (fun ls hl => ?_)
  refine lv_aload_n hx hb dL_law__2463 rfl (lv_at hl 3 rfl) ?_
  refine lv_aload_n hx hb dL_law__2464 rfl (lv_at hl 1 rfl) ?_
  refine lv_iload hx hb dL_law__2465 (lv_at hl 5 rfl) ?_
  refine lv_iconst (v := (1 : Int32)) hx hb dL_law__2467 (by decide) ?_
  refine lv_iadd hx hb dL_law__2468 ?_
  obtain ⟨b11, h⟩ := rd_some h
  obtain ⟨z12, ez12, h⟩ := lt_some h
  refine va_sld hx hb hX hbl hbA hw.2.2 b11 dL_law__2469 ?_
  refine lv_eqi ez12 ?_
  refine lv_aload_n hx hb dL_law__2470 rfl (lv_at hl 1 rfl) ?_
  refine lv_iload hx hb dL_law__2471 (lv_at hl 5 rfl) ?_
  refine lv_iconst (v := (2 : Int32)) hx hb dL_law__2473 (by decide) ?_
  refine lv_iadd hx hb dL_law__2474 ?_
  obtain ⟨b13, h⟩ := rd_some h
  obtain ⟨z14, ez14, h⟩ := lt_some h
  refine va_sld hx hb hX hbl hbA hw.2.2 b13 dL_law__2475 ?_
  refine lv_eqi ez14 ?_
  obtain ⟨y16, V17, h15, h⟩ := ob_I_some h
  refine o_VI (As := [.int z12, .int z14]) E hw (kX10_log (l := l) (G := G) (SG_ok Z) h15) yy_X10_log lm_RL_258 rfl (by decide) rfl rfl hl.1 (by decide) (hf0 (by omega) (by omega)) (by decide) rfl (Nat.le_of_ble_eq_true rfl) dL_law__2476 (fun H locs hw => ?_)
  refine lv_istore (lv' := [(6, .int y16), (5, .int y7), (0, .ref b), (1, .ref (G.2.2 0)), (2, .ref (G.2.2 22)), (3, .ref oa), (4, .int u4)]) hx hb dL_law__2479 hl (by decide) rfl (fun ls hl => ?_)
  refine lv_aload_n hx hb dL_law__2481 rfl (lv_at hl 4 rfl) ?_
  obtain ⟨y19, h18, h⟩ := ob_R_some h
  refine o_VI (As := []) E hw (kX10_thrown (l := l) (G := G) (SG_ok Z) h18) yy_X10_thrown lm_RL_141 rfl (by decide) rfl rfl hl.1 (by decide) (hf0 (by omega) (by omega)) (by decide) rfl (Nat.le_of_ble_eq_true rfl) dL_law__2482 (fun H locs hw => ?_)
  refine lv_iload hx hb dL_law__2485 (lv_at hl 1 rfl) ?_
  refine lv_icmp_eq (tgt := 2492) hx hb dL_law__2487 (by decide) (fun c24 => ?_) (fun c24 => ?_)
  · rw [if_pos c24] at h
    refine lv_iload hx hb dL_law__2492 (lv_at hl 1 rfl) ?_
    refine lv_if_ne (tgt := 2509) hx hb dL_law__2494 (by decide) (fun c23 => ?_) (fun c23 => ?_)
    · rw [if_neg c23] at h
      refine lv_goto (tgt := 2599) hx hb dL_law__2509 (by decide) ?_
      obtain ⟨y20, ey20, h⟩ := lt_some h
      refine lv_iinc (v := y20) (lv' := [(4, .int y20), (6, .int y16), (5, .int y7), (0, .ref b), (1, .ref (G.2.2 0)), (2, .ref (G.2.2 22)), (3, .ref oa)]) hx hb dL_law__2599 hl (k := 6) rfl (by rw [ey20]; rfl) (by decide) rfl (fun ls hl => ?_)
      refine lv_goto (tgt := 23) hx hb dL_law__2602 (by decide) ?_
      subst ey20
      exact kc V17 w6 (Option.some.inj h).symm H locs ls _ _ hw (lv_sub hl [3, 4, 5, 6, 0] rfl) (by omega) (by omega)
    · rw [if_pos c23] at h
      refine lv_aload_n hx hb dL_law__2497 rfl (lv_at hl 5 rfl) ?_
      refine lv_iconst (v := (0 : Int32)) hx hb dL_law__2498 (by decide) ?_
      refine o_ll E hw vp_0_1 dL_law__2499 ?_
      refine lv_iload hx hb dL_law__2500 (lv_at hl 0 rfl) ?_
      refine lv_i2l hx hb dL_law__2502 rfl ?_
      refine W.lcmp hx hb dL_law__2503 ?_
      refine lv_if_eq (tgt := 2509) hx hb dL_law__2504 (by decide) (fun c22 => ?_) (fun c22 => ?_)
      · rw [if_pos c22] at h
        refine lv_goto (tgt := 2599) hx hb dL_law__2509 (by decide) ?_
        obtain ⟨y21, ey21, h⟩ := lt_some h
        refine lv_iinc (v := y21) (lv' := [(4, .int y21), (6, .int y16), (5, .int y7), (0, .ref b), (1, .ref (G.2.2 0)), (2, .ref (G.2.2 22)), (3, .ref oa)]) hx hb dL_law__2599 hl (k := 6) rfl (by rw [ey21]; rfl) (by decide) rfl (fun ls hl => ?_)
        refine lv_goto (tgt := 23) hx hb dL_law__2602 (by decide) ?_
        subst ey21
        exact kc V17 w6 (Option.some.inj h).symm H locs ls _ _ hw (lv_sub hl [3, 4, 5, 6, 0] rfl) (by omega) (by omega)
      · rw [if_neg c22] at h
        refine lv_iconst (v := (0 : Int32)) hx hb dL_law__2507 (by decide) ?_
        exact absurd (k1 _ (Option.some.inj h).symm) (by decide)
  · rw [if_neg c24] at h
    refine lv_iconst (v := (0 : Int32)) hx hb dL_law__2490 (by decide) ?_
    exact absurd (k1 _ (Option.some.inj h).symm) (by decide)
theorem dL_law__2512 : decode cL_law_ 2512 = .ok (.aload_n 1, 1) := by decide +kernel
theorem dL_law__2513 : decode cL_law_ 2513 = .ok (.aload_n 0, 1) := by decide +kernel
theorem dL_law__2514 : decode cL_law_ 2514 = .ok (.iload 4, 2) := by decide +kernel
theorem dL_law__2516 : decode cL_law_ 2516 = .ok (.iconst 1, 1) := by decide +kernel
theorem dL_law__2517 : decode cL_law_ 2517 = .ok (.iadd, 1) := by decide +kernel
theorem dL_law__2518 : decode cL_law_ 2518 = .ok (.iaload, 1) := by decide +kernel
theorem dL_law__2519 : decode cL_law_ 2519 = .ok (.invokevirtual 259, 3) := by decide +kernel
theorem dL_law__2522 : decode cL_law_ 2522 = .ok (.aload_n 2, 1) := by decide +kernel
theorem dL_law__2523 : decode cL_law_ 2523 = .ok (.aload_n 0, 1) := by decide +kernel
theorem dL_law__2524 : decode cL_law_ 2524 = .ok (.iload 4, 2) := by decide +kernel
theorem dL_law__2526 : decode cL_law_ 2526 = .ok (.iconst 1, 1) := by decide +kernel
theorem dL_law__2527 : decode cL_law_ 2527 = .ok (.iadd, 1) := by decide +kernel
theorem dL_law__2528 : decode cL_law_ 2528 = .ok (.iaload, 1) := by decide +kernel
theorem dL_law__2529 : decode cL_law_ 2529 = .ok (.invokevirtual 262, 3) := by decide +kernel
theorem dL_law__2532 : decode cL_law_ 2532 = .ok (.if_icmp .eq 67, 3) := by decide +kernel
theorem dL_law__2535 : decode cL_law_ 2535 = .ok (.iconst 0, 1) := by decide +kernel
theorem dL_law__2536 : decode cL_law_ 2536 = .ok (.ireturn, 1) := by decide +kernel
/-! opcode 38 -/
noncomputable def fL_c38 (xs : Nat → Int32) (L : Nat) (V : VT) (ov : Nat → Int64) (u4 : Int32) : Option ((VT × (Nat → Int64) × Int32) ⊕ Int32) := rd_ (u4 + (1 : Int32)) L (lt_ (xs (u4 + (1 : Int32)).toNatClampNeg) fun z2 => ob_I (fX9_seed V z2) fun y4 V5 => rd_ (u4 + (1 : Int32)) L (lt_ (xs (u4 + (1 : Int32)).toNatClampNeg) fun z7 => ob_I (fX10_seed V5 z7) fun y9 V10 => if y4 = y9 then (lt_ (u4 + (6 : Int32)) fun y11 => some (.inl (V10, ov, y11))) else (some (.inr (0 : Int32)))))
set_option maxHeartbeats 4000000 in
set_option maxRecDepth 100000 in
theorem wL_c38 {p : Program} {l : Launch} {e : Env} {s : State} {m : MethodId} {args : Array Value} {below : List Frame} {meth : Method} {c : Code} {G : GT} {Z : Nat → Nat × Nat} {oa b L : Nat} {xs : Nat → Int32} {Q : State → Prop} (E : EO p s m args c meth cL_law_ 7 RL (some .boolean) G (SH Z) oa) (ht : l.stackTraces = false) (hX : va_X b L xs s s.heap) (hbl : b < s.heap.size) (hbA : ¬ gO G oa s.heap.size b) (hL : L ≤ 3072) {C0 S0 : Nat} (hC0 : C0 ≤ 100000) (hS0 : S0 ≤ 1000000) {V : VT} {ov : Nat → Int64} {u4 : Int32} {r : ((VT × (Nat → Int64) × Int32) ⊕ Int32)} (h : fL_c38 xs L V ov u4 = some r) (k1 : ∀ y, r = .inr y → y = 1) (kc : ∀ (V2 : VT) (ov2 : Nat → Int64), r = .inl (V2, ov2, u4 + 6) → ∀ (H : Heap) (locs : List Loc) (ls : Array Slot) (cells slots : Nat), HO G oa s.heap (V2) (ov2) H locs → lv_has ls 7 [(0, .ref b), (1, .ref (G.2.2 0)), (2, .ref (G.2.2 22)), (3, .ref oa), (4, .int (u4 + 6))] → cells ≤ C0 + 3 → slots ≤ S0 + 18 → W p l e room_1 s m args below meth c H locs cells slots Q (F0 m 23 ls [])) {H : Heap} {locs : List Loc} {ls : Array Slot} {cells slots : Nat} (hw : HO G oa s.heap V ov H locs) (hl : lv_has ls 7 [(0, .ref b), (1, .ref (G.2.2 0)), (2, .ref (G.2.2 22)), (3, .ref oa), (4, .int u4)]) (hce : cells ≤ C0) (hsl : slots ≤ S0) : W p l e room_1 s m args below meth c H locs cells slots Q (F0 m 2512 ls []) := by
  have hx := E.1
  have hb := E.2.1
  have hfc : ∀ K : Nat, K ≤ 3 → cells + K ≤ room_1.cells ∧ slots + 6 * K ≤ room_1.slots := fun K hK => ⟨by show cells + K ≤ 601024; omega, by show slots + 6 * K ≤ 7293034; omega⟩
  have hf0 : ∀ {c9 s9 : Nat}, c9 ≤ C0 + 3 → s9 ≤ S0 + 18 → c9 ≤ room_1.cells ∧ s9 ≤ room_1.slots := fun h1 h2 => ⟨by show _ ≤ 601024; omega, by show _ ≤ 7293034; omega⟩
  unfold fL_c38 at h
  refine lv_aload_n hx hb dL_law__2512 rfl (lv_at hl 1 rfl) ?_
  refine lv_aload_n hx hb dL_law__2513 rfl (lv_at hl 0 rfl) ?_
  refine lv_iload hx hb dL_law__2514 (lv_at hl 4 rfl) ?_
  refine lv_iconst (v := (1 : Int32)) hx hb dL_law__2516 (by decide) ?_
  refine lv_iadd hx hb dL_law__2517 ?_
  obtain ⟨b1, h⟩ := rd_some h
  obtain ⟨z2, ez2, h⟩ := lt_some h
  refine va_sld hx hb hX hbl hbA hw.2.2 b1 dL_law__2518 ?_
  refine lv_eqi ez2 ?_
  obtain ⟨y4, V5, h3, h⟩ := ob_I_some h
  refine o_VI (As := [.int z2]) E hw (kX9_seed (l := l) (G := G) (SG_ok Z) h3) yy_X9_seed lm_RL_259 rfl (by decide) rfl rfl hl.1 (by decide) (hf0 (by omega) (by omega)) (by decide) rfl (Nat.le_of_ble_eq_true rfl) dL_law__2519 (fun H locs hw => ?_)
  refine lv_aload_n hx hb dL_law__2522 rfl (lv_at hl 2 rfl) ?_
  refine lv_aload_n hx hb dL_law__2523 rfl (lv_at hl 0 rfl) ?_
  refine lv_iload hx hb dL_law__2524 (lv_at hl 4 rfl) ?_
  refine lv_iconst (v := (1 : Int32)) hx hb dL_law__2526 (by decide) ?_
  refine lv_iadd hx hb dL_law__2527 ?_
  obtain ⟨b6, h⟩ := rd_some h
  obtain ⟨z7, ez7, h⟩ := lt_some h
  refine va_sld hx hb hX hbl hbA hw.2.2 b6 dL_law__2528 ?_
  refine lv_eqi ez7 ?_
  obtain ⟨y9, V10, h8, h⟩ := ob_I_some h
  refine o_VI (As := [.int z7]) E hw (kX10_seed (l := l) (G := G) (SG_ok Z) h8) yy_X10_seed lm_RL_262 rfl (by decide) rfl rfl hl.1 (by decide) (hf0 (by omega) (by omega)) (by decide) rfl (Nat.le_of_ble_eq_true rfl) dL_law__2529 (fun H locs hw => ?_)
  refine lv_icmp_eq (tgt := 2599) hx hb dL_law__2532 (by decide) (fun c12 => ?_) (fun c12 => ?_)
  · rw [if_pos c12] at h
    obtain ⟨y11, ey11, h⟩ := lt_some h
    refine lv_iinc (v := y11) (lv' := [(4, .int y11), (0, .ref b), (1, .ref (G.2.2 0)), (2, .ref (G.2.2 22)), (3, .ref oa)]) hx hb dL_law__2599 hl (k := 4) rfl (by rw [ey11]; rfl) (by decide) rfl (fun ls hl => ?_)
    refine lv_goto (tgt := 23) hx hb dL_law__2602 (by decide) ?_
    subst ey11
    exact kc V10 ov (Option.some.inj h).symm H locs ls _ _ hw (lv_sub hl [1, 2, 3, 4, 0] rfl) (by omega) (by omega)
  · rw [if_neg c12] at h
    refine lv_iconst (v := (0 : Int32)) hx hb dL_law__2535 (by decide) ?_
    exact absurd (k1 _ (Option.some.inj h).symm) (by decide)
theorem dL_law__2537 : decode cL_law_ 2537 = .ok (.aload_n 1, 1) := by decide +kernel
theorem dL_law__2538 : decode cL_law_ 2538 = .ok (.invokevirtual 263, 3) := by decide +kernel
theorem dL_law__2541 : decode cL_law_ 2541 = .ok (.aload_n 2, 1) := by decide +kernel
theorem dL_law__2542 : decode cL_law_ 2542 = .ok (.invokevirtual 267, 3) := by decide +kernel
theorem dL_law__2545 : decode cL_law_ 2545 = .ok (.if_icmp .eq 54, 3) := by decide +kernel
theorem dL_law__2548 : decode cL_law_ 2548 = .ok (.iconst 0, 1) := by decide +kernel
theorem dL_law__2549 : decode cL_law_ 2549 = .ok (.ireturn, 1) := by decide +kernel
/-! opcode 39 -/
noncomputable def fL_c39 (xs : Nat → Int32) (L : Nat) (V : VT) (ov : Nat → Int64) (u4 : Int32) : Option ((VT × (Nat → Int64) × Int32) ⊕ Int32) := ob_I (fX9_undo V ) fun y2 V3 => ob_I (fX10_undo V3 ) fun y5 V6 => if y2 = y5 then (lt_ (u4 + (6 : Int32)) fun y7 => some (.inl (V6, ov, y7))) else (some (.inr (0 : Int32)))
set_option maxHeartbeats 4000000 in
set_option maxRecDepth 100000 in
theorem wL_c39 {p : Program} {l : Launch} {e : Env} {s : State} {m : MethodId} {args : Array Value} {below : List Frame} {meth : Method} {c : Code} {G : GT} {Z : Nat → Nat × Nat} {oa b L : Nat} {xs : Nat → Int32} {Q : State → Prop} (E : EO p s m args c meth cL_law_ 7 RL (some .boolean) G (SH Z) oa) (ht : l.stackTraces = false) (hX : va_X b L xs s s.heap) (hbl : b < s.heap.size) (hbA : ¬ gO G oa s.heap.size b) (hL : L ≤ 3072) {C0 S0 : Nat} (hC0 : C0 ≤ 100000) (hS0 : S0 ≤ 1000000) {V : VT} {ov : Nat → Int64} {u4 : Int32} {r : ((VT × (Nat → Int64) × Int32) ⊕ Int32)} (h : fL_c39 xs L V ov u4 = some r) (k1 : ∀ y, r = .inr y → y = 1) (kc : ∀ (V2 : VT) (ov2 : Nat → Int64), r = .inl (V2, ov2, u4 + 6) → ∀ (H : Heap) (locs : List Loc) (ls : Array Slot) (cells slots : Nat), HO G oa s.heap (V2) (ov2) H locs → lv_has ls 7 [(0, .ref b), (1, .ref (G.2.2 0)), (2, .ref (G.2.2 22)), (3, .ref oa), (4, .int (u4 + 6))] → cells ≤ C0 + 3 → slots ≤ S0 + 18 → W p l e room_1 s m args below meth c H locs cells slots Q (F0 m 23 ls [])) {H : Heap} {locs : List Loc} {ls : Array Slot} {cells slots : Nat} (hw : HO G oa s.heap V ov H locs) (hl : lv_has ls 7 [(0, .ref b), (1, .ref (G.2.2 0)), (2, .ref (G.2.2 22)), (3, .ref oa), (4, .int u4)]) (hce : cells ≤ C0) (hsl : slots ≤ S0) : W p l e room_1 s m args below meth c H locs cells slots Q (F0 m 2537 ls []) := by
  have hx := E.1
  have hb := E.2.1
  have hfc : ∀ K : Nat, K ≤ 3 → cells + K ≤ room_1.cells ∧ slots + 6 * K ≤ room_1.slots := fun K hK => ⟨by show cells + K ≤ 601024; omega, by show slots + 6 * K ≤ 7293034; omega⟩
  have hf0 : ∀ {c9 s9 : Nat}, c9 ≤ C0 + 3 → s9 ≤ S0 + 18 → c9 ≤ room_1.cells ∧ s9 ≤ room_1.slots := fun h1 h2 => ⟨by show _ ≤ 601024; omega, by show _ ≤ 7293034; omega⟩
  unfold fL_c39 at h
  refine lv_aload_n hx hb dL_law__2537 rfl (lv_at hl 1 rfl) ?_
  obtain ⟨y2, V3, h1, h⟩ := ob_I_some h
  refine o_VI (As := []) E hw (kX9_undo (l := l) (G := G) (SG_ok Z) h1) yy_X9_undo lm_RL_263 rfl (by decide) rfl rfl hl.1 (by decide) (hf0 (by omega) (by omega)) (by decide) rfl (Nat.le_of_ble_eq_true rfl) dL_law__2538 (fun H locs hw => ?_)
  refine lv_aload_n hx hb dL_law__2541 rfl (lv_at hl 2 rfl) ?_
  obtain ⟨y5, V6, h4, h⟩ := ob_I_some h
  refine o_VI (As := []) E hw (kX10_undo (l := l) (G := G) (SG_ok Z) h4) yy_X10_undo lm_RL_267 rfl (by decide) rfl rfl hl.1 (by decide) (hf0 (by omega) (by omega)) (by decide) rfl (Nat.le_of_ble_eq_true rfl) dL_law__2542 (fun H locs hw => ?_)
  refine lv_icmp_eq (tgt := 2599) hx hb dL_law__2545 (by decide) (fun c8 => ?_) (fun c8 => ?_)
  · rw [if_pos c8] at h
    obtain ⟨y7, ey7, h⟩ := lt_some h
    refine lv_iinc (v := y7) (lv' := [(4, .int y7), (0, .ref b), (1, .ref (G.2.2 0)), (2, .ref (G.2.2 22)), (3, .ref oa)]) hx hb dL_law__2599 hl (k := 4) rfl (by rw [ey7]; rfl) (by decide) rfl (fun ls hl => ?_)
    refine lv_goto (tgt := 23) hx hb dL_law__2602 (by decide) ?_
    subst ey7
    exact kc V6 ov (Option.some.inj h).symm H locs ls _ _ hw (lv_sub hl [1, 2, 3, 4, 0] rfl) (by omega) (by omega)
  · rw [if_neg c8] at h
    refine lv_iconst (v := (0 : Int32)) hx hb dL_law__2548 (by decide) ?_
    exact absurd (k1 _ (Option.some.inj h).symm) (by decide)
theorem dL_law__2550 : decode cL_law_ 2550 = .ok (.aload_n 1, 1) := by decide +kernel
theorem dL_law__2551 : decode cL_law_ 2551 = .ok (.invokevirtual 268, 3) := by decide +kernel
theorem dL_law__2554 : decode cL_law_ 2554 = .ok (.aload_n 2, 1) := by decide +kernel
theorem dL_law__2555 : decode cL_law_ 2555 = .ok (.invokevirtual 271, 3) := by decide +kernel
theorem dL_law__2558 : decode cL_law_ 2558 = .ok (.goto 41, 3) := by decide +kernel
/-! opcode 40 -/
noncomputable def fL_c40 (xs : Nat → Int32) (L : Nat) (V : VT) (ov : Nat → Int64) (u4 : Int32) : Option ((VT × (Nat → Int64) × Int32) ⊕ Int32) := ob_R (fX9_image V ) fun V2 => ob_R (fX10_image V2 ) fun V4 => lt_ (u4 + (6 : Int32)) fun y5 => some (.inl (V4, ov, y5))
set_option maxHeartbeats 4000000 in
set_option maxRecDepth 100000 in
theorem wL_c40 {p : Program} {l : Launch} {e : Env} {s : State} {m : MethodId} {args : Array Value} {below : List Frame} {meth : Method} {c : Code} {G : GT} {Z : Nat → Nat × Nat} {oa b L : Nat} {xs : Nat → Int32} {Q : State → Prop} (E : EO p s m args c meth cL_law_ 7 RL (some .boolean) G (SH Z) oa) (ht : l.stackTraces = false) (hX : va_X b L xs s s.heap) (hbl : b < s.heap.size) (hbA : ¬ gO G oa s.heap.size b) (hL : L ≤ 3072) {C0 S0 : Nat} (hC0 : C0 ≤ 100000) (hS0 : S0 ≤ 1000000) {V : VT} {ov : Nat → Int64} {u4 : Int32} {r : ((VT × (Nat → Int64) × Int32) ⊕ Int32)} (h : fL_c40 xs L V ov u4 = some r) (k1 : ∀ y, r = .inr y → y = 1) (kc : ∀ (V2 : VT) (ov2 : Nat → Int64), r = .inl (V2, ov2, u4 + 6) → ∀ (H : Heap) (locs : List Loc) (ls : Array Slot) (cells slots : Nat), HO G oa s.heap (V2) (ov2) H locs → lv_has ls 7 [(0, .ref b), (1, .ref (G.2.2 0)), (2, .ref (G.2.2 22)), (3, .ref oa), (4, .int (u4 + 6))] → cells ≤ C0 + 3 → slots ≤ S0 + 18 → W p l e room_1 s m args below meth c H locs cells slots Q (F0 m 23 ls [])) {H : Heap} {locs : List Loc} {ls : Array Slot} {cells slots : Nat} (hw : HO G oa s.heap V ov H locs) (hl : lv_has ls 7 [(0, .ref b), (1, .ref (G.2.2 0)), (2, .ref (G.2.2 22)), (3, .ref oa), (4, .int u4)]) (hce : cells ≤ C0) (hsl : slots ≤ S0) : W p l e room_1 s m args below meth c H locs cells slots Q (F0 m 2550 ls []) := by
  have hx := E.1
  have hb := E.2.1
  have hfc : ∀ K : Nat, K ≤ 3 → cells + K ≤ room_1.cells ∧ slots + 6 * K ≤ room_1.slots := fun K hK => ⟨by show cells + K ≤ 601024; omega, by show slots + 6 * K ≤ 7293034; omega⟩
  have hf0 : ∀ {c9 s9 : Nat}, c9 ≤ C0 + 3 → s9 ≤ S0 + 18 → c9 ≤ room_1.cells ∧ s9 ≤ room_1.slots := fun h1 h2 => ⟨by show _ ≤ 601024; omega, by show _ ≤ 7293034; omega⟩
  unfold fL_c40 at h
  refine lv_aload_n hx hb dL_law__2550 rfl (lv_at hl 1 rfl) ?_
  obtain ⟨V2, h1, h⟩ := ob_R_some h
  refine o_VV (As := []) E hw (kX9_image (l := l) (G := G) (SG_ok Z) h1) yy_X9_image lm_RL_268 rfl (by decide) rfl rfl hl.1 (by decide) (hf0 (by omega) (by omega)) (by decide) rfl (Nat.le_of_ble_eq_true rfl) dL_law__2551 (fun H locs hw => ?_)
  refine lv_aload_n hx hb dL_law__2554 rfl (lv_at hl 2 rfl) ?_
  obtain ⟨V4, h3, h⟩ := ob_R_some h
  refine o_VV (As := []) E hw (kX10_image (l := l) (G := G) (SG_ok Z) h3) yy_X10_image lm_RL_271 rfl (by decide) rfl rfl hl.1 (by decide) (hf0 (by omega) (by omega)) (by decide) rfl (Nat.le_of_ble_eq_true rfl) dL_law__2555 (fun H locs hw => ?_)
  refine lv_goto (tgt := 2599) hx hb dL_law__2558 (by decide) ?_
  obtain ⟨y5, ey5, h⟩ := lt_some h
  refine lv_iinc (v := y5) (lv' := [(4, .int y5), (0, .ref b), (1, .ref (G.2.2 0)), (2, .ref (G.2.2 22)), (3, .ref oa)]) hx hb dL_law__2599 hl (k := 4) rfl (by rw [ey5]; rfl) (by decide) rfl (fun ls hl => ?_)
  refine lv_goto (tgt := 23) hx hb dL_law__2602 (by decide) ?_
  subst ey5
  exact kc V4 ov (Option.some.inj h).symm H locs ls _ _ hw (lv_sub hl [1, 2, 3, 4, 0] rfl) (by omega) (by omega)
theorem dL_law__2561 : decode cL_law_ 2561 = .ok (.aload_n 1, 1) := by decide +kernel
theorem dL_law__2562 : decode cL_law_ 2562 = .ok (.invokevirtual 272, 3) := by decide +kernel
theorem dL_law__2565 : decode cL_law_ 2565 = .ok (.aload_n 2, 1) := by decide +kernel
theorem dL_law__2566 : decode cL_law_ 2566 = .ok (.invokevirtual 275, 3) := by decide +kernel
theorem dL_law__2569 : decode cL_law_ 2569 = .ok (.if_icmp .eq 30, 3) := by decide +kernel
theorem dL_law__2572 : decode cL_law_ 2572 = .ok (.iconst 0, 1) := by decide +kernel
theorem dL_law__2573 : decode cL_law_ 2573 = .ok (.ireturn, 1) := by decide +kernel
/-! opcode 41 -/
noncomputable def fL_c41 (xs : Nat → Int32) (L : Nat) (V : VT) (ov : Nat → Int64) (u4 : Int32) : Option ((VT × (Nat → Int64) × Int32) ⊕ Int32) := ob_I (fX9_back V ) fun y2 V3 => ob_I (fX10_back V3 ) fun y5 V6 => if y2 = y5 then (lt_ (u4 + (6 : Int32)) fun y7 => some (.inl (V6, ov, y7))) else (some (.inr (0 : Int32)))
set_option maxHeartbeats 4000000 in
set_option maxRecDepth 100000 in
theorem wL_c41 {p : Program} {l : Launch} {e : Env} {s : State} {m : MethodId} {args : Array Value} {below : List Frame} {meth : Method} {c : Code} {G : GT} {Z : Nat → Nat × Nat} {oa b L : Nat} {xs : Nat → Int32} {Q : State → Prop} (E : EO p s m args c meth cL_law_ 7 RL (some .boolean) G (SH Z) oa) (ht : l.stackTraces = false) (hX : va_X b L xs s s.heap) (hbl : b < s.heap.size) (hbA : ¬ gO G oa s.heap.size b) (hL : L ≤ 3072) {C0 S0 : Nat} (hC0 : C0 ≤ 100000) (hS0 : S0 ≤ 1000000) {V : VT} {ov : Nat → Int64} {u4 : Int32} {r : ((VT × (Nat → Int64) × Int32) ⊕ Int32)} (h : fL_c41 xs L V ov u4 = some r) (k1 : ∀ y, r = .inr y → y = 1) (kc : ∀ (V2 : VT) (ov2 : Nat → Int64), r = .inl (V2, ov2, u4 + 6) → ∀ (H : Heap) (locs : List Loc) (ls : Array Slot) (cells slots : Nat), HO G oa s.heap (V2) (ov2) H locs → lv_has ls 7 [(0, .ref b), (1, .ref (G.2.2 0)), (2, .ref (G.2.2 22)), (3, .ref oa), (4, .int (u4 + 6))] → cells ≤ C0 + 3 → slots ≤ S0 + 18 → W p l e room_1 s m args below meth c H locs cells slots Q (F0 m 23 ls [])) {H : Heap} {locs : List Loc} {ls : Array Slot} {cells slots : Nat} (hw : HO G oa s.heap V ov H locs) (hl : lv_has ls 7 [(0, .ref b), (1, .ref (G.2.2 0)), (2, .ref (G.2.2 22)), (3, .ref oa), (4, .int u4)]) (hce : cells ≤ C0) (hsl : slots ≤ S0) : W p l e room_1 s m args below meth c H locs cells slots Q (F0 m 2561 ls []) := by
  have hx := E.1
  have hb := E.2.1
  have hfc : ∀ K : Nat, K ≤ 3 → cells + K ≤ room_1.cells ∧ slots + 6 * K ≤ room_1.slots := fun K hK => ⟨by show cells + K ≤ 601024; omega, by show slots + 6 * K ≤ 7293034; omega⟩
  have hf0 : ∀ {c9 s9 : Nat}, c9 ≤ C0 + 3 → s9 ≤ S0 + 18 → c9 ≤ room_1.cells ∧ s9 ≤ room_1.slots := fun h1 h2 => ⟨by show _ ≤ 601024; omega, by show _ ≤ 7293034; omega⟩
  unfold fL_c41 at h
  refine lv_aload_n hx hb dL_law__2561 rfl (lv_at hl 1 rfl) ?_
  obtain ⟨y2, V3, h1, h⟩ := ob_I_some h
  refine o_VI (As := []) E hw (kX9_back (l := l) (G := G) (SG_ok Z) h1) yy_X9_back lm_RL_272 rfl (by decide) rfl rfl hl.1 (by decide) (hf0 (by omega) (by omega)) (by decide) rfl (Nat.le_of_ble_eq_true rfl) dL_law__2562 (fun H locs hw => ?_)
  refine lv_aload_n hx hb dL_law__2565 rfl (lv_at hl 2 rfl) ?_
  obtain ⟨y5, V6, h4, h⟩ := ob_I_some h
  refine o_VI (As := []) E hw (kX10_back (l := l) (G := G) (SG_ok Z) h4) yy_X10_back lm_RL_275 rfl (by decide) rfl rfl hl.1 (by decide) (hf0 (by omega) (by omega)) (by decide) rfl (Nat.le_of_ble_eq_true rfl) dL_law__2566 (fun H locs hw => ?_)
  refine lv_icmp_eq (tgt := 2599) hx hb dL_law__2569 (by decide) (fun c8 => ?_) (fun c8 => ?_)
  · rw [if_pos c8] at h
    obtain ⟨y7, ey7, h⟩ := lt_some h
    refine lv_iinc (v := y7) (lv' := [(4, .int y7), (0, .ref b), (1, .ref (G.2.2 0)), (2, .ref (G.2.2 22)), (3, .ref oa)]) hx hb dL_law__2599 hl (k := 4) rfl (by rw [ey7]; rfl) (by decide) rfl (fun ls hl => ?_)
    refine lv_goto (tgt := 23) hx hb dL_law__2602 (by decide) ?_
    subst ey7
    exact kc V6 ov (Option.some.inj h).symm H locs ls _ _ hw (lv_sub hl [1, 2, 3, 4, 0] rfl) (by omega) (by omega)
  · rw [if_neg c8] at h
    refine lv_iconst (v := (0 : Int32)) hx hb dL_law__2572 (by decide) ?_
    exact absurd (k1 _ (Option.some.inj h).symm) (by decide)
theorem dL_law__2574 : decode cL_law_ 2574 = .ok (.aload_n 1, 1) := by decide +kernel
theorem dL_law__2575 : decode cL_law_ 2575 = .ok (.aload_n 0, 1) := by decide +kernel
theorem dL_law__2576 : decode cL_law_ 2576 = .ok (.iload 4, 2) := by decide +kernel
theorem dL_law__2578 : decode cL_law_ 2578 = .ok (.iconst 1, 1) := by decide +kernel
theorem dL_law__2579 : decode cL_law_ 2579 = .ok (.iadd, 1) := by decide +kernel
theorem dL_law__2580 : decode cL_law_ 2580 = .ok (.iaload, 1) := by decide +kernel
theorem dL_law__2581 : decode cL_law_ 2581 = .ok (.invokevirtual 276, 3) := by decide +kernel
theorem dL_law__2584 : decode cL_law_ 2584 = .ok (.aload_n 2, 1) := by decide +kernel
theorem dL_law__2585 : decode cL_law_ 2585 = .ok (.aload_n 0, 1) := by decide +kernel
theorem dL_law__2586 : decode cL_law_ 2586 = .ok (.iload 4, 2) := by decide +kernel
theorem dL_law__2588 : decode cL_law_ 2588 = .ok (.iconst 1, 1) := by decide +kernel
theorem dL_law__2589 : decode cL_law_ 2589 = .ok (.iadd, 1) := by decide +kernel
theorem dL_law__2590 : decode cL_law_ 2590 = .ok (.iaload, 1) := by decide +kernel
theorem dL_law__2591 : decode cL_law_ 2591 = .ok (.invokevirtual 279, 3) := by decide +kernel
theorem dL_law__2594 : decode cL_law_ 2594 = .ok (.if_icmp .eq 5, 3) := by decide +kernel
theorem dL_law__2597 : decode cL_law_ 2597 = .ok (.iconst 0, 1) := by decide +kernel
theorem dL_law__2598 : decode cL_law_ 2598 = .ok (.ireturn, 1) := by decide +kernel
/-! opcode 42 -/
noncomputable def fL_c42 (xs : Nat → Int32) (L : Nat) (V : VT) (ov : Nat → Int64) (u4 : Int32) : Option ((VT × (Nat → Int64) × Int32) ⊕ Int32) := rd_ (u4 + (1 : Int32)) L (lt_ (xs (u4 + (1 : Int32)).toNatClampNeg) fun z2 => ob_R (fX9_count V z2) fun y4 => rd_ (u4 + (1 : Int32)) L (lt_ (xs (u4 + (1 : Int32)).toNatClampNeg) fun z6 => ob_I (fX10_count V z6) fun y8 V9 => if y4 = y8 then (lt_ (u4 + (6 : Int32)) fun y10 => some (.inl (V9, ov, y10))) else (some (.inr (0 : Int32)))))
set_option maxHeartbeats 4000000 in
set_option maxRecDepth 100000 in
theorem wL_c42 {p : Program} {l : Launch} {e : Env} {s : State} {m : MethodId} {args : Array Value} {below : List Frame} {meth : Method} {c : Code} {G : GT} {Z : Nat → Nat × Nat} {oa b L : Nat} {xs : Nat → Int32} {Q : State → Prop} (E : EO p s m args c meth cL_law_ 7 RL (some .boolean) G (SH Z) oa) (ht : l.stackTraces = false) (hX : va_X b L xs s s.heap) (hbl : b < s.heap.size) (hbA : ¬ gO G oa s.heap.size b) (hL : L ≤ 3072) {C0 S0 : Nat} (hC0 : C0 ≤ 100000) (hS0 : S0 ≤ 1000000) {V : VT} {ov : Nat → Int64} {u4 : Int32} {r : ((VT × (Nat → Int64) × Int32) ⊕ Int32)} (h : fL_c42 xs L V ov u4 = some r) (k1 : ∀ y, r = .inr y → y = 1) (kc : ∀ (V2 : VT) (ov2 : Nat → Int64), r = .inl (V2, ov2, u4 + 6) → ∀ (H : Heap) (locs : List Loc) (ls : Array Slot) (cells slots : Nat), HO G oa s.heap (V2) (ov2) H locs → lv_has ls 7 [(0, .ref b), (1, .ref (G.2.2 0)), (2, .ref (G.2.2 22)), (3, .ref oa), (4, .int (u4 + 6))] → cells ≤ C0 + 3 → slots ≤ S0 + 18 → W p l e room_1 s m args below meth c H locs cells slots Q (F0 m 23 ls [])) {H : Heap} {locs : List Loc} {ls : Array Slot} {cells slots : Nat} (hw : HO G oa s.heap V ov H locs) (hl : lv_has ls 7 [(0, .ref b), (1, .ref (G.2.2 0)), (2, .ref (G.2.2 22)), (3, .ref oa), (4, .int u4)]) (hce : cells ≤ C0) (hsl : slots ≤ S0) : W p l e room_1 s m args below meth c H locs cells slots Q (F0 m 2574 ls []) := by
  have hx := E.1
  have hb := E.2.1
  have hfc : ∀ K : Nat, K ≤ 3 → cells + K ≤ room_1.cells ∧ slots + 6 * K ≤ room_1.slots := fun K hK => ⟨by show cells + K ≤ 601024; omega, by show slots + 6 * K ≤ 7293034; omega⟩
  have hf0 : ∀ {c9 s9 : Nat}, c9 ≤ C0 + 3 → s9 ≤ S0 + 18 → c9 ≤ room_1.cells ∧ s9 ≤ room_1.slots := fun h1 h2 => ⟨by show _ ≤ 601024; omega, by show _ ≤ 7293034; omega⟩
  unfold fL_c42 at h
  refine lv_aload_n hx hb dL_law__2574 rfl (lv_at hl 1 rfl) ?_
  refine lv_aload_n hx hb dL_law__2575 rfl (lv_at hl 0 rfl) ?_
  refine lv_iload hx hb dL_law__2576 (lv_at hl 4 rfl) ?_
  refine lv_iconst (v := (1 : Int32)) hx hb dL_law__2578 (by decide) ?_
  refine lv_iadd hx hb dL_law__2579 ?_
  obtain ⟨b1, h⟩ := rd_some h
  obtain ⟨z2, ez2, h⟩ := lt_some h
  refine va_sld hx hb hX hbl hbA hw.2.2 b1 dL_law__2580 ?_
  refine lv_eqi ez2 ?_
  obtain ⟨y4, h3, h⟩ := ob_R_some h
  refine o_VI (As := [.int z2]) E hw (kX9_count (l := l) (G := G) (SG_ok Z) h3) yy_X9_count lm_RL_276 rfl (by decide) rfl rfl hl.1 (by decide) (hf0 (by omega) (by omega)) (by decide) rfl (Nat.le_of_ble_eq_true rfl) dL_law__2581 (fun H locs hw => ?_)
  refine lv_aload_n hx hb dL_law__2584 rfl (lv_at hl 2 rfl) ?_
  refine lv_aload_n hx hb dL_law__2585 rfl (lv_at hl 0 rfl) ?_
  refine lv_iload hx hb dL_law__2586 (lv_at hl 4 rfl) ?_
  refine lv_iconst (v := (1 : Int32)) hx hb dL_law__2588 (by decide) ?_
  refine lv_iadd hx hb dL_law__2589 ?_
  obtain ⟨b5, h⟩ := rd_some h
  obtain ⟨z6, ez6, h⟩ := lt_some h
  refine va_sld hx hb hX hbl hbA hw.2.2 b5 dL_law__2590 ?_
  refine lv_eqi ez6 ?_
  obtain ⟨y8, V9, h7, h⟩ := ob_I_some h
  refine o_VI (As := [.int z6]) E hw (kX10_count (l := l) (G := G) (SG_ok Z) h7) yy_X10_count lm_RL_279 rfl (by decide) rfl rfl hl.1 (by decide) (hf0 (by omega) (by omega)) (by decide) rfl (Nat.le_of_ble_eq_true rfl) dL_law__2591 (fun H locs hw => ?_)
  refine lv_icmp_eq (tgt := 2599) hx hb dL_law__2594 (by decide) (fun c11 => ?_) (fun c11 => ?_)
  · rw [if_pos c11] at h
    obtain ⟨y10, ey10, h⟩ := lt_some h
    refine lv_iinc (v := y10) (lv' := [(4, .int y10), (0, .ref b), (1, .ref (G.2.2 0)), (2, .ref (G.2.2 22)), (3, .ref oa)]) hx hb dL_law__2599 hl (k := 4) rfl (by rw [ey10]; rfl) (by decide) rfl (fun ls hl => ?_)
    refine lv_goto (tgt := 23) hx hb dL_law__2602 (by decide) ?_
    subst ey10
    exact kc V9 ov (Option.some.inj h).symm H locs ls _ _ hw (lv_sub hl [1, 2, 3, 4, 0] rfl) (by omega) (by omega)
  · rw [if_neg c11] at h
    refine lv_iconst (v := (0 : Int32)) hx hb dL_law__2597 (by decide) ?_
    exact absurd (k1 _ (Option.some.inj h).symm) (by decide)
theorem dL_law__23 : decode cL_law_ 23 = .ok (.iload 4, 2) := by decide +kernel
theorem dL_law__25 : decode cL_law_ 25 = .ok (.aload_n 0, 1) := by decide +kernel
theorem dL_law__26 : decode cL_law_ 26 = .ok (.arraylength, 1) := by decide +kernel
theorem dL_law__27 : decode cL_law_ 27 = .ok (.bipush 6, 2) := by decide +kernel
theorem dL_law__29 : decode cL_law_ 29 = .ok (.isub, 1) := by decide +kernel
theorem dL_law__30 : decode cL_law_ 30 = .ok (.if_icmp .gt 2575, 3) := by decide +kernel
theorem dL_law__33 : decode cL_law_ 33 = .ok (.aload_n 0, 1) := by decide +kernel
theorem dL_law__34 : decode cL_law_ 34 = .ok (.iload 4, 2) := by decide +kernel
theorem dL_law__36 : decode cL_law_ 36 = .ok (.iaload, 1) := by decide +kernel
theorem dL_law__37 : decode cL_law_ 37 = .ok (.bipush 63, 2) := by decide +kernel
theorem dL_law__39 : decode cL_law_ 39 = .ok (.iand, 1) := by decide +kernel
theorem dL_law__40 : decode cL_law_ 40 = .ok (.tableswitch 2559 0 42 #[188, 261, 286, 330, 374, 387, 455, 523, 610, 666, 741, 832, 888, 968, 1036, 1092, 1148, 1216, 1300, 1313, 1381, 1449, 1505, 1585, 1653, 1721, 1789, 1845, 1858, 1930, 1974, 1987, 2043, 2111, 2152, 2236, 2320, 2404, 2472, 2497, 2510, 2521, 2534], 188) := by decide +kernel
/-! opcode all: the loop -/
noncomputable def fL_body (xs : Nat → Int32) (L : Nat) (V : VT) (ov : Nat → Int64) (u4 : Int32) : Option ((VT × (Nat → Int64) × Int32) ⊕ Int32) := if (nI L - (6 : Int32)) < u4 then (some (.inr (1 : Int32))) else (rd_ u4 L (lt_ (xs u4.toNatClampNeg) fun z1 => lt_ (z1 &&& (63 : Int32)) fun z2 => if z2 = (0 : Int32) then fL_c0 xs L V ov u4 else if z2 = (1 : Int32) then fL_c1 xs L V ov u4 else if z2 = (2 : Int32) then fL_c2 xs L V ov u4 else if z2 = (3 : Int32) then fL_c3 xs L V ov u4 else if z2 = (4 : Int32) then fL_c4 xs L V ov u4 else if z2 = (5 : Int32) then fL_c5 xs L V ov u4 else if z2 = (6 : Int32) then fL_c6 xs L V ov u4 else if z2 = (7 : Int32) then fL_c7 xs L V ov u4 else if z2 = (8 : Int32) then fL_c8 xs L V ov u4 else if z2 = (9 : Int32) then fL_c9 xs L V ov u4 else if z2 = (10 : Int32) then fL_c10 xs L V ov u4 else if z2 = (11 : Int32) then fL_c11 xs L V ov u4 else if z2 = (12 : Int32) then fL_c12 xs L V ov u4 else if z2 = (13 : Int32) then fL_c13 xs L V ov u4 else if z2 = (14 : Int32) then fL_c14 xs L V ov u4 else if z2 = (15 : Int32) then fL_c15 xs L V ov u4 else if z2 = (16 : Int32) then fL_c16 xs L V ov u4 else if z2 = (17 : Int32) then fL_c17 xs L V ov u4 else if z2 = (18 : Int32) then fL_c18 xs L V ov u4 else if z2 = (19 : Int32) then fL_c19 xs L V ov u4 else if z2 = (20 : Int32) then fL_c20 xs L V ov u4 else if z2 = (21 : Int32) then fL_c21 xs L V ov u4 else if z2 = (22 : Int32) then fL_c22 xs L V ov u4 else if z2 = (23 : Int32) then fL_c23 xs L V ov u4 else if z2 = (24 : Int32) then fL_c24 xs L V ov u4 else if z2 = (25 : Int32) then fL_c25 xs L V ov u4 else if z2 = (26 : Int32) then fL_c26 xs L V ov u4 else if z2 = (27 : Int32) then fL_c27 xs L V ov u4 else if z2 = (28 : Int32) then fL_c28 xs L V ov u4 else if z2 = (29 : Int32) then fL_c29 xs L V ov u4 else if z2 = (30 : Int32) then fL_c30 xs L V ov u4 else if z2 = (31 : Int32) then fL_c31 xs L V ov u4 else if z2 = (32 : Int32) then fL_c32 xs L V ov u4 else if z2 = (33 : Int32) then fL_c33 xs L V ov u4 else if z2 = (34 : Int32) then fL_c34 xs L V ov u4 else if z2 = (35 : Int32) then fL_c35 xs L V ov u4 else if z2 = (36 : Int32) then fL_c36 xs L V ov u4 else if z2 = (37 : Int32) then fL_c37 xs L V ov u4 else if z2 = (38 : Int32) then fL_c38 xs L V ov u4 else if z2 = (39 : Int32) then fL_c39 xs L V ov u4 else if z2 = (40 : Int32) then fL_c40 xs L V ov u4 else if z2 = (41 : Int32) then fL_c41 xs L V ov u4 else if z2 = (42 : Int32) then fL_c42 xs L V ov u4 else (lt_ (u4 + (6 : Int32)) fun y1 => some (.inl (V, ov, y1)))))
noncomputable def iL_body (xs : Nat → Int32) (L : Nat) : (VT × (Nat → Int64) × Int32) → Option ((VT × (Nat → Int64) × Int32) ⊕ Int32) := fun q => fL_body xs L q.1 q.2.1 q.2.2
set_option maxHeartbeats 4000000 in
set_option maxRecDepth 100000 in
theorem wL_loop {p : Program} {l : Launch} {e : Env} {s : State} {m : MethodId} {args : Array Value} {below : List Frame} {meth : Method} {c : Code} {G : GT} {Z : Nat → Nat × Nat} {oa b L : Nat} {xs : Nat → Int32} {Q : State → Prop} (E : EO p s m args c meth cL_law_ 7 RL (some .boolean) G (SH Z) oa) (ht : l.stackTraces = false) (hX : va_X b L xs s s.heap) (hbl : b < s.heap.size) (hbA : ¬ gO G oa s.heap.size b) (hL : L ≤ 3072) (hend : ∀ (H : Heap) (locs : List Loc) (ls : Array Slot) (cells slots : Nat) (V : VT) (ov : Nat → Int64), HO G oa s.heap V ov H locs → cells ≤ 5000 → slots ≤ 200000 → W p l e room_1 s m args below meth c H locs cells slots Q (F0 m 2606 ls [.int 1])) : ∀ (n : Nat) (q : (VT × (Nat → Int64) × Int32)), it_ (iL_body xs L) n q = some 1 → ∀ (j : Nat), q.2.2 = nI j → j ≤ 3078 → ∀ (H : Heap) (locs : List Loc) (ls : Array Slot) (cells slots : Nat), HO G oa s.heap q.1 q.2.1 H locs → lv_has ls 7 [(0, .ref b), (1, .ref (G.2.2 0)), (2, .ref (G.2.2 22)), (3, .ref oa), (4, .int q.2.2)] → cells ≤ 1000 + j → slots ≤ 100000 + 6 * j → W p l e room_1 s m args below meth c H locs cells slots Q (F0 m 23 ls []) := by
  refine it_W (fun q : (VT × (Nat → Int64) × Int32) => ∀ (j : Nat), q.2.2 = nI j → j ≤ 3078 → ∀ (H : Heap) (locs : List Loc) (ls : Array Slot) (cells slots : Nat), HO G oa s.heap q.1 q.2.1 H locs → lv_has ls 7 [(0, .ref b), (1, .ref (G.2.2 0)), (2, .ref (G.2.2 22)), (3, .ref oa), (4, .int q.2.2)] → cells ≤ 1000 + j → slots ≤ 100000 + 6 * j → W p l e room_1 s m args below meth c H locs cells slots Q (F0 m 23 ls [])) 1 ?_
  intro q r h kc kx
  obtain ⟨V, ov, u4⟩ := q
  intro j ej hj H locs ls cells slots hw hl hce hsl
  have ej : u4 = nI j := ej
  have h : fL_body xs L V ov u4 = some r := h
  have hw : HO G oa s.heap V ov H locs := hw
  have hl : lv_has ls 7 [(0, .ref b), (1, .ref (G.2.2 0)), (2, .ref (G.2.2 22)), (3, .ref oa), (4, .int u4)] := hl
  have hx := E.1
  have hb := E.2.1
  unfold fL_body at h
  refine lv_iload hx hb dL_law__23 (lv_at hl 4 rfl) ?_
  refine lv_aload_n hx hb dL_law__25 rfl (lv_at hl 0 rfl) ?_
  refine va_slen hx hb hX hbl hbA hw.2.2 dL_law__26 ?_
  refine lv_bipush (v := (6 : Int32)) hx hb dL_law__27 (by decide) ?_
  refine lv_isub hx hb dL_law__29 ?_
  refine lv_icmp_gt (tgt := 2605) hx hb dL_law__30 (by decide) (fun c1 => ?_) (fun c1 => ?_)
  · refine lv_iconst (v := (1 : Int32)) hx hb dL_law__2605 (by decide) ?_
    exact hend _ _ _ _ _ V ov hw (by omega) (by omega)
  · have c2 : ¬ (nI L - (6 : Int32)) < u4 := c1
    rw [if_neg c2] at h
    obtain ⟨b1, h⟩ := rd_some h
    obtain ⟨z1, ez1, h⟩ := lt_some h
    obtain ⟨z2, ez2, h⟩ := lt_some h
    have hj2 : j + 6 ≤ 3078 := by
      obtain ⟨j2, hj2, e2⟩ := vp_in_of b1 (by omega)
      have e3 : j = j2 := (nI_eq (by omega) (by omega)).mp (ej.symm.trans e2)
      omega
    have kgo : ∀ (V2 : VT) (ov2 : Nat → Int64), r = .inl (V2, ov2, u4 + 6) → ∀ (H : Heap) (locs : List Loc) (ls : Array Slot) (cells slots : Nat), HO G oa s.heap (V2) (ov2) H locs → lv_has ls 7 [(0, .ref b), (1, .ref (G.2.2 0)), (2, .ref (G.2.2 22)), (3, .ref oa), (4, .int (u4 + 6))] → cells ≤ (1000 + j) + 3 → slots ≤ (100000 + 6 * j) + 18 → W p l e room_1 s m args below meth c H locs cells slots Q (F0 m 23 ls []) := by
      intro V2 ov2 er H locs ls cells slots hw hl h1 h2
      refine kc (V2, ov2, u4 + 6) er (j + 6) ?_ hj2 H locs ls cells slots hw hl (by omega) (by omega)
      show u4 + 6 = nI (j + 6)
      rw [ej]; exact nI_add j 6
    refine lv_aload_n hx hb dL_law__33 rfl (lv_at hl 0 rfl) ?_
    refine lv_iload hx hb dL_law__34 (lv_at hl 4 rfl) ?_
    refine va_sld hx hb hX hbl hbA hw.2.2 b1 dL_law__36 ?_
    refine lv_eqi ez1 ?_
    refine lv_bipush (v := (63 : Int32)) hx hb dL_law__37 (by decide) ?_
    refine lv_iand hx hb dL_law__39 ?_
    refine lv_eqi ez2 ?_
    by_cases q0 : z2 = (0 : Int32)
    · rw [if_pos q0] at h
      refine lv_tableIn (tgt := 228) hx hb dL_law__40 (by rw [q0]; decide) (by rw [q0]; decide) (by rw [q0]; rfl) (by decide) ?_
      exact wL_c0 E ht hX hbl hbA hL (C0 := 1000 + j) (S0 := 100000 + 6 * j) (by omega) (by omega) h kx kgo hw hl hce hsl
    rw [if_neg q0] at h
    by_cases q1 : z2 = (1 : Int32)
    · rw [if_pos q1] at h
      refine lv_tableIn (tgt := 301) hx hb dL_law__40 (by rw [q1]; decide) (by rw [q1]; decide) (by rw [q1]; rfl) (by decide) ?_
      exact wL_c1 E ht hX hbl hbA hL (C0 := 1000 + j) (S0 := 100000 + 6 * j) (by omega) (by omega) h kx kgo hw hl hce hsl
    rw [if_neg q1] at h
    by_cases q2 : z2 = (2 : Int32)
    · rw [if_pos q2] at h
      refine lv_tableIn (tgt := 326) hx hb dL_law__40 (by rw [q2]; decide) (by rw [q2]; decide) (by rw [q2]; rfl) (by decide) ?_
      exact wL_c2 E ht hX hbl hbA hL (C0 := 1000 + j) (S0 := 100000 + 6 * j) (by omega) (by omega) h kx kgo hw hl hce hsl
    rw [if_neg q2] at h
    by_cases q3 : z2 = (3 : Int32)
    · rw [if_pos q3] at h
      refine lv_tableIn (tgt := 370) hx hb dL_law__40 (by rw [q3]; decide) (by rw [q3]; decide) (by rw [q3]; rfl) (by decide) ?_
      exact wL_c3 E ht hX hbl hbA hL (C0 := 1000 + j) (S0 := 100000 + 6 * j) (by omega) (by omega) h kx kgo hw hl hce hsl
    rw [if_neg q3] at h
    by_cases q4 : z2 = (4 : Int32)
    · rw [if_pos q4] at h
      refine lv_tableIn (tgt := 414) hx hb dL_law__40 (by rw [q4]; decide) (by rw [q4]; decide) (by rw [q4]; rfl) (by decide) ?_
      exact wL_c4 E ht hX hbl hbA hL (C0 := 1000 + j) (S0 := 100000 + 6 * j) (by omega) (by omega) h kx kgo hw hl hce hsl
    rw [if_neg q4] at h
    by_cases q5 : z2 = (5 : Int32)
    · rw [if_pos q5] at h
      refine lv_tableIn (tgt := 427) hx hb dL_law__40 (by rw [q5]; decide) (by rw [q5]; decide) (by rw [q5]; rfl) (by decide) ?_
      exact wL_c5 E ht hX hbl hbA hL (C0 := 1000 + j) (S0 := 100000 + 6 * j) (by omega) (by omega) h kx kgo hw hl hce hsl
    rw [if_neg q5] at h
    by_cases q6 : z2 = (6 : Int32)
    · rw [if_pos q6] at h
      refine lv_tableIn (tgt := 495) hx hb dL_law__40 (by rw [q6]; decide) (by rw [q6]; decide) (by rw [q6]; rfl) (by decide) ?_
      exact wL_c6 E ht hX hbl hbA hL (C0 := 1000 + j) (S0 := 100000 + 6 * j) (by omega) (by omega) h kx kgo hw hl hce hsl
    rw [if_neg q6] at h
    by_cases q7 : z2 = (7 : Int32)
    · rw [if_pos q7] at h
      refine lv_tableIn (tgt := 563) hx hb dL_law__40 (by rw [q7]; decide) (by rw [q7]; decide) (by rw [q7]; rfl) (by decide) ?_
      exact wL_c7 E ht hX hbl hbA hL (C0 := 1000 + j) (S0 := 100000 + 6 * j) (by omega) (by omega) h kx kgo hw hl hce hsl
    rw [if_neg q7] at h
    by_cases q8 : z2 = (8 : Int32)
    · rw [if_pos q8] at h
      refine lv_tableIn (tgt := 650) hx hb dL_law__40 (by rw [q8]; decide) (by rw [q8]; decide) (by rw [q8]; rfl) (by decide) ?_
      exact wL_c8 E ht hX hbl hbA hL (C0 := 1000 + j) (S0 := 100000 + 6 * j) (by omega) (by omega) h kx kgo hw hl hce hsl
    rw [if_neg q8] at h
    by_cases q9 : z2 = (9 : Int32)
    · rw [if_pos q9] at h
      refine lv_tableIn (tgt := 706) hx hb dL_law__40 (by rw [q9]; decide) (by rw [q9]; decide) (by rw [q9]; rfl) (by decide) ?_
      exact wL_c9 E ht hX hbl hbA hL (C0 := 1000 + j) (S0 := 100000 + 6 * j) (by omega) (by omega) h kx kgo hw hl hce hsl
    rw [if_neg q9] at h
    by_cases q10 : z2 = (10 : Int32)
    · rw [if_pos q10] at h
      refine lv_tableIn (tgt := 781) hx hb dL_law__40 (by rw [q10]; decide) (by rw [q10]; decide) (by rw [q10]; rfl) (by decide) ?_
      exact wL_c10 E ht hX hbl hbA hL (C0 := 1000 + j) (S0 := 100000 + 6 * j) (by omega) (by omega) h kx kgo hw hl hce hsl
    rw [if_neg q10] at h
    by_cases q11 : z2 = (11 : Int32)
    · rw [if_pos q11] at h
      refine lv_tableIn (tgt := 872) hx hb dL_law__40 (by rw [q11]; decide) (by rw [q11]; decide) (by rw [q11]; rfl) (by decide) ?_
      exact wL_c11 E ht hX hbl hbA hL (C0 := 1000 + j) (S0 := 100000 + 6 * j) (by omega) (by omega) h kx kgo hw hl hce hsl
    rw [if_neg q11] at h
    by_cases q12 : z2 = (12 : Int32)
    · rw [if_pos q12] at h
      refine lv_tableIn (tgt := 928) hx hb dL_law__40 (by rw [q12]; decide) (by rw [q12]; decide) (by rw [q12]; rfl) (by decide) ?_
      exact wL_c12 E ht hX hbl hbA hL (C0 := 1000 + j) (S0 := 100000 + 6 * j) (by omega) (by omega) h kx kgo hw hl hce hsl
    rw [if_neg q12] at h
    by_cases q13 : z2 = (13 : Int32)
    · rw [if_pos q13] at h
      refine lv_tableIn (tgt := 1008) hx hb dL_law__40 (by rw [q13]; decide) (by rw [q13]; decide) (by rw [q13]; rfl) (by decide) ?_
      exact wL_c13 E ht hX hbl hbA hL (C0 := 1000 + j) (S0 := 100000 + 6 * j) (by omega) (by omega) h kx kgo hw hl hce hsl
    rw [if_neg q13] at h
    by_cases q14 : z2 = (14 : Int32)
    · rw [if_pos q14] at h
      refine lv_tableIn (tgt := 1076) hx hb dL_law__40 (by rw [q14]; decide) (by rw [q14]; decide) (by rw [q14]; rfl) (by decide) ?_
      exact wL_c14 E ht hX hbl hbA hL (C0 := 1000 + j) (S0 := 100000 + 6 * j) (by omega) (by omega) h kx kgo hw hl hce hsl
    rw [if_neg q14] at h
    by_cases q15 : z2 = (15 : Int32)
    · rw [if_pos q15] at h
      refine lv_tableIn (tgt := 1132) hx hb dL_law__40 (by rw [q15]; decide) (by rw [q15]; decide) (by rw [q15]; rfl) (by decide) ?_
      exact wL_c15 E ht hX hbl hbA hL (C0 := 1000 + j) (S0 := 100000 + 6 * j) (by omega) (by omega) h kx kgo hw hl hce hsl
    rw [if_neg q15] at h
    by_cases q16 : z2 = (16 : Int32)
    · rw [if_pos q16] at h
      refine lv_tableIn (tgt := 1188) hx hb dL_law__40 (by rw [q16]; decide) (by rw [q16]; decide) (by rw [q16]; rfl) (by decide) ?_
      exact wL_c16 E ht hX hbl hbA hL (C0 := 1000 + j) (S0 := 100000 + 6 * j) (by omega) (by omega) h kx kgo hw hl hce hsl
    rw [if_neg q16] at h
    by_cases q17 : z2 = (17 : Int32)
    · rw [if_pos q17] at h
      refine lv_tableIn (tgt := 1256) hx hb dL_law__40 (by rw [q17]; decide) (by rw [q17]; decide) (by rw [q17]; rfl) (by decide) ?_
      exact wL_c17 E ht hX hbl hbA hL (C0 := 1000 + j) (S0 := 100000 + 6 * j) (by omega) (by omega) h kx kgo hw hl hce hsl
    rw [if_neg q17] at h
    by_cases q18 : z2 = (18 : Int32)
    · rw [if_pos q18] at h
      refine lv_tableIn (tgt := 1340) hx hb dL_law__40 (by rw [q18]; decide) (by rw [q18]; decide) (by rw [q18]; rfl) (by decide) ?_
      exact wL_c18 E ht hX hbl hbA hL (C0 := 1000 + j) (S0 := 100000 + 6 * j) (by omega) (by omega) h kx kgo hw hl hce hsl
    rw [if_neg q18] at h
    by_cases q19 : z2 = (19 : Int32)
    · rw [if_pos q19] at h
      refine lv_tableIn (tgt := 1353) hx hb dL_law__40 (by rw [q19]; decide) (by rw [q19]; decide) (by rw [q19]; rfl) (by decide) ?_
      exact wL_c19 E ht hX hbl hbA hL (C0 := 1000 + j) (S0 := 100000 + 6 * j) (by omega) (by omega) h kx kgo hw hl hce hsl
    rw [if_neg q19] at h
    by_cases q20 : z2 = (20 : Int32)
    · rw [if_pos q20] at h
      refine lv_tableIn (tgt := 1421) hx hb dL_law__40 (by rw [q20]; decide) (by rw [q20]; decide) (by rw [q20]; rfl) (by decide) ?_
      exact wL_c20 E ht hX hbl hbA hL (C0 := 1000 + j) (S0 := 100000 + 6 * j) (by omega) (by omega) h kx kgo hw hl hce hsl
    rw [if_neg q20] at h
    by_cases q21 : z2 = (21 : Int32)
    · rw [if_pos q21] at h
      refine lv_tableIn (tgt := 1489) hx hb dL_law__40 (by rw [q21]; decide) (by rw [q21]; decide) (by rw [q21]; rfl) (by decide) ?_
      exact wL_c21 E ht hX hbl hbA hL (C0 := 1000 + j) (S0 := 100000 + 6 * j) (by omega) (by omega) h kx kgo hw hl hce hsl
    rw [if_neg q21] at h
    by_cases q22 : z2 = (22 : Int32)
    · rw [if_pos q22] at h
      refine lv_tableIn (tgt := 1545) hx hb dL_law__40 (by rw [q22]; decide) (by rw [q22]; decide) (by rw [q22]; rfl) (by decide) ?_
      exact wL_c22 E ht hX hbl hbA hL (C0 := 1000 + j) (S0 := 100000 + 6 * j) (by omega) (by omega) h kx kgo hw hl hce hsl
    rw [if_neg q22] at h
    by_cases q23 : z2 = (23 : Int32)
    · rw [if_pos q23] at h
      refine lv_tableIn (tgt := 1625) hx hb dL_law__40 (by rw [q23]; decide) (by rw [q23]; decide) (by rw [q23]; rfl) (by decide) ?_
      exact wL_c23 E ht hX hbl hbA hL (C0 := 1000 + j) (S0 := 100000 + 6 * j) (by omega) (by omega) h kx kgo hw hl hce hsl
    rw [if_neg q23] at h
    by_cases q24 : z2 = (24 : Int32)
    · rw [if_pos q24] at h
      refine lv_tableIn (tgt := 1693) hx hb dL_law__40 (by rw [q24]; decide) (by rw [q24]; decide) (by rw [q24]; rfl) (by decide) ?_
      exact wL_c24 E ht hX hbl hbA hL (C0 := 1000 + j) (S0 := 100000 + 6 * j) (by omega) (by omega) h kx kgo hw hl hce hsl
    rw [if_neg q24] at h
    by_cases q25 : z2 = (25 : Int32)
    · rw [if_pos q25] at h
      refine lv_tableIn (tgt := 1761) hx hb dL_law__40 (by rw [q25]; decide) (by rw [q25]; decide) (by rw [q25]; rfl) (by decide) ?_
      exact wL_c25 E ht hX hbl hbA hL (C0 := 1000 + j) (S0 := 100000 + 6 * j) (by omega) (by omega) h kx kgo hw hl hce hsl
    rw [if_neg q25] at h
    by_cases q26 : z2 = (26 : Int32)
    · rw [if_pos q26] at h
      refine lv_tableIn (tgt := 1829) hx hb dL_law__40 (by rw [q26]; decide) (by rw [q26]; decide) (by rw [q26]; rfl) (by decide) ?_
      exact wL_c26 E ht hX hbl hbA hL (C0 := 1000 + j) (S0 := 100000 + 6 * j) (by omega) (by omega) h kx kgo hw hl hce hsl
    rw [if_neg q26] at h
    by_cases q27 : z2 = (27 : Int32)
    · rw [if_pos q27] at h
      refine lv_tableIn (tgt := 1885) hx hb dL_law__40 (by rw [q27]; decide) (by rw [q27]; decide) (by rw [q27]; rfl) (by decide) ?_
      exact wL_c27 E ht hX hbl hbA hL (C0 := 1000 + j) (S0 := 100000 + 6 * j) (by omega) (by omega) h kx kgo hw hl hce hsl
    rw [if_neg q27] at h
    by_cases q28 : z2 = (28 : Int32)
    · rw [if_pos q28] at h
      refine lv_tableIn (tgt := 1898) hx hb dL_law__40 (by rw [q28]; decide) (by rw [q28]; decide) (by rw [q28]; rfl) (by decide) ?_
      exact wL_c28 E ht hX hbl hbA hL (C0 := 1000 + j) (S0 := 100000 + 6 * j) (by omega) (by omega) h kx kgo hw hl hce hsl
    rw [if_neg q28] at h
    by_cases q29 : z2 = (29 : Int32)
    · rw [if_pos q29] at h
      refine lv_tableIn (tgt := 1970) hx hb dL_law__40 (by rw [q29]; decide) (by rw [q29]; decide) (by rw [q29]; rfl) (by decide) ?_
      exact wL_c29 E ht hX hbl hbA hL (C0 := 1000 + j) (S0 := 100000 + 6 * j) (by omega) (by omega) h kx kgo hw hl hce hsl
    rw [if_neg q29] at h
    by_cases q30 : z2 = (30 : Int32)
    · rw [if_pos q30] at h
      refine lv_tableIn (tgt := 2014) hx hb dL_law__40 (by rw [q30]; decide) (by rw [q30]; decide) (by rw [q30]; rfl) (by decide) ?_
      exact wL_c30 E ht hX hbl hbA hL (C0 := 1000 + j) (S0 := 100000 + 6 * j) (by omega) (by omega) h kx kgo hw hl hce hsl
    rw [if_neg q30] at h
    by_cases q31 : z2 = (31 : Int32)
    · rw [if_pos q31] at h
      refine lv_tableIn (tgt := 2027) hx hb dL_law__40 (by rw [q31]; decide) (by rw [q31]; decide) (by rw [q31]; rfl) (by decide) ?_
      exact wL_c31 E ht hX hbl hbA hL (C0 := 1000 + j) (S0 := 100000 + 6 * j) (by omega) (by omega) h kx kgo hw hl hce hsl
    rw [if_neg q31] at h
    by_cases q32 : z2 = (32 : Int32)
    · rw [if_pos q32] at h
      refine lv_tableIn (tgt := 2083) hx hb dL_law__40 (by rw [q32]; decide) (by rw [q32]; decide) (by rw [q32]; rfl) (by decide) ?_
      exact wL_c32 E ht hX hbl hbA hL (C0 := 1000 + j) (S0 := 100000 + 6 * j) (by omega) (by omega) h kx kgo hw hl hce hsl
    rw [if_neg q32] at h
    by_cases q33 : z2 = (33 : Int32)
    · rw [if_pos q33] at h
      refine lv_tableIn (tgt := 2151) hx hb dL_law__40 (by rw [q33]; decide) (by rw [q33]; decide) (by rw [q33]; rfl) (by decide) ?_
      exact wL_c33 E ht hX hbl hbA hL (C0 := 1000 + j) (S0 := 100000 + 6 * j) (by omega) (by omega) h kx kgo hw hl hce hsl
    rw [if_neg q33] at h
    by_cases q34 : z2 = (34 : Int32)
    · rw [if_pos q34] at h
      refine lv_tableIn (tgt := 2192) hx hb dL_law__40 (by rw [q34]; decide) (by rw [q34]; decide) (by rw [q34]; rfl) (by decide) ?_
      exact wL_c34 E ht hX hbl hbA hL (C0 := 1000 + j) (S0 := 100000 + 6 * j) (by omega) (by omega) h kx kgo hw hl hce hsl
    rw [if_neg q34] at h
    by_cases q35 : z2 = (35 : Int32)
    · rw [if_pos q35] at h
      refine lv_tableIn (tgt := 2276) hx hb dL_law__40 (by rw [q35]; decide) (by rw [q35]; decide) (by rw [q35]; rfl) (by decide) ?_
      exact wL_c35 E ht hX hbl hbA hL (C0 := 1000 + j) (S0 := 100000 + 6 * j) (by omega) (by omega) h kx kgo hw hl hce hsl
    rw [if_neg q35] at h
    by_cases q36 : z2 = (36 : Int32)
    · rw [if_pos q36] at h
      refine lv_tableIn (tgt := 2360) hx hb dL_law__40 (by rw [q36]; decide) (by rw [q36]; decide) (by rw [q36]; rfl) (by decide) ?_
      exact wL_c36 E ht hX hbl hbA hL (C0 := 1000 + j) (S0 := 100000 + 6 * j) (by omega) (by omega) h kx kgo hw hl hce hsl
    rw [if_neg q36] at h
    by_cases q37 : z2 = (37 : Int32)
    · rw [if_pos q37] at h
      refine lv_tableIn (tgt := 2444) hx hb dL_law__40 (by rw [q37]; decide) (by rw [q37]; decide) (by rw [q37]; rfl) (by decide) ?_
      exact wL_c37 E ht hX hbl hbA hL (C0 := 1000 + j) (S0 := 100000 + 6 * j) (by omega) (by omega) h kx kgo hw hl hce hsl
    rw [if_neg q37] at h
    by_cases q38 : z2 = (38 : Int32)
    · rw [if_pos q38] at h
      refine lv_tableIn (tgt := 2512) hx hb dL_law__40 (by rw [q38]; decide) (by rw [q38]; decide) (by rw [q38]; rfl) (by decide) ?_
      exact wL_c38 E ht hX hbl hbA hL (C0 := 1000 + j) (S0 := 100000 + 6 * j) (by omega) (by omega) h kx kgo hw hl hce hsl
    rw [if_neg q38] at h
    by_cases q39 : z2 = (39 : Int32)
    · rw [if_pos q39] at h
      refine lv_tableIn (tgt := 2537) hx hb dL_law__40 (by rw [q39]; decide) (by rw [q39]; decide) (by rw [q39]; rfl) (by decide) ?_
      exact wL_c39 E ht hX hbl hbA hL (C0 := 1000 + j) (S0 := 100000 + 6 * j) (by omega) (by omega) h kx kgo hw hl hce hsl
    rw [if_neg q39] at h
    by_cases q40 : z2 = (40 : Int32)
    · rw [if_pos q40] at h
      refine lv_tableIn (tgt := 2550) hx hb dL_law__40 (by rw [q40]; decide) (by rw [q40]; decide) (by rw [q40]; rfl) (by decide) ?_
      exact wL_c40 E ht hX hbl hbA hL (C0 := 1000 + j) (S0 := 100000 + 6 * j) (by omega) (by omega) h kx kgo hw hl hce hsl
    rw [if_neg q40] at h
    by_cases q41 : z2 = (41 : Int32)
    · rw [if_pos q41] at h
      refine lv_tableIn (tgt := 2561) hx hb dL_law__40 (by rw [q41]; decide) (by rw [q41]; decide) (by rw [q41]; rfl) (by decide) ?_
      exact wL_c41 E ht hX hbl hbA hL (C0 := 1000 + j) (S0 := 100000 + 6 * j) (by omega) (by omega) h kx kgo hw hl hce hsl
    rw [if_neg q41] at h
    by_cases q42 : z2 = (42 : Int32)
    · rw [if_pos q42] at h
      refine lv_tableIn (tgt := 2574) hx hb dL_law__40 (by rw [q42]; decide) (by rw [q42]; decide) (by rw [q42]; rfl) (by decide) ?_
      exact wL_c42 E ht hX hbl hbA hL (C0 := 1000 + j) (S0 := 100000 + 6 * j) (by omega) (by omega) h kx kgo hw hl hce hsl
    rw [if_neg q42] at h
    have n0 := lv_neT (a := 0) q0 (by decide)
    have n1 := lv_neT (a := 1) q1 (by decide)
    have n2 := lv_neT (a := 2) q2 (by decide)
    have n3 := lv_neT (a := 3) q3 (by decide)
    have n4 := lv_neT (a := 4) q4 (by decide)
    have n5 := lv_neT (a := 5) q5 (by decide)
    have n6 := lv_neT (a := 6) q6 (by decide)
    have n7 := lv_neT (a := 7) q7 (by decide)
    have n8 := lv_neT (a := 8) q8 (by decide)
    have n9 := lv_neT (a := 9) q9 (by decide)
    have n10 := lv_neT (a := 10) q10 (by decide)
    have n11 := lv_neT (a := 11) q11 (by decide)
    have n12 := lv_neT (a := 12) q12 (by decide)
    have n13 := lv_neT (a := 13) q13 (by decide)
    have n14 := lv_neT (a := 14) q14 (by decide)
    have n15 := lv_neT (a := 15) q15 (by decide)
    have n16 := lv_neT (a := 16) q16 (by decide)
    have n17 := lv_neT (a := 17) q17 (by decide)
    have n18 := lv_neT (a := 18) q18 (by decide)
    have n19 := lv_neT (a := 19) q19 (by decide)
    have n20 := lv_neT (a := 20) q20 (by decide)
    have n21 := lv_neT (a := 21) q21 (by decide)
    have n22 := lv_neT (a := 22) q22 (by decide)
    have n23 := lv_neT (a := 23) q23 (by decide)
    have n24 := lv_neT (a := 24) q24 (by decide)
    have n25 := lv_neT (a := 25) q25 (by decide)
    have n26 := lv_neT (a := 26) q26 (by decide)
    have n27 := lv_neT (a := 27) q27 (by decide)
    have n28 := lv_neT (a := 28) q28 (by decide)
    have n29 := lv_neT (a := 29) q29 (by decide)
    have n30 := lv_neT (a := 30) q30 (by decide)
    have n31 := lv_neT (a := 31) q31 (by decide)
    have n32 := lv_neT (a := 32) q32 (by decide)
    have n33 := lv_neT (a := 33) q33 (by decide)
    have n34 := lv_neT (a := 34) q34 (by decide)
    have n35 := lv_neT (a := 35) q35 (by decide)
    have n36 := lv_neT (a := 36) q36 (by decide)
    have n37 := lv_neT (a := 37) q37 (by decide)
    have n38 := lv_neT (a := 38) q38 (by decide)
    have n39 := lv_neT (a := 39) q39 (by decide)
    have n40 := lv_neT (a := 40) q40 (by decide)
    have n41 := lv_neT (a := 41) q41 (by decide)
    have n42 := lv_neT (a := 42) q42 (by decide)
    refine lv_tableOut (tgt := 2599) hx hb dL_law__40 (by omega) (by decide) ?_
    obtain ⟨y1, ey1, h⟩ := lt_some h
    refine lv_iinc (v := y1) (lv' := [(4, .int y1), (0, .ref b), (1, .ref (G.2.2 0)), (2, .ref (G.2.2 22)), (3, .ref oa)]) hx hb dL_law__2599 hl (k := 4) rfl (by rw [ey1]; rfl) (by decide) rfl (fun ls hl => ?_)
    refine lv_goto (tgt := 23) hx hb dL_law__2602 (by decide) ?_
    subst ey1
    exact kgo V ov (Option.some.inj h).symm H locs ls _ _ hw (lv_sub hl [1, 2, 3, 4, 0] rfl) (by omega) (by omega)
