/-! ===== AllSawIt$LawText.readCondition(LAllSawIt$Tape;LAllSawIt$Law;I)Z ===== -/
theorem dX4_readCondition_0 : decode cX4_readCondition 0 = .ok (.iconst 0, 1) := by decide +kernel
theorem dX4_readCondition_1 : decode cX4_readCondition 1 = .ok (.istore_n 3, 1) := by decide +kernel
theorem dX4_readCondition_2 : decode cX4_readCondition 2 = .ok (.iconst 0, 1) := by decide +kernel
theorem dX4_readCondition_3 : decode cX4_readCondition 3 = .ok (.istore 4, 2) := by decide +kernel
theorem dX4_readCondition_5 : decode cX4_readCondition 5 = .ok (.iconst 0, 1) := by decide +kernel
theorem dX4_readCondition_6 : decode cX4_readCondition 6 = .ok (.istore 5, 2) := by decide +kernel
theorem dX4_readCondition_8 : decode cX4_readCondition 8 = .ok (.iload 5, 2) := by decide +kernel
theorem dX4_readCondition_10 : decode cX4_readCondition 10 = .ok (.sipush 400, 3) := by decide +kernel
theorem dX4_readCondition_13 : decode cX4_readCondition 13 = .ok (.if_icmp .ge 70, 3) := by decide +kernel
theorem dX4_readCondition_16 : decode cX4_readCondition 16 = .ok (.aload_n 0, 1) := by decide +kernel
theorem dX4_readCondition_17 : decode cX4_readCondition 17 = .ok (.aload_n 1, 1) := by decide +kernel
theorem dX4_readCondition_18 : decode cX4_readCondition 18 = .ok (.iload_n 2, 1) := by decide +kernel
theorem dX4_readCondition_19 : decode cX4_readCondition 19 = .ok (.invokestatic 57, 3) := by decide +kernel
theorem dX4_readCondition_22 : decode cX4_readCondition 22 = .ok (.ifCond .ne 5, 3) := by decide +kernel
theorem dX4_readCondition_25 : decode cX4_readCondition 25 = .ok (.iconst 0, 1) := by decide +kernel
theorem dX4_readCondition_26 : decode cX4_readCondition 26 = .ok (.ireturn, 1) := by decide +kernel
theorem dX4_readCondition_27 : decode cX4_readCondition 27 = .ok (.iload_n 3, 1) := by decide +kernel
theorem dX4_readCondition_28 : decode cX4_readCondition 28 = .ok (.ifCond .eq 8, 3) := by decide +kernel
theorem dX4_readCondition_31 : decode cX4_readCondition 31 = .ok (.aload_n 1, 1) := by decide +kernel
theorem dX4_readCondition_32 : decode cX4_readCondition 32 = .ok (.iconst 5, 1) := by decide +kernel
theorem dX4_readCondition_33 : decode cX4_readCondition 33 = .ok (.invokevirtual 41, 3) := by decide +kernel
theorem dX4_readCondition_36 : decode cX4_readCondition 36 = .ok (.aload_n 0, 1) := by decide +kernel
theorem dX4_readCondition_37 : decode cX4_readCondition 37 = .ok (.ldc 60, 2) := by decide +kernel
theorem dX4_readCondition_39 : decode cX4_readCondition 39 = .ok (.invokevirtual 38, 3) := by decide +kernel
theorem dX4_readCondition_42 : decode cX4_readCondition 42 = .ok (.istore_n 3, 1) := by decide +kernel
theorem dX4_readCondition_43 : decode cX4_readCondition 43 = .ok (.iload_n 3, 1) := by decide +kernel
theorem dX4_readCondition_44 : decode cX4_readCondition 44 = .ok (.ifCond .ne 22, 3) := by decide +kernel
theorem dX4_readCondition_47 : decode cX4_readCondition 47 = .ok (.iload 4, 2) := by decide +kernel
theorem dX4_readCondition_49 : decode cX4_readCondition 49 = .ok (.ifCond .eq 9, 3) := by decide +kernel
theorem dX4_readCondition_52 : decode cX4_readCondition 52 = .ok (.aload_n 1, 1) := by decide +kernel
theorem dX4_readCondition_53 : decode cX4_readCondition 53 = .ok (.bipush 6, 2) := by decide +kernel
theorem dX4_readCondition_55 : decode cX4_readCondition 55 = .ok (.invokevirtual 41, 3) := by decide +kernel
theorem dX4_readCondition_58 : decode cX4_readCondition 58 = .ok (.aload_n 0, 1) := by decide +kernel
theorem dX4_readCondition_59 : decode cX4_readCondition 59 = .ok (.ldc 62, 2) := by decide +kernel
theorem dX4_readCondition_61 : decode cX4_readCondition 61 = .ok (.invokevirtual 38, 3) := by decide +kernel
theorem dX4_readCondition_64 : decode cX4_readCondition 64 = .ok (.istore 4, 2) := by decide +kernel
theorem dX4_readCondition_66 : decode cX4_readCondition 66 = .ok (.iload_n 3, 1) := by decide +kernel
theorem dX4_readCondition_67 : decode cX4_readCondition 67 = .ok (.ifCond .ne 10, 3) := by decide +kernel
theorem dX4_readCondition_70 : decode cX4_readCondition 70 = .ok (.iload 4, 2) := by decide +kernel
theorem dX4_readCondition_72 : decode cX4_readCondition 72 = .ok (.ifCond .ne 5, 3) := by decide +kernel
theorem dX4_readCondition_75 : decode cX4_readCondition 75 = .ok (.iconst 1, 1) := by decide +kernel
theorem dX4_readCondition_76 : decode cX4_readCondition 76 = .ok (.ireturn, 1) := by decide +kernel
theorem dX4_readCondition_77 : decode cX4_readCondition 77 = .ok (.iinc 5 1, 3) := by decide +kernel
theorem dX4_readCondition_80 : decode cX4_readCondition 80 = .ok (.goto (-72), 3) := by decide +kernel
theorem dX4_readCondition_83 : decode cX4_readCondition 83 = .ok (.iconst 0, 1) := by decide +kernel
theorem dX4_readCondition_84 : decode cX4_readCondition 84 = .ok (.ireturn, 1) := by decide +kernel
noncomputable def fX4_readCondition_j66_8 (V : VT) (ra : (VT → Int32 → Option (Int32 × VT))) (u2 : Int32) (u3 : Int32) (u4 : Int32) (u5 : Int32) : Option ((VT × Int32 × Int32 × Int32 × Int32) ⊕ (Int32 × VT)) := if u3 = 0 then (if u4 = 0 then (zo_ (1 : Int32) (some (.inr (((1 : Int32), V))))) else (lt_ (u5 + (1 : Int32)) fun y9 => some (.inl (V, u2, u3, u4, y9)))) else (lt_ (u5 + (1 : Int32)) fun y8 => some (.inl (V, u2, u3, u4, y8)))
noncomputable def fX4_readCondition_j58_8 (V : VT) (ra : (VT → Int32 → Option (Int32 × VT))) (u2 : Int32) (u3 : Int32) (u5 : Int32) : Option ((VT × Int32 × Int32 × Int32 × Int32) ⊕ (Int32 × VT)) := ob_I (fX8_takeWord V 20) fun y14 V15 => fX4_readCondition_j66_8 V15 ra u2 u3 y14 u5
noncomputable def fX4_readCondition_j36_8 (V : VT) (ra : (VT → Int32 → Option (Int32 × VT))) (u2 : Int32) (u4 : Int32) (u5 : Int32) : Option ((VT × Int32 × Int32 × Int32 × Int32) ⊕ (Int32 × VT)) := ob_I (fX8_takeWord V 19) fun y6 V7 => if y6 = 0 then (if u4 = 0 then (fX4_readCondition_j58_8 V7 ra u2 y6 u5) else (ob_R (fX3_put V7 (6 : Int32)) fun V17 => fX4_readCondition_j58_8 V17 ra u2 y6 u5)) else (fX4_readCondition_j66_8 V7 ra u2 y6 u4 u5)
noncomputable def fX4_readCondition_L8 (V : VT) (ra : (VT → Int32 → Option (Int32 × VT))) (u2 : Int32) (u3 : Int32) (u4 : Int32) (u5 : Int32) : Option ((VT × Int32 × Int32 × Int32 × Int32) ⊕ (Int32 × VT)) := if (400 : Int32) ≤ u5 then (zo_ (0 : Int32) (some (.inr (((0 : Int32), V))))) else (ob_I (ra V u2) fun y3 V4 => if y3 = 0 then (zo_ (0 : Int32) (some (.inr (((0 : Int32), V4))))) else (if u3 = 0 then (fX4_readCondition_j36_8 V4 ra u2 u4 u5) else (ob_R (fX3_put V4 (5 : Int32)) fun V21 => fX4_readCondition_j36_8 V21 ra u2 u4 u5)))
noncomputable def iX4_readCondition_L8 (ra : (VT → Int32 → Option (Int32 × VT))) : (VT × Int32 × Int32 × Int32 × Int32) → Option ((VT × Int32 × Int32 × Int32 × Int32) ⊕ (Int32 × VT)) := fun q => fX4_readCondition_L8 (q.1) ra (q.2.1) (q.2.2.1) (q.2.2.2.1) (q.2.2.2.2)
noncomputable def fX4_readCondition (V : VT) (ra : (VT → Int32 → Option (Int32 × VT))) (x1 : Int32) : Option (Int32 × VT) := ob_R (it_ (iX4_readCondition_L8 ra) FV (V, x1, (0 : Int32), (0 : Int32), (0 : Int32))) fun x27 => some x27
set_option maxHeartbeats 4000000 in
set_option maxRecDepth 100000 in
theorem wX4_readCondition_j66_8 {p : Program} {l : Launch} {e : Env} {s : State} {m : MethodId} {args : Array Value} {below : List Frame} {meth : Method} {c : Code} {G : GT} {Z : Nat → Nat × Nat} {Q : State → Prop} (E : En p s m args c meth cX4_readCondition 6 RX4 (some .boolean) G (SG Z)) {ra : (VT → Int32 → Option (Int32 × VT))} {dA : Nat} (hs_ra : ∀ (V : VT) (x : Int32) (r : Int32 × VT), ra V x = some r → CI l G (SG Z) yX4_readAtom (.code yX4_readAtom cX4_readAtom 5 (some .boolean)) dA [.ref (G.2.2 1), .ref (G.2.2 18), .int x] V r.1 r.2) {V : VT} {u2 : Int32} {u3 : Int32} {u4 : Int32} {u5 : Int32} {r : ((VT × Int32 × Int32 × Int32 × Int32) ⊕ (Int32 × VT))} (h : fX4_readCondition_j66_8 V ra u2 u3 u4 u5 = some r) (kc : ∀ q : (VT × Int32 × Int32 × Int32 × Int32), r = .inl q → ∀ (H : Heap) (locs : List Loc) (ls : Array Slot), HW G s.heap (q.1) H locs → lv_has ls 6 [(0, .ref (G.2.2 1)), (1, .ref (G.2.2 18)), (2, .int (q.2.1)), (3, .int (q.2.2.1)), (4, .int (q.2.2.2.1)), (5, .int (q.2.2.2.2))] → W p l e (rmD (dA + 7)) s m args below meth c H locs 0 0 Q (F0 m 8 ls [])) (kr : ∀ q : (Int32 × VT), r = .inr (q) → Q = MQ below (QI G s.heap.size q.1 q.2) args s 0 0 (gA G s.heap.size)) {H : Heap} {locs : List Loc} {ls : Array Slot} (hw : HW G s.heap V H locs) (hl : lv_has ls 6 [(0, .ref (G.2.2 1)), (1, .ref (G.2.2 18)), (2, .int u2), (3, .int u3), (4, .int u4), (5, .int u5)]) : W p l e (rmD (dA + 7)) s m args below meth c H locs 0 0 Q (F0 m 66 ls []) := by
  have hx := en_x E
  have hb := en_b E
  have hB := en_B E
  unfold fX4_readCondition_j66_8 at h
  refine lv_iload_n hx hb dX4_readCondition_66 rfl (lv_at hl 3 rfl) ?_
  refine lv_if_ne (tgt := 77) hx hb dX4_readCondition_67 (by decide) (fun c12 => ?_) (fun c12 => ?_)
  · rw [if_neg c12] at h
    obtain ⟨y8, ey8, h⟩ := lt_some h
    refine lv_iinc (v := y8) (lv' := [(5, .int y8), (0, .ref (G.2.2 1)), (1, .ref (G.2.2 18)), (2, .int u2), (3, .int u3), (4, .int u4)]) hx hb dX4_readCondition_77 hl (k := 5) rfl (by rw [ey8]; rfl) (by decide) rfl (fun ls hl => ?_)
    refine lv_goto (tgt := 8) hx hb dX4_readCondition_80 (by decide) ?_
    exact kc (V, u2, u3, u4, y8) (Option.some.inj h).symm H locs ls hw (lv_sub hl [1, 2, 3, 4, 5, 0] rfl)
  · rw [if_pos c12] at h
    refine lv_iload hx hb dX4_readCondition_70 (lv_at hl 4 rfl) ?_
    refine lv_if_ne (tgt := 77) hx hb dX4_readCondition_72 (by decide) (fun c11 => ?_) (fun c11 => ?_)
    · rw [if_neg c11] at h
      obtain ⟨y9, ey9, h⟩ := lt_some h
      refine lv_iinc (v := y9) (lv' := [(5, .int y9), (0, .ref (G.2.2 1)), (1, .ref (G.2.2 18)), (2, .int u2), (3, .int u3), (4, .int u4)]) hx hb dX4_readCondition_77 hl (k := 5) rfl (by rw [ey9]; rfl) (by decide) rfl (fun ls hl => ?_)
      refine lv_goto (tgt := 8) hx hb dX4_readCondition_80 (by decide) ?_
      exact kc (V, u2, u3, u4, y9) (Option.some.inj h).symm H locs ls hw (lv_sub hl [1, 2, 3, 4, 5, 0] rfl)
    · rw [if_pos c11] at h
      refine lv_iconst (v := (1 : Int32)) hx hb dX4_readCondition_75 (by decide) ?_
      obtain ⟨z10, h⟩ := zo_some h
      rw [kr ((1 : Int32), V) (Option.some.inj h).symm]
      exact r_rz E hw z10 dX4_readCondition_76
set_option maxHeartbeats 4000000 in
set_option maxRecDepth 100000 in
theorem wX4_readCondition_j58_8 {p : Program} {l : Launch} {e : Env} {s : State} {m : MethodId} {args : Array Value} {below : List Frame} {meth : Method} {c : Code} {G : GT} {Z : Nat → Nat × Nat} {Q : State → Prop} (E : En p s m args c meth cX4_readCondition 6 RX4 (some .boolean) G (SG Z)) {ra : (VT → Int32 → Option (Int32 × VT))} {dA : Nat} (hs_ra : ∀ (V : VT) (x : Int32) (r : Int32 × VT), ra V x = some r → CI l G (SG Z) yX4_readAtom (.code yX4_readAtom cX4_readAtom 5 (some .boolean)) dA [.ref (G.2.2 1), .ref (G.2.2 18), .int x] V r.1 r.2) {V : VT} {u2 : Int32} {u3 : Int32} {u5 : Int32} {r : ((VT × Int32 × Int32 × Int32 × Int32) ⊕ (Int32 × VT))} (h : fX4_readCondition_j58_8 V ra u2 u3 u5 = some r) (kc : ∀ q : (VT × Int32 × Int32 × Int32 × Int32), r = .inl q → ∀ (H : Heap) (locs : List Loc) (ls : Array Slot), HW G s.heap (q.1) H locs → lv_has ls 6 [(0, .ref (G.2.2 1)), (1, .ref (G.2.2 18)), (2, .int (q.2.1)), (3, .int (q.2.2.1)), (4, .int (q.2.2.2.1)), (5, .int (q.2.2.2.2))] → W p l e (rmD (dA + 7)) s m args below meth c H locs 0 0 Q (F0 m 8 ls [])) (kr : ∀ q : (Int32 × VT), r = .inr (q) → Q = MQ below (QI G s.heap.size q.1 q.2) args s 0 0 (gA G s.heap.size)) {H : Heap} {locs : List Loc} {ls : Array Slot} (hw : HW G s.heap V H locs) (hl : lv_has ls 6 [(0, .ref (G.2.2 1)), (1, .ref (G.2.2 18)), (2, .int u2), (3, .int u3), (5, .int u5)]) : W p l e (rmD (dA + 7)) s m args below meth c H locs 0 0 Q (F0 m 58 ls []) := by
  have hx := en_x E
  have hb := en_b E
  have hB := en_B E
  unfold fX4_readCondition_j58_8 at h
  refine lv_aload_n hx hb dX4_readCondition_58 rfl (lv_at hl 0 rfl) ?_
  refine r_ls (w := 20) E (by decide) rfl rfl dX4_readCondition_59 ?_
  obtain ⟨y14, V15, h13, h⟩ := ob_I_some h
  refine c_VI E hw (kX8_takeWord (l := l) (G := G) (Z := Z) (by decide) h13) yy_X8_takeWord lm_RX4_38 rfl (by decide) rfl rfl hl.1 (by omega) (by decide) rfl (Nat.le_of_ble_eq_true rfl) dX4_readCondition_61 (fun H locs hw => ?_)
  refine lv_istore (lv' := [(4, .int y14), (0, .ref (G.2.2 1)), (1, .ref (G.2.2 18)), (2, .int u2), (3, .int u3), (5, .int u5)]) hx hb dX4_readCondition_64 hl (by decide) rfl (fun ls hl => ?_)
  exact wX4_readCondition_j66_8 E hs_ra h kc kr hw (lv_sub hl [1, 2, 3, 4, 0, 5] rfl)
set_option maxHeartbeats 4000000 in
set_option maxRecDepth 100000 in
theorem wX4_readCondition_j36_8 {p : Program} {l : Launch} {e : Env} {s : State} {m : MethodId} {args : Array Value} {below : List Frame} {meth : Method} {c : Code} {G : GT} {Z : Nat → Nat × Nat} {Q : State → Prop} (E : En p s m args c meth cX4_readCondition 6 RX4 (some .boolean) G (SG Z)) {ra : (VT → Int32 → Option (Int32 × VT))} {dA : Nat} (hs_ra : ∀ (V : VT) (x : Int32) (r : Int32 × VT), ra V x = some r → CI l G (SG Z) yX4_readAtom (.code yX4_readAtom cX4_readAtom 5 (some .boolean)) dA [.ref (G.2.2 1), .ref (G.2.2 18), .int x] V r.1 r.2) {V : VT} {u2 : Int32} {u4 : Int32} {u5 : Int32} {r : ((VT × Int32 × Int32 × Int32 × Int32) ⊕ (Int32 × VT))} (h : fX4_readCondition_j36_8 V ra u2 u4 u5 = some r) (kc : ∀ q : (VT × Int32 × Int32 × Int32 × Int32), r = .inl q → ∀ (H : Heap) (locs : List Loc) (ls : Array Slot), HW G s.heap (q.1) H locs → lv_has ls 6 [(0, .ref (G.2.2 1)), (1, .ref (G.2.2 18)), (2, .int (q.2.1)), (3, .int (q.2.2.1)), (4, .int (q.2.2.2.1)), (5, .int (q.2.2.2.2))] → W p l e (rmD (dA + 7)) s m args below meth c H locs 0 0 Q (F0 m 8 ls [])) (kr : ∀ q : (Int32 × VT), r = .inr (q) → Q = MQ below (QI G s.heap.size q.1 q.2) args s 0 0 (gA G s.heap.size)) {H : Heap} {locs : List Loc} {ls : Array Slot} (hw : HW G s.heap V H locs) (hl : lv_has ls 6 [(0, .ref (G.2.2 1)), (1, .ref (G.2.2 18)), (2, .int u2), (4, .int u4), (5, .int u5)]) : W p l e (rmD (dA + 7)) s m args below meth c H locs 0 0 Q (F0 m 36 ls []) := by
  have hx := en_x E
  have hb := en_b E
  have hB := en_B E
  unfold fX4_readCondition_j36_8 at h
  refine lv_aload_n hx hb dX4_readCondition_36 rfl (lv_at hl 0 rfl) ?_
  refine r_ls (w := 19) E (by decide) rfl rfl dX4_readCondition_37 ?_
  obtain ⟨y6, V7, h5, h⟩ := ob_I_some h
  refine c_VI E hw (kX8_takeWord (l := l) (G := G) (Z := Z) (by decide) h5) yy_X8_takeWord lm_RX4_38 rfl (by decide) rfl rfl hl.1 (by omega) (by decide) rfl (Nat.le_of_ble_eq_true rfl) dX4_readCondition_39 (fun H locs hw => ?_)
  refine lv_istore_n (lv' := [(3, .int y6), (0, .ref (G.2.2 1)), (1, .ref (G.2.2 18)), (2, .int u2), (4, .int u4), (5, .int u5)]) hx hb dX4_readCondition_42 rfl hl (by decide) rfl (fun ls hl => ?_)
  refine lv_iload_n hx hb dX4_readCondition_43 rfl (lv_at hl 0 rfl) ?_
  refine lv_if_ne (tgt := 66) hx hb dX4_readCondition_44 (by decide) (fun c19 => ?_) (fun c19 => ?_)
  · rw [if_neg c19] at h
    exact wX4_readCondition_j66_8 E hs_ra h kc kr hw (lv_sub hl [1, 2, 3, 0, 4, 5] rfl)
  · rw [if_pos c19] at h
    refine lv_iload hx hb dX4_readCondition_47 (lv_at hl 4 rfl) ?_
    refine lv_if_eq (tgt := 58) hx hb dX4_readCondition_49 (by decide) (fun c18 => ?_) (fun c18 => ?_)
    · rw [if_pos c18] at h
      exact wX4_readCondition_j58_8 E hs_ra h kc kr hw (lv_sub hl [1, 2, 3, 0, 5] rfl)
    · rw [if_neg c18] at h
      refine lv_aload_n hx hb dX4_readCondition_52 rfl (lv_at hl 2 rfl) ?_
      refine lv_bipush (v := (6 : Int32)) hx hb dX4_readCondition_53 (by decide) ?_
      obtain ⟨V17, h16, h⟩ := ob_R_some h
      refine c_VV E hw (kX3_put (l := l) (G := G) hB  h16) yy_X3_put lm_RX4_41 rfl (by decide) rfl rfl hl.1 (by omega) (by decide) rfl (Nat.le_of_ble_eq_true rfl) dX4_readCondition_55 (fun H locs hw => ?_)
      exact wX4_readCondition_j58_8 E hs_ra h kc kr hw (lv_sub hl [1, 2, 3, 0, 5] rfl)
set_option maxHeartbeats 4000000 in
set_option maxRecDepth 100000 in
theorem wX4_readCondition_L8 {p : Program} {l : Launch} {e : Env} {s : State} {m : MethodId} {args : Array Value} {below : List Frame} {meth : Method} {c : Code} {G : GT} {Z : Nat → Nat × Nat} {Q : State → Prop} (E : En p s m args c meth cX4_readCondition 6 RX4 (some .boolean) G (SG Z)) {ra : (VT → Int32 → Option (Int32 × VT))} {dA : Nat} (hs_ra : ∀ (V : VT) (x : Int32) (r : Int32 × VT), ra V x = some r → CI l G (SG Z) yX4_readAtom (.code yX4_readAtom cX4_readAtom 5 (some .boolean)) dA [.ref (G.2.2 1), .ref (G.2.2 18), .int x] V r.1 r.2) {x : (Int32 × VT)} (kr : ∀ q : (Int32 × VT), x = q → Q = MQ below (QI G s.heap.size q.1 q.2) args s 0 0 (gA G s.heap.size)) : ∀ (n : Nat) (q : (VT × Int32 × Int32 × Int32 × Int32)), it_ (iX4_readCondition_L8 ra) n q = some x → ∀ (H : Heap) (locs : List Loc) (ls : Array Slot), HW G s.heap (q.1) H locs → lv_has ls 6 [(0, .ref (G.2.2 1)), (1, .ref (G.2.2 18)), (2, .int (q.2.1)), (3, .int (q.2.2.1)), (4, .int (q.2.2.2.1)), (5, .int (q.2.2.2.2))] → W p l e (rmD (dA + 7)) s m args below meth c H locs 0 0 Q (F0 m 8 ls []) := by
  have hx := en_x E
  have hb := en_b E
  have hB := en_B E
  refine it_W (fun q : (VT × Int32 × Int32 × Int32 × Int32) => ∀ (H : Heap) (locs : List Loc) (ls : Array Slot), HW G s.heap (q.1) H locs → lv_has ls 6 [(0, .ref (G.2.2 1)), (1, .ref (G.2.2 18)), (2, .int (q.2.1)), (3, .int (q.2.2.1)), (4, .int (q.2.2.2.1)), (5, .int (q.2.2.2.2))] → W p l e (rmD (dA + 7)) s m args below meth c H locs 0 0 Q (F0 m 8 ls [])) x ?_
  intro q r h kc kx
  obtain ⟨V, u2, u3, u4, u5⟩ := q
  intro H locs ls hw hl
  have h : fX4_readCondition_L8 V ra u2 u3 u4 u5 = some r := h
  have hw : HW G s.heap V H locs := hw
  have hl : lv_has ls 6 [(0, .ref (G.2.2 1)), (1, .ref (G.2.2 18)), (2, .int u2), (3, .int u3), (4, .int u4), (5, .int u5)] := hl
  have kr : ∀ q : (Int32 × VT), r = .inr (q) → Q = MQ below (QI G s.heap.size q.1 q.2) args s 0 0 (gA G s.heap.size) := fun q e => kr q (kx _ e).symm
  unfold fX4_readCondition_L8 at h
  refine lv_iload hx hb dX4_readCondition_8 (lv_at hl 5 rfl) ?_
  refine lv_sipush (v := (400 : Int32)) hx hb dX4_readCondition_10 (by decide) ?_
  refine lv_icmp_ge (tgt := 83) hx hb dX4_readCondition_13 (by decide) (fun c25 => ?_) (fun c25 => ?_)
  · rw [if_pos c25] at h
    refine lv_iconst (v := (0 : Int32)) hx hb dX4_readCondition_83 (by decide) ?_
    obtain ⟨z1, h⟩ := zo_some h
    rw [kr ((0 : Int32), V) (Option.some.inj h).symm]
    exact r_rz E hw z1 dX4_readCondition_84
  · rw [if_neg c25] at h
    refine lv_aload_n hx hb dX4_readCondition_16 rfl (lv_at hl 0 rfl) ?_
    refine lv_aload_n hx hb dX4_readCondition_17 rfl (lv_at hl 1 rfl) ?_
    refine lv_iload_n hx hb dX4_readCondition_18 rfl (lv_at hl 2 rfl) ?_
    obtain ⟨y3, V4, h2, h⟩ := ob_I_some h
    refine c_SI E hw (hs_ra _ _ _ h2) yy_X4_readAtom lm_RX4_57 rfl hl.1 (by omega) (by decide) rfl (Nat.le_of_ble_eq_true rfl) dX4_readCondition_19 (fun H locs hw => ?_)
    refine lv_if_ne (tgt := 27) hx hb dX4_readCondition_22 (by decide) (fun c24 => ?_) (fun c24 => ?_)
    · rw [if_neg c24] at h
      refine lv_iload_n hx hb dX4_readCondition_27 rfl (lv_at hl 3 rfl) ?_
      refine lv_if_eq (tgt := 36) hx hb dX4_readCondition_28 (by decide) (fun c22 => ?_) (fun c22 => ?_)
      · rw [if_pos c22] at h
        exact wX4_readCondition_j36_8 E hs_ra h kc kr hw (lv_sub hl [0, 1, 2, 4, 5] rfl)
      · rw [if_neg c22] at h
        refine lv_aload_n hx hb dX4_readCondition_31 rfl (lv_at hl 1 rfl) ?_
        refine lv_iconst (v := (5 : Int32)) hx hb dX4_readCondition_32 (by decide) ?_
        obtain ⟨V21, h20, h⟩ := ob_R_some h
        refine c_VV E hw (kX3_put (l := l) (G := G) hB  h20) yy_X3_put lm_RX4_41 rfl (by decide) rfl rfl hl.1 (by omega) (by decide) rfl (Nat.le_of_ble_eq_true rfl) dX4_readCondition_33 (fun H locs hw => ?_)
        exact wX4_readCondition_j36_8 E hs_ra h kc kr hw (lv_sub hl [0, 1, 2, 4, 5] rfl)
    · rw [if_pos c24] at h
      refine lv_iconst (v := (0 : Int32)) hx hb dX4_readCondition_25 (by decide) ?_
      obtain ⟨z23, h⟩ := zo_some h
      rw [kr ((0 : Int32), V4) (Option.some.inj h).symm]
      exact r_rz E hw z23 dX4_readCondition_26
set_option maxHeartbeats 4000000 in
set_option maxRecDepth 100000 in
theorem kX4_readCondition {l : Launch} {G : GT} {Z : Nat → Nat × Nat} {V : VT} {ra : (VT → Int32 → Option (Int32 × VT))} {dA : Nat} (hs_ra : ∀ (V : VT) (x : Int32) (r : Int32 × VT), ra V x = some r → CI l G (SG Z) yX4_readAtom (.code yX4_readAtom cX4_readAtom 5 (some .boolean)) dA [.ref (G.2.2 1), .ref (G.2.2 18), .int x] V r.1 r.2) {x1 : Int32} {r : (Int32 × VT)} (h : fX4_readCondition V ra x1 = some r) : CI l G (SG Z) yX4_readCondition (.code yX4_readCondition cX4_readCondition 6 (some .boolean)) (dA + 7) [.ref (G.2.2 1), .ref (G.2.2 18), .int x1] V r.1 r.2 := by
  intro sz
  refine met_of (Qs := fun sz => QI G sz (r.1) (r.2)) (SG_ok Z) (by decide) (Nat.le_of_ble_eq_true rfl) ?_ sz
  intro p e s m args below meth c ls E hw hl
  have hx := en_x E
  have hb := en_b E
  have hB := en_B E
  generalize hQ : MQ _ _ _ _ _ _ _ = Q
  have kr : Q = MQ below (QI G s.heap.size r.1 r.2) args s 0 0 (gA G s.heap.size) := hQ.symm
  have hl : lv_has ls 6 [(0, .ref (G.2.2 1)), (1, .ref (G.2.2 18)), (2, .int x1)] := hl
  obtain ⟨H, eH⟩ : ∃ H, H = s.heap := ⟨_, rfl⟩
  obtain ⟨locs, elocs⟩ : ∃ z : List Loc, z = [] := ⟨_, rfl⟩
  have hw : HW G s.heap V H locs := by rw [eH, elocs]; exact hw
  show W p l e _ s m args below meth c s.heap [] 0 0 Q (F0 m 0 ls [])
  rw [← eH, ← elocs]
  unfold fX4_readCondition at h
  refine lv_iconst (v := (0 : Int32)) hx hb dX4_readCondition_0 (by decide) ?_
  refine lv_istore_n (lv' := [(3, .int (0 : Int32)), (0, .ref (G.2.2 1)), (1, .ref (G.2.2 18)), (2, .int x1)]) hx hb dX4_readCondition_1 rfl hl (by decide) rfl (fun ls hl => ?_)
  refine lv_iconst (v := (0 : Int32)) hx hb dX4_readCondition_2 (by decide) ?_
  refine lv_istore (lv' := [(4, .int (0 : Int32)), (3, .int (0 : Int32)), (0, .ref (G.2.2 1)), (1, .ref (G.2.2 18)), (2, .int x1)]) hx hb dX4_readCondition_3 hl (by decide) rfl (fun ls hl => ?_)
  refine lv_iconst (v := (0 : Int32)) hx hb dX4_readCondition_5 (by decide) ?_
  refine lv_istore (lv' := [(5, .int (0 : Int32)), (4, .int (0 : Int32)), (3, .int (0 : Int32)), (0, .ref (G.2.2 1)), (1, .ref (G.2.2 18)), (2, .int x1)]) hx hb dX4_readCondition_6 hl (by decide) rfl (fun ls hl => ?_)
  obtain ⟨x27, h26, h⟩ := ob_R_some h
  have h := Option.some.inj h
  subst h
  exact wX4_readCondition_L8 E hs_ra (fun q e => by subst e; exact kr) FV (V, x1, (0 : Int32), (0 : Int32), (0 : Int32)) h26 H locs ls hw (lv_sub hl [3, 4, 5, 2, 1, 0] rfl)
/-! ===== AllSawIt$LawText.readAtom(LAllSawIt$Tape;LAllSawIt$Law;I)Z ===== -/
theorem dX4_readAtom_0 : decode cX4_readAtom 0 = .ok (.aload_n 0, 1) := by decide +kernel
theorem dX4_readAtom_1 : decode cX4_readAtom 1 = .ok (.ldc 64, 2) := by decide +kernel
theorem dX4_readAtom_3 : decode cX4_readAtom 3 = .ok (.invokevirtual 27, 3) := by decide +kernel
theorem dX4_readAtom_6 : decode cX4_readAtom 6 = .ok (.istore_n 3, 1) := by decide +kernel
theorem dX4_readAtom_7 : decode cX4_readAtom 7 = .ok (.iload_n 3, 1) := by decide +kernel
theorem dX4_readAtom_8 : decode cX4_readAtom 8 = .ok (.ifCond .ne 12, 3) := by decide +kernel
theorem dX4_readAtom_11 : decode cX4_readAtom 11 = .ok (.aload_n 0, 1) := by decide +kernel
theorem dX4_readAtom_12 : decode cX4_readAtom 12 = .ok (.bipush 40, 2) := by decide +kernel
theorem dX4_readAtom_14 : decode cX4_readAtom 14 = .ok (.invokevirtual 66, 3) := by decide +kernel
theorem dX4_readAtom_17 : decode cX4_readAtom 17 = .ok (.ifCond .eq 63, 3) := by decide +kernel
theorem dX4_readAtom_20 : decode cX4_readAtom 20 = .ok (.iload_n 2, 1) := by decide +kernel
theorem dX4_readAtom_21 : decode cX4_readAtom 21 = .ok (.bipush 6, 2) := by decide +kernel
theorem dX4_readAtom_23 : decode cX4_readAtom 23 = .ok (.if_icmp .lt 5, 3) := by decide +kernel
theorem dX4_readAtom_26 : decode cX4_readAtom 26 = .ok (.iconst 0, 1) := by decide +kernel
theorem dX4_readAtom_27 : decode cX4_readAtom 27 = .ok (.ireturn, 1) := by decide +kernel
theorem dX4_readAtom_28 : decode cX4_readAtom 28 = .ok (.aload_n 0, 1) := by decide +kernel
theorem dX4_readAtom_29 : decode cX4_readAtom 29 = .ok (.invokevirtual 33, 3) := by decide +kernel
theorem dX4_readAtom_32 : decode cX4_readAtom 32 = .ok (.iload_n 3, 1) := by decide +kernel
theorem dX4_readAtom_33 : decode cX4_readAtom 33 = .ok (.ifCond .ne 29, 3) := by decide +kernel
theorem dX4_readAtom_36 : decode cX4_readAtom 36 = .ok (.aload_n 0, 1) := by decide +kernel
theorem dX4_readAtom_37 : decode cX4_readAtom 37 = .ok (.aload_n 1, 1) := by decide +kernel
theorem dX4_readAtom_38 : decode cX4_readAtom 38 = .ok (.iload_n 2, 1) := by decide +kernel
theorem dX4_readAtom_39 : decode cX4_readAtom 39 = .ok (.iconst 1, 1) := by decide +kernel
theorem dX4_readAtom_40 : decode cX4_readAtom 40 = .ok (.iadd, 1) := by decide +kernel
theorem dX4_readAtom_41 : decode cX4_readAtom 41 = .ok (.invokestatic 45, 3) := by decide +kernel
theorem dX4_readAtom_44 : decode cX4_readAtom 44 = .ok (.ifCond .eq 16, 3) := by decide +kernel
theorem dX4_readAtom_47 : decode cX4_readAtom 47 = .ok (.aload_n 0, 1) := by decide +kernel
theorem dX4_readAtom_48 : decode cX4_readAtom 48 = .ok (.bipush 41, 2) := by decide +kernel
theorem dX4_readAtom_50 : decode cX4_readAtom 50 = .ok (.invokevirtual 53, 3) := by decide +kernel
theorem dX4_readAtom_53 : decode cX4_readAtom 53 = .ok (.ifCond .eq 7, 3) := by decide +kernel
theorem dX4_readAtom_56 : decode cX4_readAtom 56 = .ok (.iconst 1, 1) := by decide +kernel
theorem dX4_readAtom_57 : decode cX4_readAtom 57 = .ok (.goto 4, 3) := by decide +kernel
theorem dX4_readAtom_60 : decode cX4_readAtom 60 = .ok (.iconst 0, 1) := by decide +kernel
theorem dX4_readAtom_61 : decode cX4_readAtom 61 = .ok (.ireturn, 1) := by decide +kernel
theorem dX4_readAtom_62 : decode cX4_readAtom 62 = .ok (.aload_n 0, 1) := by decide +kernel
theorem dX4_readAtom_63 : decode cX4_readAtom 63 = .ok (.aload_n 1, 1) := by decide +kernel
theorem dX4_readAtom_64 : decode cX4_readAtom 64 = .ok (.iload_n 2, 1) := by decide +kernel
theorem dX4_readAtom_65 : decode cX4_readAtom 65 = .ok (.iconst 1, 1) := by decide +kernel
theorem dX4_readAtom_66 : decode cX4_readAtom 66 = .ok (.iadd, 1) := by decide +kernel
theorem dX4_readAtom_67 : decode cX4_readAtom 67 = .ok (.invokestatic 57, 3) := by decide +kernel
theorem dX4_readAtom_70 : decode cX4_readAtom 70 = .ok (.istore 4, 2) := by decide +kernel
theorem dX4_readAtom_72 : decode cX4_readAtom 72 = .ok (.aload_n 1, 1) := by decide +kernel
theorem dX4_readAtom_73 : decode cX4_readAtom 73 = .ok (.iconst 4, 1) := by decide +kernel
theorem dX4_readAtom_74 : decode cX4_readAtom 74 = .ok (.invokevirtual 41, 3) := by decide +kernel
theorem dX4_readAtom_77 : decode cX4_readAtom 77 = .ok (.iload 4, 2) := by decide +kernel
theorem dX4_readAtom_79 : decode cX4_readAtom 79 = .ok (.ireturn, 1) := by decide +kernel
theorem dX4_readAtom_80 : decode cX4_readAtom 80 = .ok (.aload_n 0, 1) := by decide +kernel
theorem dX4_readAtom_81 : decode cX4_readAtom 81 = .ok (.invokestatic 69, 3) := by decide +kernel
theorem dX4_readAtom_84 : decode cX4_readAtom 84 = .ok (.istore 4, 2) := by decide +kernel
theorem dX4_readAtom_86 : decode cX4_readAtom 86 = .ok (.iload 4, 2) := by decide +kernel
theorem dX4_readAtom_88 : decode cX4_readAtom 88 = .ok (.iconst (-1), 1) := by decide +kernel
theorem dX4_readAtom_89 : decode cX4_readAtom 89 = .ok (.if_icmp .ne 9, 3) := by decide +kernel
theorem dX4_readAtom_92 : decode cX4_readAtom 92 = .ok (.aload_n 0, 1) := by decide +kernel
theorem dX4_readAtom_93 : decode cX4_readAtom 93 = .ok (.aload_n 1, 1) := by decide +kernel
theorem dX4_readAtom_94 : decode cX4_readAtom 94 = .ok (.invokestatic 73, 3) := by decide +kernel
theorem dX4_readAtom_97 : decode cX4_readAtom 97 = .ok (.ireturn, 1) := by decide +kernel
theorem dX4_readAtom_98 : decode cX4_readAtom 98 = .ok (.aload_n 1, 1) := by decide +kernel
theorem dX4_readAtom_99 : decode cX4_readAtom 99 = .ok (.iload 4, 2) := by decide +kernel
theorem dX4_readAtom_101 : decode cX4_readAtom 101 = .ok (.invokevirtual 41, 3) := by decide +kernel
theorem dX4_readAtom_104 : decode cX4_readAtom 104 = .ok (.aload_n 0, 1) := by decide +kernel
theorem dX4_readAtom_105 : decode cX4_readAtom 105 = .ok (.invokevirtual 33, 3) := by decide +kernel
theorem dX4_readAtom_108 : decode cX4_readAtom 108 = .ok (.iconst 1, 1) := by decide +kernel
theorem dX4_readAtom_109 : decode cX4_readAtom 109 = .ok (.ireturn, 1) := by decide +kernel
noncomputable def fX4_readAtom_j20 (V : VT) (ra : (VT → Int32 → Option (Int32 × VT))) (u2 : Int32) (u3 : Int32) : Option (Int32 × VT) := if u2 < (6 : Int32) then (ob_R (fX8_step V ) fun V4 => if u3 = 0 then (ob_I (fX4_readCondition V4 ra (u2 + (1 : Int32))) fun y12 V13 => if y12 = 0 then (zo_ (0 : Int32) (some ((0 : Int32), V13))) else (ob_I (fX8_takeSign V13 (41 : Int32)) fun y16 V17 => if y16 = 0 then (zo_ (0 : Int32) (some ((0 : Int32), V17))) else (zo_ (1 : Int32) (some ((1 : Int32), V17))))) else (ob_I (ra V4 (u2 + (1 : Int32))) fun y6 V7 => ob_R (fX3_put V7 (4 : Int32)) fun V9 => zo_ y6 (some (y6, V9)))) else (zo_ (0 : Int32) (some ((0 : Int32), V)))
noncomputable def fX4_readAtom (V : VT) (ra : (VT → Int32 → Option (Int32 × VT))) (x1 : Int32) : Option (Int32 × VT) := ob_R (fX8_isWord V 21) fun y2 => if y2 = 0 then (ob_R (fX8_isSign V (40 : Int32)) fun y26 => if y26 = 0 then (ob_R (fX4_factCode V ) fun y28 => if y28 = (-1 : Int32) then (ob_I (fX4_readComparison V ) fun y35 V36 => zo_ y35 (some (y35, V36))) else (ob_R (fX3_put V y28) fun V30 => ob_R (fX8_step V30 ) fun V32 => zo_ (1 : Int32) (some ((1 : Int32), V32)))) else (fX4_readAtom_j20 V ra x1 y2)) else (fX4_readAtom_j20 V ra x1 y2)
set_option maxHeartbeats 4000000 in
set_option maxRecDepth 100000 in
theorem wX4_readAtom_j20 {p : Program} {l : Launch} {e : Env} {s : State} {m : MethodId} {args : Array Value} {below : List Frame} {meth : Method} {c : Code} {G : GT} {Z : Nat → Nat × Nat} {Q : State → Prop} (E : En p s m args c meth cX4_readAtom 5 RX4 (some .boolean) G (SG Z)) {ra : (VT → Int32 → Option (Int32 × VT))} {dA : Nat} (hs_ra : ∀ (V : VT) (x : Int32) (r : Int32 × VT), ra V x = some r → CI l G (SG Z) yX4_readAtom (.code yX4_readAtom cX4_readAtom 5 (some .boolean)) dA [.ref (G.2.2 1), .ref (G.2.2 18), .int x] V r.1 r.2) {V : VT} {u2 : Int32} {u3 : Int32} {r : (Int32 × VT)} (h : fX4_readAtom_j20 V ra u2 u3 = some r) (kr : Q = MQ below (QI G s.heap.size r.1 r.2) args s 0 0 (gA G s.heap.size)) {H : Heap} {locs : List Loc} {ls : Array Slot} (hw : HW G s.heap V H locs) (hl : lv_has ls 5 [(0, .ref (G.2.2 1)), (1, .ref (G.2.2 18)), (2, .int u2), (3, .int u3)]) : W p l e (rmD (dA + 9)) s m args below meth c H locs 0 0 Q (F0 m 20 ls []) := by
  have hx := en_x E
  have hb := en_b E
  have hB := en_B E
  unfold fX4_readAtom_j20 at h
  refine lv_iload_n hx hb dX4_readAtom_20 rfl (lv_at hl 2 rfl) ?_
  refine lv_bipush (v := (6 : Int32)) hx hb dX4_readAtom_21 (by decide) ?_
  refine lv_icmp_lt (tgt := 28) hx hb dX4_readAtom_23 (by decide) (fun c24 => ?_) (fun c24 => ?_)
  · rw [if_pos c24] at h
    refine lv_aload_n hx hb dX4_readAtom_28 rfl (lv_at hl 0 rfl) ?_
    obtain ⟨V4, h3, h⟩ := ob_R_some h
    refine c_VV E hw (kX8_step (l := l) (G := G) hB  h3) yy_X8_step lm_RX4_33 rfl (by decide) rfl rfl hl.1 (by omega) (by decide) rfl (Nat.le_of_ble_eq_true rfl) dX4_readAtom_29 (fun H locs hw => ?_)
    refine lv_iload_n hx hb dX4_readAtom_32 rfl (lv_at hl 3 rfl) ?_
    refine lv_if_ne (tgt := 62) hx hb dX4_readAtom_33 (by decide) (fun c22 => ?_) (fun c22 => ?_)
    · rw [if_neg c22] at h
      refine lv_aload_n hx hb dX4_readAtom_62 rfl (lv_at hl 0 rfl) ?_
      refine lv_aload_n hx hb dX4_readAtom_63 rfl (lv_at hl 1 rfl) ?_
      refine lv_iload_n hx hb dX4_readAtom_64 rfl (lv_at hl 2 rfl) ?_
      refine lv_iconst (v := (1 : Int32)) hx hb dX4_readAtom_65 (by decide) ?_
      refine lv_iadd hx hb dX4_readAtom_66 ?_
      obtain ⟨y6, V7, h5, h⟩ := ob_I_some h
      refine c_SI E hw (hs_ra _ _ _ h5) yy_X4_readAtom lm_RX4_57 rfl hl.1 (by omega) (by decide) rfl (Nat.le_of_ble_eq_true rfl) dX4_readAtom_67 (fun H locs hw => ?_)
      refine lv_istore (lv' := [(4, .int y6), (0, .ref (G.2.2 1)), (1, .ref (G.2.2 18)), (2, .int u2), (3, .int u3)]) hx hb dX4_readAtom_70 hl (by decide) rfl (fun ls hl => ?_)
      refine lv_aload_n hx hb dX4_readAtom_72 rfl (lv_at hl 2 rfl) ?_
      refine lv_iconst (v := (4 : Int32)) hx hb dX4_readAtom_73 (by decide) ?_
      obtain ⟨V9, h8, h⟩ := ob_R_some h
      refine c_VV E hw (kX3_put (l := l) (G := G) hB  h8) yy_X3_put lm_RX4_41 rfl (by decide) rfl rfl hl.1 (by omega) (by decide) rfl (Nat.le_of_ble_eq_true rfl) dX4_readAtom_74 (fun H locs hw => ?_)
      refine lv_iload hx hb dX4_readAtom_77 (lv_at hl 0 rfl) ?_
      obtain ⟨z10, h⟩ := zo_some h
      have h := Option.some.inj h
      subst h
      rw [kr]
      exact r_rz E hw z10 dX4_readAtom_79
    · rw [if_pos c22] at h
      refine lv_aload_n hx hb dX4_readAtom_36 rfl (lv_at hl 0 rfl) ?_
      refine lv_aload_n hx hb dX4_readAtom_37 rfl (lv_at hl 1 rfl) ?_
      refine lv_iload_n hx hb dX4_readAtom_38 rfl (lv_at hl 2 rfl) ?_
      refine lv_iconst (v := (1 : Int32)) hx hb dX4_readAtom_39 (by decide) ?_
      refine lv_iadd hx hb dX4_readAtom_40 ?_
      obtain ⟨y12, V13, h11, h⟩ := ob_I_some h
      refine c_SI E hw (kX4_readCondition (l := l) (G := G) (Z := Z) hs_ra h11) yy_X4_readCondition lm_RX4_45 rfl hl.1 (by omega) (by decide) rfl (Nat.le_of_ble_eq_true rfl) dX4_readAtom_41 (fun H locs hw => ?_)
      refine lv_if_eq (tgt := 60) hx hb dX4_readAtom_44 (by decide) (fun c21 => ?_) (fun c21 => ?_)
      · rw [if_pos c21] at h
        refine lv_iconst (v := (0 : Int32)) hx hb dX4_readAtom_60 (by decide) ?_
        obtain ⟨z14, h⟩ := zo_some h
        have h := Option.some.inj h
        subst h
        rw [kr]
        exact r_rz E hw z14 dX4_readAtom_61
      · rw [if_neg c21] at h
        refine lv_aload_n hx hb dX4_readAtom_47 rfl (lv_at hl 0 rfl) ?_
        refine lv_bipush (v := (41 : Int32)) hx hb dX4_readAtom_48 (by decide) ?_
        obtain ⟨y16, V17, h15, h⟩ := ob_I_some h
        refine c_VI E hw (kX8_takeSign (l := l) (G := G) hB  h15) yy_X8_takeSign lm_RX4_53 rfl (by decide) rfl rfl hl.1 (by omega) (by decide) rfl (Nat.le_of_ble_eq_true rfl) dX4_readAtom_50 (fun H locs hw => ?_)
        refine lv_if_eq (tgt := 60) hx hb dX4_readAtom_53 (by decide) (fun c20 => ?_) (fun c20 => ?_)
        · rw [if_pos c20] at h
          refine lv_iconst (v := (0 : Int32)) hx hb dX4_readAtom_60 (by decide) ?_
          obtain ⟨z18, h⟩ := zo_some h
          have h := Option.some.inj h
          subst h
          rw [kr]
          exact r_rz E hw z18 dX4_readAtom_61
        · rw [if_neg c20] at h
          refine lv_iconst (v := (1 : Int32)) hx hb dX4_readAtom_56 (by decide) ?_
          refine lv_goto (tgt := 61) hx hb dX4_readAtom_57 (by decide) ?_
          obtain ⟨z19, h⟩ := zo_some h
          have h := Option.some.inj h
          subst h
          rw [kr]
          exact r_rz E hw z19 dX4_readAtom_61
  · rw [if_neg c24] at h
    refine lv_iconst (v := (0 : Int32)) hx hb dX4_readAtom_26 (by decide) ?_
    obtain ⟨z23, h⟩ := zo_some h
    have h := Option.some.inj h
    subst h
    rw [kr]
    exact r_rz E hw z23 dX4_readAtom_27
set_option maxHeartbeats 4000000 in
set_option maxRecDepth 100000 in
theorem kX4_readAtom {l : Launch} {G : GT} {Z : Nat → Nat × Nat} {V : VT} {ra : (VT → Int32 → Option (Int32 × VT))} {dA : Nat} (hs_ra : ∀ (V : VT) (x : Int32) (r : Int32 × VT), ra V x = some r → CI l G (SG Z) yX4_readAtom (.code yX4_readAtom cX4_readAtom 5 (some .boolean)) dA [.ref (G.2.2 1), .ref (G.2.2 18), .int x] V r.1 r.2) {x1 : Int32} {r : (Int32 × VT)} (h : fX4_readAtom V ra x1 = some r) : CI l G (SG Z) yX4_readAtom (.code yX4_readAtom cX4_readAtom 5 (some .boolean)) (dA + 9) [.ref (G.2.2 1), .ref (G.2.2 18), .int x1] V r.1 r.2 := by
  intro sz
  refine met_of (Qs := fun sz => QI G sz (r.1) (r.2)) (SG_ok Z) (by decide) (Nat.le_of_ble_eq_true rfl) ?_ sz
  intro p e s m args below meth c ls E hw hl
  have hx := en_x E
  have hb := en_b E
  have hB := en_B E
  generalize hQ : MQ _ _ _ _ _ _ _ = Q
  have kr : Q = MQ below (QI G s.heap.size r.1 r.2) args s 0 0 (gA G s.heap.size) := hQ.symm
  have hl : lv_has ls 5 [(0, .ref (G.2.2 1)), (1, .ref (G.2.2 18)), (2, .int x1)] := hl
  obtain ⟨H, eH⟩ : ∃ H, H = s.heap := ⟨_, rfl⟩
  obtain ⟨locs, elocs⟩ : ∃ z : List Loc, z = [] := ⟨_, rfl⟩
  have hw : HW G s.heap V H locs := by rw [eH, elocs]; exact hw
  show W p l e _ s m args below meth c s.heap [] 0 0 Q (F0 m 0 ls [])
  rw [← eH, ← elocs]
  unfold fX4_readAtom at h
  refine lv_aload_n hx hb dX4_readAtom_0 rfl (lv_at hl 0 rfl) ?_
  refine r_ls (w := 21) E (by decide) rfl rfl dX4_readAtom_1 ?_
  obtain ⟨y2, h1, h⟩ := ob_R_some h
  refine c_VI E hw (kX8_isWord (l := l) (G := G) (Z := Z) (by decide) h1) yy_X8_isWord lm_RX4_27 rfl (by decide) rfl rfl hl.1 (by omega) (by decide) rfl (Nat.le_of_ble_eq_true rfl) dX4_readAtom_3 (fun H locs hw => ?_)
  refine lv_istore_n (lv' := [(3, .int y2), (0, .ref (G.2.2 1)), (1, .ref (G.2.2 18)), (2, .int x1)]) hx hb dX4_readAtom_6 rfl hl (by decide) rfl (fun ls hl => ?_)
  refine lv_iload_n hx hb dX4_readAtom_7 rfl (lv_at hl 0 rfl) ?_
  refine lv_if_ne (tgt := 20) hx hb dX4_readAtom_8 (by decide) (fun c40 => ?_) (fun c40 => ?_)
  · rw [if_neg c40] at h
    exact wX4_readAtom_j20 E hs_ra h kr hw (lv_sub hl [1, 2, 3, 0] rfl)
  · rw [if_pos c40] at h
    refine lv_aload_n hx hb dX4_readAtom_11 rfl (lv_at hl 1 rfl) ?_
    refine lv_bipush (v := (40 : Int32)) hx hb dX4_readAtom_12 (by decide) ?_
    obtain ⟨y26, h25, h⟩ := ob_R_some h
    refine c_VI E hw (kX8_isSign (l := l) (G := G) hB  h25) yy_X8_isSign lm_RX4_66 rfl (by decide) rfl rfl hl.1 (by omega) (by decide) rfl (Nat.le_of_ble_eq_true rfl) dX4_readAtom_14 (fun H locs hw => ?_)
    refine lv_if_eq (tgt := 80) hx hb dX4_readAtom_17 (by decide) (fun c39 => ?_) (fun c39 => ?_)
    · rw [if_pos c39] at h
      refine lv_aload_n hx hb dX4_readAtom_80 rfl (lv_at hl 1 rfl) ?_
      obtain ⟨y28, h27, h⟩ := ob_R_some h
      refine c_SI E hw (kX4_factCode (l := l) (G := G) (Z := Z)  h27) yy_X4_factCode lm_RX4_69 rfl hl.1 (by omega) (by decide) rfl (Nat.le_of_ble_eq_true rfl) dX4_readAtom_81 (fun H locs hw => ?_)
      refine lv_istore (lv' := [(4, .int y28), (3, .int y2), (0, .ref (G.2.2 1)), (1, .ref (G.2.2 18)), (2, .int x1)]) hx hb dX4_readAtom_84 hl (by decide) rfl (fun ls hl => ?_)
      refine lv_iload hx hb dX4_readAtom_86 (lv_at hl 0 rfl) ?_
      refine lv_iconst (v := (-1 : Int32)) hx hb dX4_readAtom_88 (by decide) ?_
      refine lv_icmp_ne (tgt := 98) hx hb dX4_readAtom_89 (by decide) (fun c38 => ?_) (fun c38 => ?_)
      · rw [if_neg c38] at h
        refine lv_aload_n hx hb dX4_readAtom_98 rfl (lv_at hl 3 rfl) ?_
        refine lv_iload hx hb dX4_readAtom_99 (lv_at hl 0 rfl) ?_
        obtain ⟨V30, h29, h⟩ := ob_R_some h
        refine c_VV E hw (kX3_put (l := l) (G := G) hB  h29) yy_X3_put lm_RX4_41 rfl (by decide) rfl rfl hl.1 (by omega) (by decide) rfl (Nat.le_of_ble_eq_true rfl) dX4_readAtom_101 (fun H locs hw => ?_)
        refine lv_aload_n hx hb dX4_readAtom_104 rfl (lv_at hl 2 rfl) ?_
        obtain ⟨V32, h31, h⟩ := ob_R_some h
        refine c_VV E hw (kX8_step (l := l) (G := G) hB  h31) yy_X8_step lm_RX4_33 rfl (by decide) rfl rfl hl.1 (by omega) (by decide) rfl (Nat.le_of_ble_eq_true rfl) dX4_readAtom_105 (fun H locs hw => ?_)
        refine lv_iconst (v := (1 : Int32)) hx hb dX4_readAtom_108 (by decide) ?_
        obtain ⟨z33, h⟩ := zo_some h
        have h := Option.some.inj h
        subst h
        rw [kr]
        exact r_rz E hw z33 dX4_readAtom_109
      · rw [if_pos c38] at h
        refine lv_aload_n hx hb dX4_readAtom_92 rfl (lv_at hl 2 rfl) ?_
        refine lv_aload_n hx hb dX4_readAtom_93 rfl (lv_at hl 3 rfl) ?_
        obtain ⟨y35, V36, h34, h⟩ := ob_I_some h
        refine c_SI E hw (kX4_readComparison (l := l) (G := G) (Z := Z)  h34) yy_X4_readComparison lm_RX4_73 rfl hl.1 (by omega) (by decide) rfl (Nat.le_of_ble_eq_true rfl) dX4_readAtom_94 (fun H locs hw => ?_)
        obtain ⟨z37, h⟩ := zo_some h
        have h := Option.some.inj h
        subst h
        rw [kr]
        exact r_rz E hw z37 dX4_readAtom_97
    · rw [if_neg c39] at h
      exact wX4_readAtom_j20 E hs_ra h kr hw (lv_sub hl [1, 2, 3, 0] rfl)
noncomputable def tX4_readAtom : Nat → VT → Int32 → Option (Int32 × VT)
  | 0, _, _ => none
  | n + 1, V, x => fX4_readAtom V (tX4_readAtom n) x
theorem ktX4_readAtom {l : Launch} {G : GT} {Z : Nat → Nat × Nat} : ∀ (n : Nat) (V : VT) (x : Int32) (r : Int32 × VT), tX4_readAtom n V x = some r → CI l G (SG Z) yX4_readAtom (.code yX4_readAtom cX4_readAtom 5 (some .boolean)) (9 * n) [.ref (G.2.2 1), .ref (G.2.2 18), .int x] V r.1 r.2
  | 0, _, _, _, h => by cases h
  | n + 1, V, x, r, h => by
    have h2 := kX4_readAtom (l := l) (G := G) (Z := Z) (dA := 9 * n) (ra := tX4_readAtom n) (ktX4_readAtom n) h
    rw [show 9 * (n + 1) = 9 * n + 9 by omega]
    exact h2
/-! ===== AllSawItModel.readAllOf()Z ===== -/
theorem dX10_readAllOf_0 : decode cX10_readAllOf 0 = .ok (.aload_n 0, 1) := by decide +kernel
theorem dX10_readAllOf_1 : decode cX10_readAllOf 1 = .ok (.invokevirtual 194, 3) := by decide +kernel
theorem dX10_readAllOf_4 : decode cX10_readAllOf 4 = .ok (.ifCond .ne 5, 3) := by decide +kernel
theorem dX10_readAllOf_7 : decode cX10_readAllOf 7 = .ok (.iconst 0, 1) := by decide +kernel
theorem dX10_readAllOf_8 : decode cX10_readAllOf 8 = .ok (.ireturn, 1) := by decide +kernel
theorem dX10_readAllOf_9 : decode cX10_readAllOf 9 = .ok (.aload_n 0, 1) := by decide +kernel
theorem dX10_readAllOf_10 : decode cX10_readAllOf 10 = .ok (.ldc 203, 2) := by decide +kernel
theorem dX10_readAllOf_12 : decode cX10_readAllOf 12 = .ok (.invokevirtual 136, 3) := by decide +kernel
theorem dX10_readAllOf_15 : decode cX10_readAllOf 15 = .ok (.ifCond .eq 22, 3) := by decide +kernel
theorem dX10_readAllOf_18 : decode cX10_readAllOf 18 = .ok (.aload_n 0, 1) := by decide +kernel
theorem dX10_readAllOf_19 : decode cX10_readAllOf 19 = .ok (.invokevirtual 194, 3) := by decide +kernel
theorem dX10_readAllOf_22 : decode cX10_readAllOf 22 = .ok (.ifCond .ne 5, 3) := by decide +kernel
theorem dX10_readAllOf_25 : decode cX10_readAllOf 25 = .ok (.iconst 0, 1) := by decide +kernel
theorem dX10_readAllOf_26 : decode cX10_readAllOf 26 = .ok (.ireturn, 1) := by decide +kernel
theorem dX10_readAllOf_27 : decode cX10_readAllOf 27 = .ok (.aload_n 0, 1) := by decide +kernel
theorem dX10_readAllOf_28 : decode cX10_readAllOf 28 = .ok (.bipush 14, 2) := by decide +kernel
theorem dX10_readAllOf_30 : decode cX10_readAllOf 30 = .ok (.iconst 0, 1) := by decide +kernel
theorem dX10_readAllOf_31 : decode cX10_readAllOf 31 = .ok (.invokevirtual 163, 3) := by decide +kernel
theorem dX10_readAllOf_34 : decode cX10_readAllOf 34 = .ok (.goto (-25), 3) := by decide +kernel
theorem dX10_readAllOf_37 : decode cX10_readAllOf 37 = .ok (.iconst 1, 1) := by decide +kernel
theorem dX10_readAllOf_38 : decode cX10_readAllOf 38 = .ok (.ireturn, 1) := by decide +kernel
noncomputable def fX10_readAllOf_L9 (V : VT) (ra : (VT → Option (Int32 × VT))) : Option (VT ⊕ (Int32 × VT)) := ob_I (fX10_passes V 60) fun y5 V6 => if y5 = 0 then (zo_ (1 : Int32) (some (.inr (((1 : Int32), V6))))) else (ob_I (ra V6 ) fun y9 V10 => if y9 = 0 then (zo_ (0 : Int32) (some (.inr (((0 : Int32), V10))))) else (ob_R (fX10_emits V10 (14 : Int32) (0 : Int32)) fun V12 => some (.inl V12)))
noncomputable def iX10_readAllOf_L9 (ra : (VT → Option (Int32 × VT))) : VT → Option (VT ⊕ (Int32 × VT)) := fun q => fX10_readAllOf_L9 (q) ra
noncomputable def fX10_readAllOf (V : VT) (ra : (VT → Option (Int32 × VT))) : Option (Int32 × VT) := ob_I (ra V ) fun y2 V3 => if y2 = 0 then (zo_ (0 : Int32) (some ((0 : Int32), V3))) else (ob_R (it_ (iX10_readAllOf_L9 ra) FV V3) fun x17 => some x17)
set_option maxHeartbeats 4000000 in
set_option maxRecDepth 100000 in
theorem wX10_readAllOf_L9 {p : Program} {l : Launch} {e : Env} {s : State} {m : MethodId} {args : Array Value} {below : List Frame} {meth : Method} {c : Code} {G : GT} {Z : Nat → Nat × Nat} {Q : State → Prop} (E : En p s m args c meth cX10_readAllOf 1 RX10 (some .boolean) G (SG Z)) {ra : (VT → Option (Int32 × VT))} {dA : Nat} (hs_ra : ∀ (V : VT) (r : Int32 × VT), ra V = some r → CI l G (SG Z) yX10_readAtom (.code yX10_readAtom cX10_readAtom 2 (some .boolean)) dA [.ref (G.2.2 22)] V r.1 r.2) {x : (Int32 × VT)} (kr : ∀ q : (Int32 × VT), x = q → Q = MQ below (QI G s.heap.size q.1 q.2) args s 0 0 (gA G s.heap.size)) : ∀ (n : Nat) (q : VT), it_ (iX10_readAllOf_L9 ra) n q = some x → ∀ (H : Heap) (locs : List Loc) (ls : Array Slot), HW G s.heap q H locs → lv_has ls 1 [(0, .ref (G.2.2 22))] → W p l e (rmD (dA + 7)) s m args below meth c H locs 0 0 Q (F0 m 9 ls []) := by
  have hx := en_x E
  have hb := en_b E
  have hB := en_B E
  refine it_W (fun q : VT => ∀ (H : Heap) (locs : List Loc) (ls : Array Slot), HW G s.heap q H locs → lv_has ls 1 [(0, .ref (G.2.2 22))] → W p l e (rmD (dA + 7)) s m args below meth c H locs 0 0 Q (F0 m 9 ls [])) x ?_
  intro q r h kc kx
  obtain ⟨V, rfl⟩ : ∃ z, z = q := ⟨_, rfl⟩
  intro H locs ls hw hl
  have h : fX10_readAllOf_L9 V ra = some r := h
  have hw : HW G s.heap V H locs := hw
  have hl : lv_has ls 1 [(0, .ref (G.2.2 22))] := hl
  have kr : ∀ q : (Int32 × VT), r = .inr (q) → Q = MQ below (QI G s.heap.size q.1 q.2) args s 0 0 (gA G s.heap.size) := fun q e => kr q (kx _ e).symm
  unfold fX10_readAllOf_L9 at h
  refine lv_aload_n hx hb dX10_readAllOf_9 rfl (lv_at hl 0 rfl) ?_
  refine r_ls (w := 60) E (by decide) rfl rfl dX10_readAllOf_10 ?_
  obtain ⟨y5, V6, h4, h⟩ := ob_I_some h
  refine c_VI E hw (kX10_passes (l := l) (G := G) (Z := Z) (by decide) h4) yy_X10_passes lm_RX10_136 rfl (by decide) rfl rfl hl.1 (by omega) (by decide) rfl (Nat.le_of_ble_eq_true rfl) dX10_readAllOf_12 (fun H locs hw => ?_)
  refine lv_if_eq (tgt := 37) hx hb dX10_readAllOf_15 (by decide) (fun c15 => ?_) (fun c15 => ?_)
  · rw [if_pos c15] at h
    refine lv_iconst (v := (1 : Int32)) hx hb dX10_readAllOf_37 (by decide) ?_
    obtain ⟨z7, h⟩ := zo_some h
    rw [kr ((1 : Int32), V6) (Option.some.inj h).symm]
    exact r_rz E hw z7 dX10_readAllOf_38
  · rw [if_neg c15] at h
    refine lv_aload_n hx hb dX10_readAllOf_18 rfl (lv_at hl 0 rfl) ?_
    obtain ⟨y9, V10, h8, h⟩ := ob_I_some h
    refine c_VI E hw (hs_ra _ _ h8) yy_X10_readAtom lm_RX10_194 rfl (by decide) rfl rfl hl.1 (by omega) (by decide) rfl (Nat.le_of_ble_eq_true rfl) dX10_readAllOf_19 (fun H locs hw => ?_)
    refine lv_if_ne (tgt := 27) hx hb dX10_readAllOf_22 (by decide) (fun c14 => ?_) (fun c14 => ?_)
    · rw [if_neg c14] at h
      refine lv_aload_n hx hb dX10_readAllOf_27 rfl (lv_at hl 0 rfl) ?_
      refine lv_bipush (v := (14 : Int32)) hx hb dX10_readAllOf_28 (by decide) ?_
      refine lv_iconst (v := (0 : Int32)) hx hb dX10_readAllOf_30 (by decide) ?_
      obtain ⟨V12, h11, h⟩ := ob_R_some h
      refine c_VV E hw (kX10_emits (l := l) (G := G) hB  h11) yy_X10_emits lm_RX10_163 rfl (by decide) rfl rfl hl.1 (by omega) (by decide) rfl (Nat.le_of_ble_eq_true rfl) dX10_readAllOf_31 (fun H locs hw => ?_)
      refine lv_goto (tgt := 9) hx hb dX10_readAllOf_34 (by decide) ?_
      exact kc V12 (Option.some.inj h).symm H locs ls hw (lv_sub hl [0] rfl)
    · rw [if_pos c14] at h
      refine lv_iconst (v := (0 : Int32)) hx hb dX10_readAllOf_25 (by decide) ?_
      obtain ⟨z13, h⟩ := zo_some h
      rw [kr ((0 : Int32), V10) (Option.some.inj h).symm]
      exact r_rz E hw z13 dX10_readAllOf_26
set_option maxHeartbeats 4000000 in
set_option maxRecDepth 100000 in
theorem kX10_readAllOf {l : Launch} {G : GT} {Z : Nat → Nat × Nat} {V : VT} {ra : (VT → Option (Int32 × VT))} {dA : Nat} (hs_ra : ∀ (V : VT) (r : Int32 × VT), ra V = some r → CI l G (SG Z) yX10_readAtom (.code yX10_readAtom cX10_readAtom 2 (some .boolean)) dA [.ref (G.2.2 22)] V r.1 r.2) {r : (Int32 × VT)} (h : fX10_readAllOf V ra = some r) : CI l G (SG Z) yX10_readAllOf (.code yX10_readAllOf cX10_readAllOf 1 (some .boolean)) (dA + 7) [.ref (G.2.2 22)] V r.1 r.2 := by
  intro sz
  refine met_of (Qs := fun sz => QI G sz (r.1) (r.2)) (SG_ok Z) (by decide) (Nat.le_of_ble_eq_true rfl) ?_ sz
  intro p e s m args below meth c ls E hw hl
  have hx := en_x E
  have hb := en_b E
  have hB := en_B E
  generalize hQ : MQ _ _ _ _ _ _ _ = Q
  have kr : Q = MQ below (QI G s.heap.size r.1 r.2) args s 0 0 (gA G s.heap.size) := hQ.symm
  have hl : lv_has ls 1 [(0, .ref (G.2.2 22))] := hl
  obtain ⟨H, eH⟩ : ∃ H, H = s.heap := ⟨_, rfl⟩
  obtain ⟨locs, elocs⟩ : ∃ z : List Loc, z = [] := ⟨_, rfl⟩
  have hw : HW G s.heap V H locs := by rw [eH, elocs]; exact hw
  show W p l e _ s m args below meth c s.heap [] 0 0 Q (F0 m 0 ls [])
  rw [← eH, ← elocs]
  unfold fX10_readAllOf at h
  refine lv_aload_n hx hb dX10_readAllOf_0 rfl (lv_at hl 0 rfl) ?_
  obtain ⟨y2, V3, h1, h⟩ := ob_I_some h
  refine c_VI E hw (hs_ra _ _ h1) yy_X10_readAtom lm_RX10_194 rfl (by decide) rfl rfl hl.1 (by omega) (by decide) rfl (Nat.le_of_ble_eq_true rfl) dX10_readAllOf_1 (fun H locs hw => ?_)
  refine lv_if_ne (tgt := 9) hx hb dX10_readAllOf_4 (by decide) (fun c19 => ?_) (fun c19 => ?_)
  · rw [if_neg c19] at h
    obtain ⟨x17, h16, h⟩ := ob_R_some h
    have h := Option.some.inj h
    subst h
    exact wX10_readAllOf_L9 E hs_ra (fun q e => by subst e; exact kr) FV V3 h16 H locs ls hw (lv_sub hl [0] rfl)
  · rw [if_pos c19] at h
    refine lv_iconst (v := (0 : Int32)) hx hb dX10_readAllOf_7 (by decide) ?_
    obtain ⟨z18, h⟩ := zo_some h
    have h := Option.some.inj h
    subst h
    rw [kr]
    exact r_rz E hw z18 dX10_readAllOf_8
/-! ===== AllSawItModel.readCond()Z ===== -/
theorem dX10_readCond_0 : decode cX10_readCond 0 = .ok (.aload_n 0, 1) := by decide +kernel
theorem dX10_readCond_1 : decode cX10_readCond 1 = .ok (.invokevirtual 205, 3) := by decide +kernel
theorem dX10_readCond_4 : decode cX10_readCond 4 = .ok (.ifCond .ne 5, 3) := by decide +kernel
theorem dX10_readCond_7 : decode cX10_readCond 7 = .ok (.iconst 0, 1) := by decide +kernel
theorem dX10_readCond_8 : decode cX10_readCond 8 = .ok (.ireturn, 1) := by decide +kernel
theorem dX10_readCond_9 : decode cX10_readCond 9 = .ok (.aload_n 0, 1) := by decide +kernel
theorem dX10_readCond_10 : decode cX10_readCond 10 = .ok (.ldc 208, 2) := by decide +kernel
theorem dX10_readCond_12 : decode cX10_readCond 12 = .ok (.invokevirtual 136, 3) := by decide +kernel
theorem dX10_readCond_15 : decode cX10_readCond 15 = .ok (.ifCond .eq 22, 3) := by decide +kernel
theorem dX10_readCond_18 : decode cX10_readCond 18 = .ok (.aload_n 0, 1) := by decide +kernel
theorem dX10_readCond_19 : decode cX10_readCond 19 = .ok (.invokevirtual 205, 3) := by decide +kernel
theorem dX10_readCond_22 : decode cX10_readCond 22 = .ok (.ifCond .ne 5, 3) := by decide +kernel
theorem dX10_readCond_25 : decode cX10_readCond 25 = .ok (.iconst 0, 1) := by decide +kernel
theorem dX10_readCond_26 : decode cX10_readCond 26 = .ok (.ireturn, 1) := by decide +kernel
theorem dX10_readCond_27 : decode cX10_readCond 27 = .ok (.aload_n 0, 1) := by decide +kernel
theorem dX10_readCond_28 : decode cX10_readCond 28 = .ok (.bipush 15, 2) := by decide +kernel
theorem dX10_readCond_30 : decode cX10_readCond 30 = .ok (.iconst 0, 1) := by decide +kernel
theorem dX10_readCond_31 : decode cX10_readCond 31 = .ok (.invokevirtual 163, 3) := by decide +kernel
theorem dX10_readCond_34 : decode cX10_readCond 34 = .ok (.goto (-25), 3) := by decide +kernel
theorem dX10_readCond_37 : decode cX10_readCond 37 = .ok (.iconst 1, 1) := by decide +kernel
theorem dX10_readCond_38 : decode cX10_readCond 38 = .ok (.ireturn, 1) := by decide +kernel
noncomputable def fX10_readCond_L9 (V : VT) (ra : (VT → Option (Int32 × VT))) : Option (VT ⊕ (Int32 × VT)) := ob_I (fX10_passes V 61) fun y5 V6 => if y5 = 0 then (zo_ (1 : Int32) (some (.inr (((1 : Int32), V6))))) else (ob_I (fX10_readAllOf V6 ra) fun y9 V10 => if y9 = 0 then (zo_ (0 : Int32) (some (.inr (((0 : Int32), V10))))) else (ob_R (fX10_emits V10 (15 : Int32) (0 : Int32)) fun V12 => some (.inl V12)))
noncomputable def iX10_readCond_L9 (ra : (VT → Option (Int32 × VT))) : VT → Option (VT ⊕ (Int32 × VT)) := fun q => fX10_readCond_L9 (q) ra
noncomputable def fX10_readCond (V : VT) (ra : (VT → Option (Int32 × VT))) : Option (Int32 × VT) := ob_I (fX10_readAllOf V ra) fun y2 V3 => if y2 = 0 then (zo_ (0 : Int32) (some ((0 : Int32), V3))) else (ob_R (it_ (iX10_readCond_L9 ra) FV V3) fun x17 => some x17)
set_option maxHeartbeats 4000000 in
set_option maxRecDepth 100000 in
theorem wX10_readCond_L9 {p : Program} {l : Launch} {e : Env} {s : State} {m : MethodId} {args : Array Value} {below : List Frame} {meth : Method} {c : Code} {G : GT} {Z : Nat → Nat × Nat} {Q : State → Prop} (E : En p s m args c meth cX10_readCond 1 RX10 (some .boolean) G (SG Z)) {ra : (VT → Option (Int32 × VT))} {dA : Nat} (hs_ra : ∀ (V : VT) (r : Int32 × VT), ra V = some r → CI l G (SG Z) yX10_readAtom (.code yX10_readAtom cX10_readAtom 2 (some .boolean)) dA [.ref (G.2.2 22)] V r.1 r.2) {x : (Int32 × VT)} (kr : ∀ q : (Int32 × VT), x = q → Q = MQ below (QI G s.heap.size q.1 q.2) args s 0 0 (gA G s.heap.size)) : ∀ (n : Nat) (q : VT), it_ (iX10_readCond_L9 ra) n q = some x → ∀ (H : Heap) (locs : List Loc) (ls : Array Slot), HW G s.heap q H locs → lv_has ls 1 [(0, .ref (G.2.2 22))] → W p l e (rmD (dA + 8)) s m args below meth c H locs 0 0 Q (F0 m 9 ls []) := by
  have hx := en_x E
  have hb := en_b E
  have hB := en_B E
  refine it_W (fun q : VT => ∀ (H : Heap) (locs : List Loc) (ls : Array Slot), HW G s.heap q H locs → lv_has ls 1 [(0, .ref (G.2.2 22))] → W p l e (rmD (dA + 8)) s m args below meth c H locs 0 0 Q (F0 m 9 ls [])) x ?_
  intro q r h kc kx
  obtain ⟨V, rfl⟩ : ∃ z, z = q := ⟨_, rfl⟩
  intro H locs ls hw hl
  have h : fX10_readCond_L9 V ra = some r := h
  have hw : HW G s.heap V H locs := hw
  have hl : lv_has ls 1 [(0, .ref (G.2.2 22))] := hl
  have kr : ∀ q : (Int32 × VT), r = .inr (q) → Q = MQ below (QI G s.heap.size q.1 q.2) args s 0 0 (gA G s.heap.size) := fun q e => kr q (kx _ e).symm
  unfold fX10_readCond_L9 at h
  refine lv_aload_n hx hb dX10_readCond_9 rfl (lv_at hl 0 rfl) ?_
  refine r_ls (w := 61) E (by decide) rfl rfl dX10_readCond_10 ?_
  obtain ⟨y5, V6, h4, h⟩ := ob_I_some h
  refine c_VI E hw (kX10_passes (l := l) (G := G) (Z := Z) (by decide) h4) yy_X10_passes lm_RX10_136 rfl (by decide) rfl rfl hl.1 (by omega) (by decide) rfl (Nat.le_of_ble_eq_true rfl) dX10_readCond_12 (fun H locs hw => ?_)
  refine lv_if_eq (tgt := 37) hx hb dX10_readCond_15 (by decide) (fun c15 => ?_) (fun c15 => ?_)
  · rw [if_pos c15] at h
    refine lv_iconst (v := (1 : Int32)) hx hb dX10_readCond_37 (by decide) ?_
    obtain ⟨z7, h⟩ := zo_some h
    rw [kr ((1 : Int32), V6) (Option.some.inj h).symm]
    exact r_rz E hw z7 dX10_readCond_38
  · rw [if_neg c15] at h
    refine lv_aload_n hx hb dX10_readCond_18 rfl (lv_at hl 0 rfl) ?_
    obtain ⟨y9, V10, h8, h⟩ := ob_I_some h
    refine c_VI E hw (kX10_readAllOf (l := l) (G := G) (Z := Z) hs_ra h8) yy_X10_readAllOf lm_RX10_205 rfl (by decide) rfl rfl hl.1 (by omega) (by decide) rfl (Nat.le_of_ble_eq_true rfl) dX10_readCond_19 (fun H locs hw => ?_)
    refine lv_if_ne (tgt := 27) hx hb dX10_readCond_22 (by decide) (fun c14 => ?_) (fun c14 => ?_)
    · rw [if_neg c14] at h
      refine lv_aload_n hx hb dX10_readCond_27 rfl (lv_at hl 0 rfl) ?_
      refine lv_bipush (v := (15 : Int32)) hx hb dX10_readCond_28 (by decide) ?_
      refine lv_iconst (v := (0 : Int32)) hx hb dX10_readCond_30 (by decide) ?_
      obtain ⟨V12, h11, h⟩ := ob_R_some h
      refine c_VV E hw (kX10_emits (l := l) (G := G) hB  h11) yy_X10_emits lm_RX10_163 rfl (by decide) rfl rfl hl.1 (by omega) (by decide) rfl (Nat.le_of_ble_eq_true rfl) dX10_readCond_31 (fun H locs hw => ?_)
      refine lv_goto (tgt := 9) hx hb dX10_readCond_34 (by decide) ?_
      exact kc V12 (Option.some.inj h).symm H locs ls hw (lv_sub hl [0] rfl)
    · rw [if_pos c14] at h
      refine lv_iconst (v := (0 : Int32)) hx hb dX10_readCond_25 (by decide) ?_
      obtain ⟨z13, h⟩ := zo_some h
      rw [kr ((0 : Int32), V10) (Option.some.inj h).symm]
      exact r_rz E hw z13 dX10_readCond_26
set_option maxHeartbeats 4000000 in
set_option maxRecDepth 100000 in
theorem kX10_readCond {l : Launch} {G : GT} {Z : Nat → Nat × Nat} {V : VT} {ra : (VT → Option (Int32 × VT))} {dA : Nat} (hs_ra : ∀ (V : VT) (r : Int32 × VT), ra V = some r → CI l G (SG Z) yX10_readAtom (.code yX10_readAtom cX10_readAtom 2 (some .boolean)) dA [.ref (G.2.2 22)] V r.1 r.2) {r : (Int32 × VT)} (h : fX10_readCond V ra = some r) : CI l G (SG Z) yX10_readCond (.code yX10_readCond cX10_readCond 1 (some .boolean)) (dA + 8) [.ref (G.2.2 22)] V r.1 r.2 := by
  intro sz
  refine met_of (Qs := fun sz => QI G sz (r.1) (r.2)) (SG_ok Z) (by decide) (Nat.le_of_ble_eq_true rfl) ?_ sz
  intro p e s m args below meth c ls E hw hl
  have hx := en_x E
  have hb := en_b E
  have hB := en_B E
  generalize hQ : MQ _ _ _ _ _ _ _ = Q
  have kr : Q = MQ below (QI G s.heap.size r.1 r.2) args s 0 0 (gA G s.heap.size) := hQ.symm
  have hl : lv_has ls 1 [(0, .ref (G.2.2 22))] := hl
  obtain ⟨H, eH⟩ : ∃ H, H = s.heap := ⟨_, rfl⟩
  obtain ⟨locs, elocs⟩ : ∃ z : List Loc, z = [] := ⟨_, rfl⟩
  have hw : HW G s.heap V H locs := by rw [eH, elocs]; exact hw
  show W p l e _ s m args below meth c s.heap [] 0 0 Q (F0 m 0 ls [])
  rw [← eH, ← elocs]
  unfold fX10_readCond at h
  refine lv_aload_n hx hb dX10_readCond_0 rfl (lv_at hl 0 rfl) ?_
  obtain ⟨y2, V3, h1, h⟩ := ob_I_some h
  refine c_VI E hw (kX10_readAllOf (l := l) (G := G) (Z := Z) hs_ra h1) yy_X10_readAllOf lm_RX10_205 rfl (by decide) rfl rfl hl.1 (by omega) (by decide) rfl (Nat.le_of_ble_eq_true rfl) dX10_readCond_1 (fun H locs hw => ?_)
  refine lv_if_ne (tgt := 9) hx hb dX10_readCond_4 (by decide) (fun c19 => ?_) (fun c19 => ?_)
  · rw [if_neg c19] at h
    obtain ⟨x17, h16, h⟩ := ob_R_some h
    have h := Option.some.inj h
    subst h
    exact wX10_readCond_L9 E hs_ra (fun q e => by subst e; exact kr) FV V3 h16 H locs ls hw (lv_sub hl [0] rfl)
  · rw [if_pos c19] at h
    refine lv_iconst (v := (0 : Int32)) hx hb dX10_readCond_7 (by decide) ?_
    obtain ⟨z18, h⟩ := zo_some h
    have h := Option.some.inj h
    subst h
    rw [kr]
    exact r_rz E hw z18 dX10_readCond_8
/-! ===== AllSawItModel.readAtom()Z ===== -/
theorem dX10_readAtom_0 : decode cX10_readAtom 0 = .ok (.aload_n 0, 1) := by decide +kernel
theorem dX10_readAtom_1 : decode cX10_readAtom 1 = .ok (.bipush 40, 2) := by decide +kernel
theorem dX10_readAtom_3 : decode cX10_readAtom 3 = .ok (.invokevirtual 180, 3) := by decide +kernel
theorem dX10_readAtom_6 : decode cX10_readAtom 6 = .ok (.ifCond .eq 50, 3) := by decide +kernel
theorem dX10_readAtom_9 : decode cX10_readAtom 9 = .ok (.aload_n 0, 1) := by decide +kernel
theorem dX10_readAtom_10 : decode cX10_readAtom 10 = .ok (.getfield 186, 3) := by decide +kernel
theorem dX10_readAtom_13 : decode cX10_readAtom 13 = .ok (.bipush 6, 2) := by decide +kernel
theorem dX10_readAtom_15 : decode cX10_readAtom 15 = .ok (.if_icmp .ne 5, 3) := by decide +kernel
theorem dX10_readAtom_18 : decode cX10_readAtom 18 = .ok (.iconst 0, 1) := by decide +kernel
theorem dX10_readAtom_19 : decode cX10_readAtom 19 = .ok (.ireturn, 1) := by decide +kernel
theorem dX10_readAtom_20 : decode cX10_readAtom 20 = .ok (.aload_n 0, 1) := by decide +kernel
theorem dX10_readAtom_21 : decode cX10_readAtom 21 = .ok (.dup, 1) := by decide +kernel
theorem dX10_readAtom_22 : decode cX10_readAtom 22 = .ok (.getfield 186, 3) := by decide +kernel
theorem dX10_readAtom_25 : decode cX10_readAtom 25 = .ok (.iconst 1, 1) := by decide +kernel
theorem dX10_readAtom_26 : decode cX10_readAtom 26 = .ok (.iadd, 1) := by decide +kernel
theorem dX10_readAtom_27 : decode cX10_readAtom 27 = .ok (.putfield 186, 3) := by decide +kernel
theorem dX10_readAtom_30 : decode cX10_readAtom 30 = .ok (.aload_n 0, 1) := by decide +kernel
theorem dX10_readAtom_31 : decode cX10_readAtom 31 = .ok (.invokevirtual 189, 3) := by decide +kernel
theorem dX10_readAtom_34 : decode cX10_readAtom 34 = .ok (.ifCond .ne 5, 3) := by decide +kernel
theorem dX10_readAtom_37 : decode cX10_readAtom 37 = .ok (.iconst 0, 1) := by decide +kernel
theorem dX10_readAtom_38 : decode cX10_readAtom 38 = .ok (.ireturn, 1) := by decide +kernel
theorem dX10_readAtom_39 : decode cX10_readAtom 39 = .ok (.aload_n 0, 1) := by decide +kernel
theorem dX10_readAtom_40 : decode cX10_readAtom 40 = .ok (.dup, 1) := by decide +kernel
theorem dX10_readAtom_41 : decode cX10_readAtom 41 = .ok (.getfield 186, 3) := by decide +kernel
theorem dX10_readAtom_44 : decode cX10_readAtom 44 = .ok (.iconst 1, 1) := by decide +kernel
theorem dX10_readAtom_45 : decode cX10_readAtom 45 = .ok (.isub, 1) := by decide +kernel
theorem dX10_readAtom_46 : decode cX10_readAtom 46 = .ok (.putfield 186, 3) := by decide +kernel
theorem dX10_readAtom_49 : decode cX10_readAtom 49 = .ok (.aload_n 0, 1) := by decide +kernel
theorem dX10_readAtom_50 : decode cX10_readAtom 50 = .ok (.bipush 41, 2) := by decide +kernel
theorem dX10_readAtom_52 : decode cX10_readAtom 52 = .ok (.invokevirtual 180, 3) := by decide +kernel
theorem dX10_readAtom_55 : decode cX10_readAtom 55 = .ok (.ireturn, 1) := by decide +kernel
theorem dX10_readAtom_56 : decode cX10_readAtom 56 = .ok (.aload_n 0, 1) := by decide +kernel
theorem dX10_readAtom_57 : decode cX10_readAtom 57 = .ok (.ldc 192, 2) := by decide +kernel
theorem dX10_readAtom_59 : decode cX10_readAtom 59 = .ok (.invokevirtual 136, 3) := by decide +kernel
theorem dX10_readAtom_62 : decode cX10_readAtom 62 = .ok (.ifCond .eq 52, 3) := by decide +kernel
theorem dX10_readAtom_65 : decode cX10_readAtom 65 = .ok (.aload_n 0, 1) := by decide +kernel
theorem dX10_readAtom_66 : decode cX10_readAtom 66 = .ok (.getfield 186, 3) := by decide +kernel
theorem dX10_readAtom_69 : decode cX10_readAtom 69 = .ok (.bipush 6, 2) := by decide +kernel
theorem dX10_readAtom_71 : decode cX10_readAtom 71 = .ok (.if_icmp .ne 5, 3) := by decide +kernel
theorem dX10_readAtom_74 : decode cX10_readAtom 74 = .ok (.iconst 0, 1) := by decide +kernel
theorem dX10_readAtom_75 : decode cX10_readAtom 75 = .ok (.ireturn, 1) := by decide +kernel
theorem dX10_readAtom_76 : decode cX10_readAtom 76 = .ok (.aload_n 0, 1) := by decide +kernel
theorem dX10_readAtom_77 : decode cX10_readAtom 77 = .ok (.dup, 1) := by decide +kernel
theorem dX10_readAtom_78 : decode cX10_readAtom 78 = .ok (.getfield 186, 3) := by decide +kernel
theorem dX10_readAtom_81 : decode cX10_readAtom 81 = .ok (.iconst 1, 1) := by decide +kernel
theorem dX10_readAtom_82 : decode cX10_readAtom 82 = .ok (.iadd, 1) := by decide +kernel
theorem dX10_readAtom_83 : decode cX10_readAtom 83 = .ok (.putfield 186, 3) := by decide +kernel
theorem dX10_readAtom_86 : decode cX10_readAtom 86 = .ok (.aload_n 0, 1) := by decide +kernel
theorem dX10_readAtom_87 : decode cX10_readAtom 87 = .ok (.invokevirtual 194, 3) := by decide +kernel
theorem dX10_readAtom_90 : decode cX10_readAtom 90 = .ok (.ifCond .ne 5, 3) := by decide +kernel
theorem dX10_readAtom_93 : decode cX10_readAtom 93 = .ok (.iconst 0, 1) := by decide +kernel
theorem dX10_readAtom_94 : decode cX10_readAtom 94 = .ok (.ireturn, 1) := by decide +kernel
theorem dX10_readAtom_95 : decode cX10_readAtom 95 = .ok (.aload_n 0, 1) := by decide +kernel
theorem dX10_readAtom_96 : decode cX10_readAtom 96 = .ok (.dup, 1) := by decide +kernel
theorem dX10_readAtom_97 : decode cX10_readAtom 97 = .ok (.getfield 186, 3) := by decide +kernel
theorem dX10_readAtom_100 : decode cX10_readAtom 100 = .ok (.iconst 1, 1) := by decide +kernel
theorem dX10_readAtom_101 : decode cX10_readAtom 101 = .ok (.isub, 1) := by decide +kernel
theorem dX10_readAtom_102 : decode cX10_readAtom 102 = .ok (.putfield 186, 3) := by decide +kernel
theorem dX10_readAtom_105 : decode cX10_readAtom 105 = .ok (.aload_n 0, 1) := by decide +kernel
theorem dX10_readAtom_106 : decode cX10_readAtom 106 = .ok (.bipush 13, 2) := by decide +kernel
theorem dX10_readAtom_108 : decode cX10_readAtom 108 = .ok (.iconst 0, 1) := by decide +kernel
theorem dX10_readAtom_109 : decode cX10_readAtom 109 = .ok (.invokevirtual 163, 3) := by decide +kernel
theorem dX10_readAtom_112 : decode cX10_readAtom 112 = .ok (.iconst 1, 1) := by decide +kernel
theorem dX10_readAtom_113 : decode cX10_readAtom 113 = .ok (.ireturn, 1) := by decide +kernel
theorem dX10_readAtom_114 : decode cX10_readAtom 114 = .ok (.aload_n 0, 1) := by decide +kernel
theorem dX10_readAtom_115 : decode cX10_readAtom 115 = .ok (.invokevirtual 197, 3) := by decide +kernel
theorem dX10_readAtom_118 : decode cX10_readAtom 118 = .ok (.ifCond .eq 5, 3) := by decide +kernel
theorem dX10_readAtom_121 : decode cX10_readAtom 121 = .ok (.iconst 1, 1) := by decide +kernel
theorem dX10_readAtom_122 : decode cX10_readAtom 122 = .ok (.ireturn, 1) := by decide +kernel
theorem dX10_readAtom_123 : decode cX10_readAtom 123 = .ok (.aload_n 0, 1) := by decide +kernel
theorem dX10_readAtom_124 : decode cX10_readAtom 124 = .ok (.invokevirtual 200, 3) := by decide +kernel
theorem dX10_readAtom_127 : decode cX10_readAtom 127 = .ok (.ifCond .ne 5, 3) := by decide +kernel
theorem dX10_readAtom_130 : decode cX10_readAtom 130 = .ok (.iconst 0, 1) := by decide +kernel
theorem dX10_readAtom_131 : decode cX10_readAtom 131 = .ok (.ireturn, 1) := by decide +kernel
theorem dX10_readAtom_132 : decode cX10_readAtom 132 = .ok (.aload_n 0, 1) := by decide +kernel
theorem dX10_readAtom_133 : decode cX10_readAtom 133 = .ok (.bipush 60, 2) := by decide +kernel
theorem dX10_readAtom_135 : decode cX10_readAtom 135 = .ok (.invokevirtual 180, 3) := by decide +kernel
theorem dX10_readAtom_138 : decode cX10_readAtom 138 = .ok (.istore_n 1, 1) := by decide +kernel
theorem dX10_readAtom_139 : decode cX10_readAtom 139 = .ok (.iload_n 1, 1) := by decide +kernel
theorem dX10_readAtom_140 : decode cX10_readAtom 140 = .ok (.ifCond .ne 12, 3) := by decide +kernel
theorem dX10_readAtom_143 : decode cX10_readAtom 143 = .ok (.aload_n 0, 1) := by decide +kernel
theorem dX10_readAtom_144 : decode cX10_readAtom 144 = .ok (.bipush 62, 2) := by decide +kernel
theorem dX10_readAtom_146 : decode cX10_readAtom 146 = .ok (.invokevirtual 180, 3) := by decide +kernel
theorem dX10_readAtom_149 : decode cX10_readAtom 149 = .ok (.ifCond .eq 10, 3) := by decide +kernel
theorem dX10_readAtom_152 : decode cX10_readAtom 152 = .ok (.aload_n 0, 1) := by decide +kernel
theorem dX10_readAtom_153 : decode cX10_readAtom 153 = .ok (.invokevirtual 200, 3) := by decide +kernel
theorem dX10_readAtom_156 : decode cX10_readAtom 156 = .ok (.ifCond .ne 5, 3) := by decide +kernel
theorem dX10_readAtom_159 : decode cX10_readAtom 159 = .ok (.iconst 0, 1) := by decide +kernel
theorem dX10_readAtom_160 : decode cX10_readAtom 160 = .ok (.ireturn, 1) := by decide +kernel
theorem dX10_readAtom_161 : decode cX10_readAtom 161 = .ok (.aload_n 0, 1) := by decide +kernel
theorem dX10_readAtom_162 : decode cX10_readAtom 162 = .ok (.iload_n 1, 1) := by decide +kernel
theorem dX10_readAtom_163 : decode cX10_readAtom 163 = .ok (.ifCond .eq 8, 3) := by decide +kernel
theorem dX10_readAtom_166 : decode cX10_readAtom 166 = .ok (.bipush 11, 2) := by decide +kernel
theorem dX10_readAtom_168 : decode cX10_readAtom 168 = .ok (.goto 5, 3) := by decide +kernel
theorem dX10_readAtom_171 : decode cX10_readAtom 171 = .ok (.bipush 12, 2) := by decide +kernel
theorem dX10_readAtom_173 : decode cX10_readAtom 173 = .ok (.iconst 0, 1) := by decide +kernel
theorem dX10_readAtom_174 : decode cX10_readAtom 174 = .ok (.invokevirtual 163, 3) := by decide +kernel
theorem dX10_readAtom_177 : decode cX10_readAtom 177 = .ok (.iconst 1, 1) := by decide +kernel
theorem dX10_readAtom_178 : decode cX10_readAtom 178 = .ok (.ireturn, 1) := by decide +kernel
noncomputable def fX10_readAtom_j152 (V : VT) (ra : (VT → Option (Int32 × VT))) (u1 : Int32) : Option (Int32 × VT) := ob_I (fX10_readSum V ) fun y17 V18 => if y17 = 0 then (zo_ (0 : Int32) (some ((0 : Int32), V18))) else (if u1 = 0 then (ob_R (fX10_emits V18 (12 : Int32) (0 : Int32)) fun V20 => zo_ (1 : Int32) (some ((1 : Int32), V20))) else (ob_R (fX10_emits V18 (11 : Int32) (0 : Int32)) fun V23 => zo_ (1 : Int32) (some ((1 : Int32), V23))))
noncomputable def fX10_readAtom (V : VT) (ra : (VT → Option (Int32 × VT))) : Option (Int32 × VT) := ob_I (fX10_sign V (40 : Int32)) fun y2 V3 => if y2 = 0 then (ob_I (fX10_passes V3 59) fun y5 V6 => if y5 = 0 then (ob_I (fX10_readTag V6 ) fun y8 V9 => if y8 = 0 then (ob_I (fX10_readSum V9 ) fun y11 V12 => if y11 = 0 then (zo_ (0 : Int32) (some ((0 : Int32), V12))) else (ob_I (fX10_sign V12 (60 : Int32)) fun y14 V15 => if y14 = 0 then (ob_I (fX10_sign V15 (62 : Int32)) fun y29 V30 => if y29 = 0 then (zo_ (0 : Int32) (some ((0 : Int32), V30))) else (fX10_readAtom_j152 V30 ra y14)) else (fX10_readAtom_j152 V15 ra y14))) else (zo_ (1 : Int32) (some ((1 : Int32), V9)))) else (if (V6 22 13) = (6 : Int32) then (zo_ (0 : Int32) (some ((0 : Int32), V6))) else (lt_ (va_up V6 22 (upd (V6 22) 13 ((V6 22 13) + (1 : Int32)))) fun V38 => ob_I (ra V38 ) fun y40 V41 => if y40 = 0 then (zo_ (0 : Int32) (some ((0 : Int32), V41))) else (lt_ (va_up V41 22 (upd (V41 22) 13 ((V41 22 13) - (1 : Int32)))) fun V42 => ob_R (fX10_emits V42 (13 : Int32) (0 : Int32)) fun V44 => zo_ (1 : Int32) (some ((1 : Int32), V44)))))) else (if (V3 22 13) = (6 : Int32) then (zo_ (0 : Int32) (some ((0 : Int32), V3))) else (lt_ (va_up V3 22 (upd (V3 22) 13 ((V3 22 13) + (1 : Int32)))) fun V51 => ob_I (fX10_readCond V51 ra) fun y53 V54 => if y53 = 0 then (zo_ (0 : Int32) (some ((0 : Int32), V54))) else (lt_ (va_up V54 22 (upd (V54 22) 13 ((V54 22 13) - (1 : Int32)))) fun V55 => ob_I (fX10_sign V55 (41 : Int32)) fun y57 V58 => zo_ y57 (some (y57, V58)))))
set_option maxHeartbeats 4000000 in
set_option maxRecDepth 100000 in
theorem wX10_readAtom_j152 {p : Program} {l : Launch} {e : Env} {s : State} {m : MethodId} {args : Array Value} {below : List Frame} {meth : Method} {c : Code} {G : GT} {Z : Nat → Nat × Nat} {Q : State → Prop} (E : En p s m args c meth cX10_readAtom 2 RX10 (some .boolean) G (SG Z)) {ra : (VT → Option (Int32 × VT))} {dA : Nat} (hs_ra : ∀ (V : VT) (r : Int32 × VT), ra V = some r → CI l G (SG Z) yX10_readAtom (.code yX10_readAtom cX10_readAtom 2 (some .boolean)) dA [.ref (G.2.2 22)] V r.1 r.2) {V : VT} {u1 : Int32} {r : (Int32 × VT)} (h : fX10_readAtom_j152 V ra u1 = some r) (kr : Q = MQ below (QI G s.heap.size r.1 r.2) args s 0 0 (gA G s.heap.size)) {H : Heap} {locs : List Loc} {ls : Array Slot} (hw : HW G s.heap V H locs) (hl : lv_has ls 2 [(0, .ref (G.2.2 22)), (1, .int u1)]) : W p l e (rmD (dA + 9)) s m args below meth c H locs 0 0 Q (F0 m 152 ls []) := by
  have hx := en_x E
  have hb := en_b E
  have hB := en_B E
  unfold fX10_readAtom_j152 at h
  refine lv_aload_n hx hb dX10_readAtom_152 rfl (lv_at hl 0 rfl) ?_
  obtain ⟨y17, V18, h16, h⟩ := ob_I_some h
  refine c_VI E hw (kX10_readSum (l := l) (G := G) (Z := Z)  h16) yy_X10_readSum lm_RX10_200 rfl (by decide) rfl rfl hl.1 (by omega) (by decide) rfl (Nat.le_of_ble_eq_true rfl) dX10_readAtom_153 (fun H locs hw => ?_)
  refine lv_if_ne (tgt := 161) hx hb dX10_readAtom_156 (by decide) (fun c27 => ?_) (fun c27 => ?_)
  · rw [if_neg c27] at h
    refine lv_aload_n hx hb dX10_readAtom_161 rfl (lv_at hl 0 rfl) ?_
    refine lv_iload_n hx hb dX10_readAtom_162 rfl (lv_at hl 1 rfl) ?_
    refine lv_if_eq (tgt := 171) hx hb dX10_readAtom_163 (by decide) (fun c25 => ?_) (fun c25 => ?_)
    · rw [if_pos c25] at h
      refine lv_bipush (v := (12 : Int32)) hx hb dX10_readAtom_171 (by decide) ?_
      refine lv_iconst (v := (0 : Int32)) hx hb dX10_readAtom_173 (by decide) ?_
      obtain ⟨V20, h19, h⟩ := ob_R_some h
      refine c_VV E hw (kX10_emits (l := l) (G := G) hB  h19) yy_X10_emits lm_RX10_163 rfl (by decide) rfl rfl hl.1 (by omega) (by decide) rfl (Nat.le_of_ble_eq_true rfl) dX10_readAtom_174 (fun H locs hw => ?_)
      refine lv_iconst (v := (1 : Int32)) hx hb dX10_readAtom_177 (by decide) ?_
      obtain ⟨z21, h⟩ := zo_some h
      have h := Option.some.inj h
      subst h
      rw [kr]
      exact r_rz E hw z21 dX10_readAtom_178
    · rw [if_neg c25] at h
      refine lv_bipush (v := (11 : Int32)) hx hb dX10_readAtom_166 (by decide) ?_
      refine lv_goto (tgt := 173) hx hb dX10_readAtom_168 (by decide) ?_
      refine lv_iconst (v := (0 : Int32)) hx hb dX10_readAtom_173 (by decide) ?_
      obtain ⟨V23, h22, h⟩ := ob_R_some h
      refine c_VV E hw (kX10_emits (l := l) (G := G) hB  h22) yy_X10_emits lm_RX10_163 rfl (by decide) rfl rfl hl.1 (by omega) (by decide) rfl (Nat.le_of_ble_eq_true rfl) dX10_readAtom_174 (fun H locs hw => ?_)
      refine lv_iconst (v := (1 : Int32)) hx hb dX10_readAtom_177 (by decide) ?_
      obtain ⟨z24, h⟩ := zo_some h
      have h := Option.some.inj h
      subst h
      rw [kr]
      exact r_rz E hw z24 dX10_readAtom_178
  · rw [if_pos c27] at h
    refine lv_iconst (v := (0 : Int32)) hx hb dX10_readAtom_159 (by decide) ?_
    obtain ⟨z26, h⟩ := zo_some h
    have h := Option.some.inj h
    subst h
    rw [kr]
    exact r_rz E hw z26 dX10_readAtom_160
set_option maxHeartbeats 4000000 in
set_option maxRecDepth 100000 in
theorem kX10_readAtom {l : Launch} {G : GT} {Z : Nat → Nat × Nat} {V : VT} {ra : (VT → Option (Int32 × VT))} {dA : Nat} (hs_ra : ∀ (V : VT) (r : Int32 × VT), ra V = some r → CI l G (SG Z) yX10_readAtom (.code yX10_readAtom cX10_readAtom 2 (some .boolean)) dA [.ref (G.2.2 22)] V r.1 r.2) {r : (Int32 × VT)} (h : fX10_readAtom V ra = some r) : CI l G (SG Z) yX10_readAtom (.code yX10_readAtom cX10_readAtom 2 (some .boolean)) (dA + 9) [.ref (G.2.2 22)] V r.1 r.2 := by
  intro sz
  refine met_of (Qs := fun sz => QI G sz (r.1) (r.2)) (SG_ok Z) (by decide) (Nat.le_of_ble_eq_true rfl) ?_ sz
  intro p e s m args below meth c ls E hw hl
  have hx := en_x E
  have hb := en_b E
  have hB := en_B E
  generalize hQ : MQ _ _ _ _ _ _ _ = Q
  have kr : Q = MQ below (QI G s.heap.size r.1 r.2) args s 0 0 (gA G s.heap.size) := hQ.symm
  have hl : lv_has ls 2 [(0, .ref (G.2.2 22))] := hl
  obtain ⟨H, eH⟩ : ∃ H, H = s.heap := ⟨_, rfl⟩
  obtain ⟨locs, elocs⟩ : ∃ z : List Loc, z = [] := ⟨_, rfl⟩
  have hw : HW G s.heap V H locs := by rw [eH, elocs]; exact hw
  show W p l e _ s m args below meth c s.heap [] 0 0 Q (F0 m 0 ls [])
  rw [← eH, ← elocs]
  unfold fX10_readAtom at h
  refine lv_aload_n hx hb dX10_readAtom_0 rfl (lv_at hl 0 rfl) ?_
  refine lv_bipush (v := (40 : Int32)) hx hb dX10_readAtom_1 (by decide) ?_
  obtain ⟨y2, V3, h1, h⟩ := ob_I_some h
  refine c_VI E hw (kX10_sign (l := l) (G := G) hB  h1) yy_X10_sign lm_RX10_180 rfl (by decide) rfl rfl hl.1 (by omega) (by decide) rfl (Nat.le_of_ble_eq_true rfl) dX10_readAtom_3 (fun H locs hw => ?_)
  refine lv_if_eq (tgt := 56) hx hb dX10_readAtom_6 (by decide) (fun c64 => ?_) (fun c64 => ?_)
  · rw [if_pos c64] at h
    refine lv_aload_n hx hb dX10_readAtom_56 rfl (lv_at hl 0 rfl) ?_
    refine r_ls (w := 59) E (by decide) rfl rfl dX10_readAtom_57 ?_
    obtain ⟨y5, V6, h4, h⟩ := ob_I_some h
    refine c_VI E hw (kX10_passes (l := l) (G := G) (Z := Z) (by decide) h4) yy_X10_passes lm_RX10_136 rfl (by decide) rfl rfl hl.1 (by omega) (by decide) rfl (Nat.le_of_ble_eq_true rfl) dX10_readAtom_59 (fun H locs hw => ?_)
    refine lv_if_eq (tgt := 114) hx hb dX10_readAtom_62 (by decide) (fun c50 => ?_) (fun c50 => ?_)
    · rw [if_pos c50] at h
      refine lv_aload_n hx hb dX10_readAtom_114 rfl (lv_at hl 0 rfl) ?_
      obtain ⟨y8, V9, h7, h⟩ := ob_I_some h
      refine c_VI E hw (kX10_readTag (l := l) (G := G) (Z := Z)  h7) yy_X10_readTag lm_RX10_197 rfl (by decide) rfl rfl hl.1 (by omega) (by decide) rfl (Nat.le_of_ble_eq_true rfl) dX10_readAtom_115 (fun H locs hw => ?_)
      refine lv_if_eq (tgt := 123) hx hb dX10_readAtom_118 (by decide) (fun c37 => ?_) (fun c37 => ?_)
      · rw [if_pos c37] at h
        refine lv_aload_n hx hb dX10_readAtom_123 rfl (lv_at hl 0 rfl) ?_
        obtain ⟨y11, V12, h10, h⟩ := ob_I_some h
        refine c_VI E hw (kX10_readSum (l := l) (G := G) (Z := Z)  h10) yy_X10_readSum lm_RX10_200 rfl (by decide) rfl rfl hl.1 (by omega) (by decide) rfl (Nat.le_of_ble_eq_true rfl) dX10_readAtom_124 (fun H locs hw => ?_)
        refine lv_if_ne (tgt := 132) hx hb dX10_readAtom_127 (by decide) (fun c35 => ?_) (fun c35 => ?_)
        · rw [if_neg c35] at h
          refine lv_aload_n hx hb dX10_readAtom_132 rfl (lv_at hl 0 rfl) ?_
          refine lv_bipush (v := (60 : Int32)) hx hb dX10_readAtom_133 (by decide) ?_
          obtain ⟨y14, V15, h13, h⟩ := ob_I_some h
          refine c_VI E hw (kX10_sign (l := l) (G := G) hB  h13) yy_X10_sign lm_RX10_180 rfl (by decide) rfl rfl hl.1 (by omega) (by decide) rfl (Nat.le_of_ble_eq_true rfl) dX10_readAtom_135 (fun H locs hw => ?_)
          refine lv_istore_n (lv' := [(1, .int y14), (0, .ref (G.2.2 22))]) hx hb dX10_readAtom_138 rfl hl (by decide) rfl (fun ls hl => ?_)
          refine lv_iload_n hx hb dX10_readAtom_139 rfl (lv_at hl 0 rfl) ?_
          refine lv_if_ne (tgt := 152) hx hb dX10_readAtom_140 (by decide) (fun c33 => ?_) (fun c33 => ?_)
          · rw [if_neg c33] at h
            exact wX10_readAtom_j152 E hs_ra h kr hw (lv_sub hl [1, 0] rfl)
          · rw [if_pos c33] at h
            refine lv_aload_n hx hb dX10_readAtom_143 rfl (lv_at hl 1 rfl) ?_
            refine lv_bipush (v := (62 : Int32)) hx hb dX10_readAtom_144 (by decide) ?_
            obtain ⟨y29, V30, h28, h⟩ := ob_I_some h
            refine c_VI E hw (kX10_sign (l := l) (G := G) hB  h28) yy_X10_sign lm_RX10_180 rfl (by decide) rfl rfl hl.1 (by omega) (by decide) rfl (Nat.le_of_ble_eq_true rfl) dX10_readAtom_146 (fun H locs hw => ?_)
            refine lv_if_eq (tgt := 159) hx hb dX10_readAtom_149 (by decide) (fun c32 => ?_) (fun c32 => ?_)
            · rw [if_pos c32] at h
              refine lv_iconst (v := (0 : Int32)) hx hb dX10_readAtom_159 (by decide) ?_
              obtain ⟨z31, h⟩ := zo_some h
              have h := Option.some.inj h
              subst h
              rw [kr]
              exact r_rz E hw z31 dX10_readAtom_160
            · rw [if_neg c32] at h
              exact wX10_readAtom_j152 E hs_ra h kr hw (lv_sub hl [1, 0] rfl)
        · rw [if_pos c35] at h
          refine lv_iconst (v := (0 : Int32)) hx hb dX10_readAtom_130 (by decide) ?_
          obtain ⟨z34, h⟩ := zo_some h
          have h := Option.some.inj h
          subst h
          rw [kr]
          exact r_rz E hw z34 dX10_readAtom_131
      · rw [if_neg c37] at h
        refine lv_iconst (v := (1 : Int32)) hx hb dX10_readAtom_121 (by decide) ?_
        obtain ⟨z36, h⟩ := zo_some h
        have h := Option.some.inj h
        subst h
        rw [kr]
        exact r_rz E hw z36 dX10_readAtom_122
    · rw [if_neg c50] at h
      refine lv_aload_n hx hb dX10_readAtom_65 rfl (lv_at hl 0 rfl) ?_
      refine r_gi E hw 22 13 (N := 29) (C := RX10) (T := TX10) (by decide) rfl rfl (by decide) rfl iw_10 rfl lf_RX10_186 dX10_readAtom_66 ?_
      refine lv_bipush (v := (6 : Int32)) hx hb dX10_readAtom_69 (by decide) ?_
      refine lv_icmp_ne (tgt := 76) hx hb dX10_readAtom_71 (by decide) (fun c49 => ?_) (fun c49 => ?_)
      · rw [if_neg c49] at h
        refine lv_aload_n hx hb dX10_readAtom_76 rfl (lv_at hl 0 rfl) ?_
        refine lv_dup hx hb dX10_readAtom_77 rfl ?_
        refine r_gi E hw 22 13 (N := 29) (C := RX10) (T := TX10) (by decide) rfl rfl (by decide) rfl iw_10 rfl lf_RX10_186 dX10_readAtom_78 ?_
        refine lv_iconst (v := (1 : Int32)) hx hb dX10_readAtom_81 (by decide) ?_
        refine lv_iadd hx hb dX10_readAtom_82 ?_
        obtain ⟨V38, eV38, h⟩ := lt_some h
        refine r_pi E hw 22 13 (N := 29) (C := RX10) (T := TX10) (ty0 := tyX10) (ty := .int) (by decide) rfl rfl (by decide) rfl iw_10 rfl tyX10_ok nmX10 rfl rfl (vp_nar_int _) rfl lf_RX10_186 eV38 dX10_readAtom_83 (fun H locs hw => ?_)
        refine lv_aload_n hx hb dX10_readAtom_86 rfl (lv_at hl 0 rfl) ?_
        obtain ⟨y40, V41, h39, h⟩ := ob_I_some h
        refine c_VI E hw (hs_ra _ _ h39) yy_X10_readAtom lm_RX10_194 rfl (by decide) rfl rfl hl.1 (by omega) (by decide) rfl (Nat.le_of_ble_eq_true rfl) dX10_readAtom_87 (fun H locs hw => ?_)
        refine lv_if_ne (tgt := 95) hx hb dX10_readAtom_90 (by decide) (fun c47 => ?_) (fun c47 => ?_)
        · rw [if_neg c47] at h
          refine lv_aload_n hx hb dX10_readAtom_95 rfl (lv_at hl 0 rfl) ?_
          refine lv_dup hx hb dX10_readAtom_96 rfl ?_
          refine r_gi E hw 22 13 (N := 29) (C := RX10) (T := TX10) (by decide) rfl rfl (by decide) rfl iw_10 rfl lf_RX10_186 dX10_readAtom_97 ?_
          refine lv_iconst (v := (1 : Int32)) hx hb dX10_readAtom_100 (by decide) ?_
          refine lv_isub hx hb dX10_readAtom_101 ?_
          obtain ⟨V42, eV42, h⟩ := lt_some h
          refine r_pi E hw 22 13 (N := 29) (C := RX10) (T := TX10) (ty0 := tyX10) (ty := .int) (by decide) rfl rfl (by decide) rfl iw_10 rfl tyX10_ok nmX10 rfl rfl (vp_nar_int _) rfl lf_RX10_186 eV42 dX10_readAtom_102 (fun H locs hw => ?_)
          refine lv_aload_n hx hb dX10_readAtom_105 rfl (lv_at hl 0 rfl) ?_
          refine lv_bipush (v := (13 : Int32)) hx hb dX10_readAtom_106 (by decide) ?_
          refine lv_iconst (v := (0 : Int32)) hx hb dX10_readAtom_108 (by decide) ?_
          obtain ⟨V44, h43, h⟩ := ob_R_some h
          refine c_VV E hw (kX10_emits (l := l) (G := G) hB  h43) yy_X10_emits lm_RX10_163 rfl (by decide) rfl rfl hl.1 (by omega) (by decide) rfl (Nat.le_of_ble_eq_true rfl) dX10_readAtom_109 (fun H locs hw => ?_)
          refine lv_iconst (v := (1 : Int32)) hx hb dX10_readAtom_112 (by decide) ?_
          obtain ⟨z45, h⟩ := zo_some h
          have h := Option.some.inj h
          subst h
          rw [kr]
          exact r_rz E hw z45 dX10_readAtom_113
        · rw [if_pos c47] at h
          refine lv_iconst (v := (0 : Int32)) hx hb dX10_readAtom_93 (by decide) ?_
          obtain ⟨z46, h⟩ := zo_some h
          have h := Option.some.inj h
          subst h
          rw [kr]
          exact r_rz E hw z46 dX10_readAtom_94
      · rw [if_pos c49] at h
        refine lv_iconst (v := (0 : Int32)) hx hb dX10_readAtom_74 (by decide) ?_
        obtain ⟨z48, h⟩ := zo_some h
        have h := Option.some.inj h
        subst h
        rw [kr]
        exact r_rz E hw z48 dX10_readAtom_75
  · rw [if_neg c64] at h
    refine lv_aload_n hx hb dX10_readAtom_9 rfl (lv_at hl 0 rfl) ?_
    refine r_gi E hw 22 13 (N := 29) (C := RX10) (T := TX10) (by decide) rfl rfl (by decide) rfl iw_10 rfl lf_RX10_186 dX10_readAtom_10 ?_
    refine lv_bipush (v := (6 : Int32)) hx hb dX10_readAtom_13 (by decide) ?_
    refine lv_icmp_ne (tgt := 20) hx hb dX10_readAtom_15 (by decide) (fun c63 => ?_) (fun c63 => ?_)
    · rw [if_neg c63] at h
      refine lv_aload_n hx hb dX10_readAtom_20 rfl (lv_at hl 0 rfl) ?_
      refine lv_dup hx hb dX10_readAtom_21 rfl ?_
      refine r_gi E hw 22 13 (N := 29) (C := RX10) (T := TX10) (by decide) rfl rfl (by decide) rfl iw_10 rfl lf_RX10_186 dX10_readAtom_22 ?_
      refine lv_iconst (v := (1 : Int32)) hx hb dX10_readAtom_25 (by decide) ?_
      refine lv_iadd hx hb dX10_readAtom_26 ?_
      obtain ⟨V51, eV51, h⟩ := lt_some h
      refine r_pi E hw 22 13 (N := 29) (C := RX10) (T := TX10) (ty0 := tyX10) (ty := .int) (by decide) rfl rfl (by decide) rfl iw_10 rfl tyX10_ok nmX10 rfl rfl (vp_nar_int _) rfl lf_RX10_186 eV51 dX10_readAtom_27 (fun H locs hw => ?_)
      refine lv_aload_n hx hb dX10_readAtom_30 rfl (lv_at hl 0 rfl) ?_
      obtain ⟨y53, V54, h52, h⟩ := ob_I_some h
      refine c_VI E hw (kX10_readCond (l := l) (G := G) (Z := Z) hs_ra h52) yy_X10_readCond lm_RX10_189 rfl (by decide) rfl rfl hl.1 (by omega) (by decide) rfl (Nat.le_of_ble_eq_true rfl) dX10_readAtom_31 (fun H locs hw => ?_)
      refine lv_if_ne (tgt := 39) hx hb dX10_readAtom_34 (by decide) (fun c61 => ?_) (fun c61 => ?_)
      · rw [if_neg c61] at h
        refine lv_aload_n hx hb dX10_readAtom_39 rfl (lv_at hl 0 rfl) ?_
        refine lv_dup hx hb dX10_readAtom_40 rfl ?_
        refine r_gi E hw 22 13 (N := 29) (C := RX10) (T := TX10) (by decide) rfl rfl (by decide) rfl iw_10 rfl lf_RX10_186 dX10_readAtom_41 ?_
        refine lv_iconst (v := (1 : Int32)) hx hb dX10_readAtom_44 (by decide) ?_
        refine lv_isub hx hb dX10_readAtom_45 ?_
        obtain ⟨V55, eV55, h⟩ := lt_some h
        refine r_pi E hw 22 13 (N := 29) (C := RX10) (T := TX10) (ty0 := tyX10) (ty := .int) (by decide) rfl rfl (by decide) rfl iw_10 rfl tyX10_ok nmX10 rfl rfl (vp_nar_int _) rfl lf_RX10_186 eV55 dX10_readAtom_46 (fun H locs hw => ?_)
        refine lv_aload_n hx hb dX10_readAtom_49 rfl (lv_at hl 0 rfl) ?_
        refine lv_bipush (v := (41 : Int32)) hx hb dX10_readAtom_50 (by decide) ?_
        obtain ⟨y57, V58, h56, h⟩ := ob_I_some h
        refine c_VI E hw (kX10_sign (l := l) (G := G) hB  h56) yy_X10_sign lm_RX10_180 rfl (by decide) rfl rfl hl.1 (by omega) (by decide) rfl (Nat.le_of_ble_eq_true rfl) dX10_readAtom_52 (fun H locs hw => ?_)
        obtain ⟨z59, h⟩ := zo_some h
        have h := Option.some.inj h
        subst h
        rw [kr]
        exact r_rz E hw z59 dX10_readAtom_55
      · rw [if_pos c61] at h
        refine lv_iconst (v := (0 : Int32)) hx hb dX10_readAtom_37 (by decide) ?_
        obtain ⟨z60, h⟩ := zo_some h
        have h := Option.some.inj h
        subst h
        rw [kr]
        exact r_rz E hw z60 dX10_readAtom_38
    · rw [if_pos c63] at h
      refine lv_iconst (v := (0 : Int32)) hx hb dX10_readAtom_18 (by decide) ?_
      obtain ⟨z62, h⟩ := zo_some h
      have h := Option.some.inj h
      subst h
      rw [kr]
      exact r_rz E hw z62 dX10_readAtom_19
noncomputable def tX10_readAtom : Nat → VT → Option (Int32 × VT)
  | 0, _ => none
  | n + 1, V => fX10_readAtom V (tX10_readAtom n)
theorem ktX10_readAtom {l : Launch} {G : GT} {Z : Nat → Nat × Nat} : ∀ (n : Nat) (V : VT) (r : Int32 × VT), tX10_readAtom n V = some r → CI l G (SG Z) yX10_readAtom (.code yX10_readAtom cX10_readAtom 2 (some .boolean)) (9 * n) [.ref (G.2.2 22)] V r.1 r.2
  | 0, _, _, h => by cases h
  | n + 1, V, r, h => by
    have h2 := kX10_readAtom (l := l) (G := G) (Z := Z) (dA := 9 * n) (ra := tX10_readAtom n) (ktX10_readAtom n) h
    rw [show 9 * (n + 1) = 9 * n + 9 by omega]
    exact h2
noncomputable def fX4_readConditionC (V : VT) (x1 : Int32) : Option (Int32 × VT) := fX4_readCondition V (tX4_readAtom 10) x1
theorem kX4_readConditionC {l : Launch} {G : GT} {Z : Nat → Nat × Nat} {V : VT} {x1 : Int32} {r : (Int32 × VT)} (h : fX4_readConditionC V x1 = some r) : CI l G (SG Z) yX4_readCondition (.code yX4_readCondition cX4_readCondition 6 (some .boolean)) 97 [.ref (G.2.2 1), .ref (G.2.2 18), .int x1] V r.1 r.2 := kX4_readCondition (l := l) (G := G) (Z := Z) (dA := 90) (ra := tX4_readAtom 10) (ktX4_readAtom 10) h
noncomputable def fX10_readCondC (V : VT) : Option (Int32 × VT) := fX10_readCond V (tX10_readAtom 10)
theorem kX10_readCondC {l : Launch} {G : GT} {Z : Nat → Nat × Nat} {V : VT} {r : (Int32 × VT)} (h : fX10_readCondC V = some r) : CI l G (SG Z) yX10_readCond (.code yX10_readCond cX10_readCond 1 (some .boolean)) 98 [.ref (G.2.2 22)] V r.1 r.2 := kX10_readCond (l := l) (G := G) (Z := Z) (dA := 90) (ra := tX10_readAtom 10) (ktX10_readAtom 10) h
