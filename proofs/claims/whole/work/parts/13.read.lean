/-! ===== AllSawIt$LawText.read(LAllSawIt$Tape;LAllSawIt$Law;)Z ===== -/
theorem dX4_read_0 : decode cX4_read 0 = .ok (.aload_n 1, 1) := by decide +kernel
theorem dX4_read_1 : decode cX4_read 1 = .ok (.invokevirtual 9, 3) := by decide +kernel
theorem dX4_read_4 : decode cX4_read 4 = .ok (.aload_n 0, 1) := by decide +kernel
theorem dX4_read_5 : decode cX4_read 5 = .ok (.invokevirtual 14, 3) := by decide +kernel
theorem dX4_read_8 : decode cX4_read 8 = .ok (.aload_n 0, 1) := by decide +kernel
theorem dX4_read_9 : decode cX4_read 9 = .ok (.invokevirtual 19, 3) := by decide +kernel
theorem dX4_read_12 : decode cX4_read 12 = .ok (.ifCond .eq 5, 3) := by decide +kernel
theorem dX4_read_15 : decode cX4_read 15 = .ok (.iconst 1, 1) := by decide +kernel
theorem dX4_read_16 : decode cX4_read 16 = .ok (.ireturn, 1) := by decide +kernel
theorem dX4_read_17 : decode cX4_read 17 = .ok (.iconst 0, 1) := by decide +kernel
theorem dX4_read_18 : decode cX4_read 18 = .ok (.istore_n 2, 1) := by decide +kernel
theorem dX4_read_19 : decode cX4_read 19 = .ok (.iload_n 2, 1) := by decide +kernel
theorem dX4_read_20 : decode cX4_read 20 = .ok (.bipush 12, 2) := by decide +kernel
theorem dX4_read_22 : decode cX4_read 22 = .ok (.if_icmp .ge 88, 3) := by decide +kernel
theorem dX4_read_25 : decode cX4_read 25 = .ok (.aload_n 0, 1) := by decide +kernel
theorem dX4_read_26 : decode cX4_read 26 = .ok (.ldc 25, 2) := by decide +kernel
theorem dX4_read_28 : decode cX4_read 28 = .ok (.invokevirtual 27, 3) := by decide +kernel
theorem dX4_read_31 : decode cX4_read 31 = .ok (.istore_n 3, 1) := by decide +kernel
theorem dX4_read_32 : decode cX4_read 32 = .ok (.iload_n 3, 1) := by decide +kernel
theorem dX4_read_33 : decode cX4_read 33 = .ok (.ifCond .ne 14, 3) := by decide +kernel
theorem dX4_read_36 : decode cX4_read 36 = .ok (.aload_n 0, 1) := by decide +kernel
theorem dX4_read_37 : decode cX4_read 37 = .ok (.ldc 31, 2) := by decide +kernel
theorem dX4_read_39 : decode cX4_read 39 = .ok (.invokevirtual 27, 3) := by decide +kernel
theorem dX4_read_42 : decode cX4_read 42 = .ok (.ifCond .ne 5, 3) := by decide +kernel
theorem dX4_read_45 : decode cX4_read 45 = .ok (.iconst 0, 1) := by decide +kernel
theorem dX4_read_46 : decode cX4_read 46 = .ok (.ireturn, 1) := by decide +kernel
theorem dX4_read_47 : decode cX4_read 47 = .ok (.aload_n 0, 1) := by decide +kernel
theorem dX4_read_48 : decode cX4_read 48 = .ok (.invokevirtual 33, 3) := by decide +kernel
theorem dX4_read_51 : decode cX4_read 51 = .ok (.aload_n 0, 1) := by decide +kernel
theorem dX4_read_52 : decode cX4_read 52 = .ok (.ldc 36, 2) := by decide +kernel
theorem dX4_read_54 : decode cX4_read 54 = .ok (.invokevirtual 38, 3) := by decide +kernel
theorem dX4_read_57 : decode cX4_read 57 = .ok (.ifCond .ne 11, 3) := by decide +kernel
theorem dX4_read_60 : decode cX4_read 60 = .ok (.aload_n 1, 1) := by decide +kernel
theorem dX4_read_61 : decode cX4_read 61 = .ok (.iconst 3, 1) := by decide +kernel
theorem dX4_read_62 : decode cX4_read 62 = .ok (.invokevirtual 41, 3) := by decide +kernel
theorem dX4_read_65 : decode cX4_read 65 = .ok (.goto 14, 3) := by decide +kernel
theorem dX4_read_68 : decode cX4_read 68 = .ok (.aload_n 0, 1) := by decide +kernel
theorem dX4_read_69 : decode cX4_read 69 = .ok (.aload_n 1, 1) := by decide +kernel
theorem dX4_read_70 : decode cX4_read 70 = .ok (.iconst 0, 1) := by decide +kernel
theorem dX4_read_71 : decode cX4_read 71 = .ok (.invokestatic 45, 3) := by decide +kernel
theorem dX4_read_74 : decode cX4_read 74 = .ok (.ifCond .ne 5, 3) := by decide +kernel
theorem dX4_read_77 : decode cX4_read 77 = .ok (.iconst 0, 1) := by decide +kernel
theorem dX4_read_78 : decode cX4_read 78 = .ok (.ireturn, 1) := by decide +kernel
theorem dX4_read_79 : decode cX4_read 79 = .ok (.aload_n 1, 1) := by decide +kernel
theorem dX4_read_80 : decode cX4_read 80 = .ok (.iload_n 3, 1) := by decide +kernel
theorem dX4_read_81 : decode cX4_read 81 = .ok (.invokevirtual 49, 3) := by decide +kernel
theorem dX4_read_84 : decode cX4_read 84 = .ok (.aload_n 0, 1) := by decide +kernel
theorem dX4_read_85 : decode cX4_read 85 = .ok (.invokevirtual 19, 3) := by decide +kernel
theorem dX4_read_88 : decode cX4_read 88 = .ok (.ifCond .eq 5, 3) := by decide +kernel
theorem dX4_read_91 : decode cX4_read 91 = .ok (.iconst 1, 1) := by decide +kernel
theorem dX4_read_92 : decode cX4_read 92 = .ok (.ireturn, 1) := by decide +kernel
theorem dX4_read_93 : decode cX4_read 93 = .ok (.aload_n 0, 1) := by decide +kernel
theorem dX4_read_94 : decode cX4_read 94 = .ok (.bipush 59, 2) := by decide +kernel
theorem dX4_read_96 : decode cX4_read 96 = .ok (.invokevirtual 53, 3) := by decide +kernel
theorem dX4_read_99 : decode cX4_read 99 = .ok (.ifCond .ne 5, 3) := by decide +kernel
theorem dX4_read_102 : decode cX4_read 102 = .ok (.iconst 0, 1) := by decide +kernel
theorem dX4_read_103 : decode cX4_read 103 = .ok (.ireturn, 1) := by decide +kernel
theorem dX4_read_104 : decode cX4_read 104 = .ok (.iinc 2 1, 3) := by decide +kernel
theorem dX4_read_107 : decode cX4_read 107 = .ok (.goto (-88), 3) := by decide +kernel
theorem dX4_read_110 : decode cX4_read 110 = .ok (.iconst 0, 1) := by decide +kernel
theorem dX4_read_111 : decode cX4_read 111 = .ok (.ireturn, 1) := by decide +kernel
noncomputable def fX4_read_j79_19 (V : VT) (u2 : Int32) (u3 : Int32) : Option ((VT × Int32) ⊕ (Int32 × VT)) := ob_R (fX3_endLine V u3) fun V19 => ob_R (fX8_isEnd V19 ) fun y21 => if y21 = 0 then (ob_I (fX8_takeSign V19 (59 : Int32)) fun y23 V24 => if y23 = 0 then (zo_ (0 : Int32) (some (.inr (((0 : Int32), V24))))) else (lt_ (u2 + (1 : Int32)) fun y25 => some (.inl (V24, y25)))) else (zo_ (1 : Int32) (some (.inr (((1 : Int32), V19)))))
noncomputable def fX4_read_j47_19 (V : VT) (u2 : Int32) (u3 : Int32) : Option ((VT × Int32) ⊕ (Int32 × VT)) := ob_R (fX8_step V ) fun V11 => ob_I (fX8_takeWord V11 18) fun y13 V14 => if y13 = 0 then (ob_R (fX3_put V14 (3 : Int32)) fun V33 => fX4_read_j79_19 V33 u2 u3) else (ob_I (fX4_readConditionC V14 (0 : Int32)) fun y16 V17 => if y16 = 0 then (zo_ (0 : Int32) (some (.inr (((0 : Int32), V17))))) else (fX4_read_j79_19 V17 u2 u3))
noncomputable def fX4_read_L19 (V : VT) (u2 : Int32) : Option ((VT × Int32) ⊕ (Int32 × VT)) := if (12 : Int32) ≤ u2 then (zo_ (0 : Int32) (some (.inr (((0 : Int32), V))))) else (ob_R (fX8_isWord V 16) fun y9 => if y9 = 0 then (ob_R (fX8_isWord V 17) fun y36 => if y36 = 0 then (zo_ (0 : Int32) (some (.inr (((0 : Int32), V))))) else (fX4_read_j47_19 V u2 y9)) else (fX4_read_j47_19 V u2 y9))
noncomputable def iX4_read_L19 : (VT × Int32) → Option ((VT × Int32) ⊕ (Int32 × VT)) := fun q => fX4_read_L19 (q.1) (q.2)
noncomputable def fX4_read (V : VT) : Option (Int32 × VT) := ob_R (fX3_empty V ) fun V2 => ob_R (fX8_rewind V2 ) fun V4 => ob_R (fX8_isEnd V4 ) fun y6 => if y6 = 0 then (ob_R (it_ (iX4_read_L19) FV (V4, (0 : Int32))) fun x42 => some x42) else (zo_ (1 : Int32) (some ((1 : Int32), V4)))
set_option maxHeartbeats 4000000 in
set_option maxRecDepth 100000 in
theorem wX4_read_j79_19 {p : Program} {l : Launch} {e : Env} {s : State} {m : MethodId} {args : Array Value} {below : List Frame} {meth : Method} {c : Code} {G : GT} {Z : Nat → Nat × Nat} {Q : State → Prop} (E : En p s m args c meth cX4_read 4 RX4 (some .boolean) G (SG Z)) {V : VT} {u2 : Int32} {u3 : Int32} {r : ((VT × Int32) ⊕ (Int32 × VT))} (h : fX4_read_j79_19 V u2 u3 = some r) (kc : ∀ q : (VT × Int32), r = .inl q → ∀ (H : Heap) (locs : List Loc) (ls : Array Slot), HW G s.heap (q.1) H locs → lv_has ls 4 [(0, .ref (G.2.2 1)), (1, .ref (G.2.2 18)), (2, .int (q.2))] → W p l e (rmD 98) s m args below meth c H locs 0 0 Q (F0 m 19 ls [])) (kr : ∀ q : (Int32 × VT), r = .inr (q) → Q = MQ below (QI G s.heap.size q.1 q.2) args s 0 0 (gA G s.heap.size)) {H : Heap} {locs : List Loc} {ls : Array Slot} (hw : HW G s.heap V H locs) (hl : lv_has ls 4 [(0, .ref (G.2.2 1)), (1, .ref (G.2.2 18)), (2, .int u2), (3, .int u3)]) : W p l e (rmD 98) s m args below meth c H locs 0 0 Q (F0 m 79 ls []) := by
  have hx := en_x E
  have hb := en_b E
  have hB := en_B E
  unfold fX4_read_j79_19 at h
  refine lv_aload_n hx hb dX4_read_79 rfl (lv_at hl 1 rfl) ?_
  refine lv_iload_n hx hb dX4_read_80 rfl (lv_at hl 3 rfl) ?_
  obtain ⟨V19, h18, h⟩ := ob_R_some h
  refine c_VV E hw (kX3_endLine (l := l) (G := G) hB  h18) yy_X3_endLine lm_RX4_49 rfl (by decide) rfl rfl hl.1 (by decide) (by decide) rfl (Nat.le_of_ble_eq_true rfl) dX4_read_81 (fun H locs hw => ?_)
  refine lv_aload_n hx hb dX4_read_84 rfl (lv_at hl 0 rfl) ?_
  obtain ⟨y21, h20, h⟩ := ob_R_some h
  refine c_VI E hw (kX8_isEnd (l := l) (G := G) hB  h20) yy_X8_isEnd lm_RX4_19 rfl (by decide) rfl rfl hl.1 (by decide) (by decide) rfl (Nat.le_of_ble_eq_true rfl) dX4_read_85 (fun H locs hw => ?_)
  refine lv_if_eq (tgt := 93) hx hb dX4_read_88 (by decide) (fun c29 => ?_) (fun c29 => ?_)
  · rw [if_pos c29] at h
    refine lv_aload_n hx hb dX4_read_93 rfl (lv_at hl 0 rfl) ?_
    refine lv_bipush (v := (59 : Int32)) hx hb dX4_read_94 (by decide) ?_
    obtain ⟨y23, V24, h22, h⟩ := ob_I_some h
    refine c_VI E hw (kX8_takeSign (l := l) (G := G) hB  h22) yy_X8_takeSign lm_RX4_53 rfl (by decide) rfl rfl hl.1 (by decide) (by decide) rfl (Nat.le_of_ble_eq_true rfl) dX4_read_96 (fun H locs hw => ?_)
    refine lv_if_ne (tgt := 104) hx hb dX4_read_99 (by decide) (fun c27 => ?_) (fun c27 => ?_)
    · rw [if_neg c27] at h
      obtain ⟨y25, ey25, h⟩ := lt_some h
      refine lv_iinc (v := y25) (lv' := [(2, .int y25), (0, .ref (G.2.2 1)), (1, .ref (G.2.2 18)), (3, .int u3)]) hx hb dX4_read_104 hl (k := 2) rfl (by rw [ey25]; rfl) (by decide) rfl (fun ls hl => ?_)
      refine lv_goto (tgt := 19) hx hb dX4_read_107 (by decide) ?_
      exact kc (V24, y25) (Option.some.inj h).symm H locs ls hw (lv_sub hl [1, 2, 0] rfl)
    · rw [if_pos c27] at h
      refine lv_iconst (v := (0 : Int32)) hx hb dX4_read_102 (by decide) ?_
      obtain ⟨z26, h⟩ := zo_some h
      rw [kr ((0 : Int32), V24) (Option.some.inj h).symm]
      exact r_rz E hw z26 dX4_read_103
  · rw [if_neg c29] at h
    refine lv_iconst (v := (1 : Int32)) hx hb dX4_read_91 (by decide) ?_
    obtain ⟨z28, h⟩ := zo_some h
    rw [kr ((1 : Int32), V19) (Option.some.inj h).symm]
    exact r_rz E hw z28 dX4_read_92
set_option maxHeartbeats 4000000 in
set_option maxRecDepth 100000 in
theorem wX4_read_j47_19 {p : Program} {l : Launch} {e : Env} {s : State} {m : MethodId} {args : Array Value} {below : List Frame} {meth : Method} {c : Code} {G : GT} {Z : Nat → Nat × Nat} {Q : State → Prop} (E : En p s m args c meth cX4_read 4 RX4 (some .boolean) G (SG Z)) {V : VT} {u2 : Int32} {u3 : Int32} {r : ((VT × Int32) ⊕ (Int32 × VT))} (h : fX4_read_j47_19 V u2 u3 = some r) (kc : ∀ q : (VT × Int32), r = .inl q → ∀ (H : Heap) (locs : List Loc) (ls : Array Slot), HW G s.heap (q.1) H locs → lv_has ls 4 [(0, .ref (G.2.2 1)), (1, .ref (G.2.2 18)), (2, .int (q.2))] → W p l e (rmD 98) s m args below meth c H locs 0 0 Q (F0 m 19 ls [])) (kr : ∀ q : (Int32 × VT), r = .inr (q) → Q = MQ below (QI G s.heap.size q.1 q.2) args s 0 0 (gA G s.heap.size)) {H : Heap} {locs : List Loc} {ls : Array Slot} (hw : HW G s.heap V H locs) (hl : lv_has ls 4 [(0, .ref (G.2.2 1)), (1, .ref (G.2.2 18)), (2, .int u2), (3, .int u3)]) : W p l e (rmD 98) s m args below meth c H locs 0 0 Q (F0 m 47 ls []) := by
  have hx := en_x E
  have hb := en_b E
  have hB := en_B E
  unfold fX4_read_j47_19 at h
  refine lv_aload_n hx hb dX4_read_47 rfl (lv_at hl 0 rfl) ?_
  obtain ⟨V11, h10, h⟩ := ob_R_some h
  refine c_VV E hw (kX8_step (l := l) (G := G) hB  h10) yy_X8_step lm_RX4_33 rfl (by decide) rfl rfl hl.1 (by decide) (by decide) rfl (Nat.le_of_ble_eq_true rfl) dX4_read_48 (fun H locs hw => ?_)
  refine lv_aload_n hx hb dX4_read_51 rfl (lv_at hl 0 rfl) ?_
  refine r_ls (w := 18) E (by decide) rfl rfl dX4_read_52 ?_
  obtain ⟨y13, V14, h12, h⟩ := ob_I_some h
  refine c_VI E hw (kX8_takeWord (l := l) (G := G) (Z := Z) (by decide) h12) yy_X8_takeWord lm_RX4_38 rfl (by decide) rfl rfl hl.1 (by decide) (by decide) rfl (Nat.le_of_ble_eq_true rfl) dX4_read_54 (fun H locs hw => ?_)
  refine lv_if_ne (tgt := 68) hx hb dX4_read_57 (by decide) (fun c34 => ?_) (fun c34 => ?_)
  · rw [if_neg c34] at h
    refine lv_aload_n hx hb dX4_read_68 rfl (lv_at hl 0 rfl) ?_
    refine lv_aload_n hx hb dX4_read_69 rfl (lv_at hl 1 rfl) ?_
    refine lv_iconst (v := (0 : Int32)) hx hb dX4_read_70 (by decide) ?_
    obtain ⟨y16, V17, h15, h⟩ := ob_I_some h
    refine c_SI E hw (kX4_readConditionC (l := l) (G := G) (Z := Z)  h15) yy_X4_readCondition lm_RX4_45 rfl hl.1 (by decide) (by decide) rfl (Nat.le_of_ble_eq_true rfl) dX4_read_71 (fun H locs hw => ?_)
    refine lv_if_ne (tgt := 79) hx hb dX4_read_74 (by decide) (fun c31 => ?_) (fun c31 => ?_)
    · rw [if_neg c31] at h
      exact wX4_read_j79_19 E h kc kr hw (lv_sub hl [0, 1, 2, 3] rfl)
    · rw [if_pos c31] at h
      refine lv_iconst (v := (0 : Int32)) hx hb dX4_read_77 (by decide) ?_
      obtain ⟨z30, h⟩ := zo_some h
      rw [kr ((0 : Int32), V17) (Option.some.inj h).symm]
      exact r_rz E hw z30 dX4_read_78
  · rw [if_pos c34] at h
    refine lv_aload_n hx hb dX4_read_60 rfl (lv_at hl 1 rfl) ?_
    refine lv_iconst (v := (3 : Int32)) hx hb dX4_read_61 (by decide) ?_
    obtain ⟨V33, h32, h⟩ := ob_R_some h
    refine c_VV E hw (kX3_put (l := l) (G := G) hB  h32) yy_X3_put lm_RX4_41 rfl (by decide) rfl rfl hl.1 (by decide) (by decide) rfl (Nat.le_of_ble_eq_true rfl) dX4_read_62 (fun H locs hw => ?_)
    refine lv_goto (tgt := 79) hx hb dX4_read_65 (by decide) ?_
    exact wX4_read_j79_19 E h kc kr hw (lv_sub hl [0, 1, 2, 3] rfl)
set_option maxHeartbeats 4000000 in
set_option maxRecDepth 100000 in
theorem wX4_read_L19 {p : Program} {l : Launch} {e : Env} {s : State} {m : MethodId} {args : Array Value} {below : List Frame} {meth : Method} {c : Code} {G : GT} {Z : Nat → Nat × Nat} {Q : State → Prop} (E : En p s m args c meth cX4_read 4 RX4 (some .boolean) G (SG Z)) {x : (Int32 × VT)} (kr : ∀ q : (Int32 × VT), x = q → Q = MQ below (QI G s.heap.size q.1 q.2) args s 0 0 (gA G s.heap.size)) : ∀ (n : Nat) (q : (VT × Int32)), it_ (iX4_read_L19) n q = some x → ∀ (H : Heap) (locs : List Loc) (ls : Array Slot), HW G s.heap (q.1) H locs → lv_has ls 4 [(0, .ref (G.2.2 1)), (1, .ref (G.2.2 18)), (2, .int (q.2))] → W p l e (rmD 98) s m args below meth c H locs 0 0 Q (F0 m 19 ls []) := by
  have hx := en_x E
  have hb := en_b E
  have hB := en_B E
  refine it_W (fun q : (VT × Int32) => ∀ (H : Heap) (locs : List Loc) (ls : Array Slot), HW G s.heap (q.1) H locs → lv_has ls 4 [(0, .ref (G.2.2 1)), (1, .ref (G.2.2 18)), (2, .int (q.2))] → W p l e (rmD 98) s m args below meth c H locs 0 0 Q (F0 m 19 ls [])) x ?_
  intro q r h kc kx
  obtain ⟨V, u2⟩ := q
  intro H locs ls hw hl
  have h : fX4_read_L19 V u2 = some r := h
  have hw : HW G s.heap V H locs := hw
  have hl : lv_has ls 4 [(0, .ref (G.2.2 1)), (1, .ref (G.2.2 18)), (2, .int u2)] := hl
  have kr : ∀ q : (Int32 × VT), r = .inr (q) → Q = MQ below (QI G s.heap.size q.1 q.2) args s 0 0 (gA G s.heap.size) := fun q e => kr q (kx _ e).symm
  unfold fX4_read_L19 at h
  refine lv_iload_n hx hb dX4_read_19 rfl (lv_at hl 2 rfl) ?_
  refine lv_bipush (v := (12 : Int32)) hx hb dX4_read_20 (by decide) ?_
  refine lv_icmp_ge (tgt := 110) hx hb dX4_read_22 (by decide) (fun c40 => ?_) (fun c40 => ?_)
  · rw [if_pos c40] at h
    refine lv_iconst (v := (0 : Int32)) hx hb dX4_read_110 (by decide) ?_
    obtain ⟨z7, h⟩ := zo_some h
    rw [kr ((0 : Int32), V) (Option.some.inj h).symm]
    exact r_rz E hw z7 dX4_read_111
  · rw [if_neg c40] at h
    refine lv_aload_n hx hb dX4_read_25 rfl (lv_at hl 0 rfl) ?_
    refine r_ls (w := 16) E (by decide) rfl rfl dX4_read_26 ?_
    obtain ⟨y9, h8, h⟩ := ob_R_some h
    refine c_VI E hw (kX8_isWord (l := l) (G := G) (Z := Z) (by decide) h8) yy_X8_isWord lm_RX4_27 rfl (by decide) rfl rfl hl.1 (by decide) (by decide) rfl (Nat.le_of_ble_eq_true rfl) dX4_read_28 (fun H locs hw => ?_)
    refine lv_istore_n (lv' := [(3, .int y9), (0, .ref (G.2.2 1)), (1, .ref (G.2.2 18)), (2, .int u2)]) hx hb dX4_read_31 rfl hl (by decide) rfl (fun ls hl => ?_)
    refine lv_iload_n hx hb dX4_read_32 rfl (lv_at hl 0 rfl) ?_
    refine lv_if_ne (tgt := 47) hx hb dX4_read_33 (by decide) (fun c39 => ?_) (fun c39 => ?_)
    · rw [if_neg c39] at h
      exact wX4_read_j47_19 E h kc kr hw (lv_sub hl [1, 2, 3, 0] rfl)
    · rw [if_pos c39] at h
      refine lv_aload_n hx hb dX4_read_36 rfl (lv_at hl 1 rfl) ?_
      refine r_ls (w := 17) E (by decide) rfl rfl dX4_read_37 ?_
      obtain ⟨y36, h35, h⟩ := ob_R_some h
      refine c_VI E hw (kX8_isWord (l := l) (G := G) (Z := Z) (by decide) h35) yy_X8_isWord lm_RX4_27 rfl (by decide) rfl rfl hl.1 (by decide) (by decide) rfl (Nat.le_of_ble_eq_true rfl) dX4_read_39 (fun H locs hw => ?_)
      refine lv_if_ne (tgt := 47) hx hb dX4_read_42 (by decide) (fun c38 => ?_) (fun c38 => ?_)
      · rw [if_neg c38] at h
        exact wX4_read_j47_19 E h kc kr hw (lv_sub hl [1, 2, 3, 0] rfl)
      · rw [if_pos c38] at h
        refine lv_iconst (v := (0 : Int32)) hx hb dX4_read_45 (by decide) ?_
        obtain ⟨z37, h⟩ := zo_some h
        rw [kr ((0 : Int32), V) (Option.some.inj h).symm]
        exact r_rz E hw z37 dX4_read_46
set_option maxHeartbeats 4000000 in
set_option maxRecDepth 100000 in
theorem kX4_read {l : Launch} {G : GT} {Z : Nat → Nat × Nat} {V : VT} {r : (Int32 × VT)} (h : fX4_read V = some r) : CI l G (SG Z) yX4_read (.code yX4_read cX4_read 4 (some .boolean)) 98 [.ref (G.2.2 1), .ref (G.2.2 18)] V r.1 r.2 := by
  intro sz
  refine met_of (Qs := fun sz => QI G sz (r.1) (r.2)) (SG_ok Z) (by decide) (Nat.le_of_ble_eq_true rfl) ?_ sz
  intro p e s m args below meth c ls E hw hl
  have hx := en_x E
  have hb := en_b E
  have hB := en_B E
  generalize hQ : MQ _ _ _ _ _ _ _ = Q
  have kr : Q = MQ below (QI G s.heap.size r.1 r.2) args s 0 0 (gA G s.heap.size) := hQ.symm
  have hl : lv_has ls 4 [(0, .ref (G.2.2 1)), (1, .ref (G.2.2 18))] := hl
  obtain ⟨H, eH⟩ : ∃ H, H = s.heap := ⟨_, rfl⟩
  obtain ⟨locs, elocs⟩ : ∃ z : List Loc, z = [] := ⟨_, rfl⟩
  have hw : HW G s.heap V H locs := by rw [eH, elocs]; exact hw
  show W p l e _ s m args below meth c s.heap [] 0 0 Q (F0 m 0 ls [])
  rw [← eH, ← elocs]
  unfold fX4_read at h
  refine lv_aload_n hx hb dX4_read_0 rfl (lv_at hl 1 rfl) ?_
  obtain ⟨V2, h1, h⟩ := ob_R_some h
  refine c_VV E hw (kX3_empty (l := l) (G := G) hB  h1) yy_X3_empty lm_RX4_9 rfl (by decide) rfl rfl hl.1 (by decide) (by decide) rfl (Nat.le_of_ble_eq_true rfl) dX4_read_1 (fun H locs hw => ?_)
  refine lv_aload_n hx hb dX4_read_4 rfl (lv_at hl 0 rfl) ?_
  obtain ⟨V4, h3, h⟩ := ob_R_some h
  refine c_VV E hw (kX8_rewind (l := l) (G := G) hB  h3) yy_X8_rewind lm_RX4_14 rfl (by decide) rfl rfl hl.1 (by decide) (by decide) rfl (Nat.le_of_ble_eq_true rfl) dX4_read_5 (fun H locs hw => ?_)
  refine lv_aload_n hx hb dX4_read_8 rfl (lv_at hl 0 rfl) ?_
  obtain ⟨y6, h5, h⟩ := ob_R_some h
  refine c_VI E hw (kX8_isEnd (l := l) (G := G) hB  h5) yy_X8_isEnd lm_RX4_19 rfl (by decide) rfl rfl hl.1 (by decide) (by decide) rfl (Nat.le_of_ble_eq_true rfl) dX4_read_9 (fun H locs hw => ?_)
  refine lv_if_eq (tgt := 17) hx hb dX4_read_12 (by decide) (fun c44 => ?_) (fun c44 => ?_)
  · rw [if_pos c44] at h
    refine lv_iconst (v := (0 : Int32)) hx hb dX4_read_17 (by decide) ?_
    refine lv_istore_n (lv' := [(2, .int (0 : Int32)), (0, .ref (G.2.2 1)), (1, .ref (G.2.2 18))]) hx hb dX4_read_18 rfl hl (by decide) rfl (fun ls hl => ?_)
    obtain ⟨x42, h41, h⟩ := ob_R_some h
    have h := Option.some.inj h
    subst h
    exact wX4_read_L19 E (fun q e => by subst e; exact kr) FV (V4, (0 : Int32)) h41 H locs ls hw (lv_sub hl [1, 2, 0] rfl)
  · rw [if_neg c44] at h
    refine lv_iconst (v := (1 : Int32)) hx hb dX4_read_15 (by decide) ?_
    obtain ⟨z43, h⟩ := zo_some h
    have h := Option.some.inj h
    subst h
    rw [kr]
    exact r_rz E hw z43 dX4_read_16
/-! ===== AllSawItModel.readLawLine(I)Z ===== -/
theorem dX10_readLawLine_0 : decode cX10_readLawLine 0 = .ok (.sipush 1152, 3) := by decide +kernel
theorem dX10_readLawLine_3 : decode cX10_readLawLine 3 = .ok (.iconst 3, 1) := by decide +kernel
theorem dX10_readLawLine_4 : decode cX10_readLawLine 4 = .ok (.iload_n 1, 1) := by decide +kernel
theorem dX10_readLawLine_5 : decode cX10_readLawLine 5 = .ok (.imul, 1) := by decide +kernel
theorem dX10_readLawLine_6 : decode cX10_readLawLine 6 = .ok (.iadd, 1) := by decide +kernel
theorem dX10_readLawLine_7 : decode cX10_readLawLine 7 = .ok (.istore_n 2, 1) := by decide +kernel
theorem dX10_readLawLine_8 : decode cX10_readLawLine 8 = .ok (.aload_n 0, 1) := by decide +kernel
theorem dX10_readLawLine_9 : decode cX10_readLawLine 9 = .ok (.ldc 210, 2) := by decide +kernel
theorem dX10_readLawLine_11 : decode cX10_readLawLine 11 = .ok (.invokevirtual 115, 3) := by decide +kernel
theorem dX10_readLawLine_14 : decode cX10_readLawLine 14 = .ok (.istore_n 3, 1) := by decide +kernel
theorem dX10_readLawLine_15 : decode cX10_readLawLine 15 = .ok (.iload_n 3, 1) := by decide +kernel
theorem dX10_readLawLine_16 : decode cX10_readLawLine 16 = .ok (.ifCond .ne 14, 3) := by decide +kernel
theorem dX10_readLawLine_19 : decode cX10_readLawLine 19 = .ok (.aload_n 0, 1) := by decide +kernel
theorem dX10_readLawLine_20 : decode cX10_readLawLine 20 = .ok (.ldc 212, 2) := by decide +kernel
theorem dX10_readLawLine_22 : decode cX10_readLawLine 22 = .ok (.invokevirtual 115, 3) := by decide +kernel
theorem dX10_readLawLine_25 : decode cX10_readLawLine 25 = .ok (.ifCond .ne 5, 3) := by decide +kernel
theorem dX10_readLawLine_28 : decode cX10_readLawLine 28 = .ok (.iconst 0, 1) := by decide +kernel
theorem dX10_readLawLine_29 : decode cX10_readLawLine 29 = .ok (.ireturn, 1) := by decide +kernel
theorem dX10_readLawLine_30 : decode cX10_readLawLine 30 = .ok (.aload_n 0, 1) := by decide +kernel
theorem dX10_readLawLine_31 : decode cX10_readLawLine 31 = .ok (.getfield 13, 3) := by decide +kernel
theorem dX10_readLawLine_34 : decode cX10_readLawLine 34 = .ok (.iload_n 2, 1) := by decide +kernel
theorem dX10_readLawLine_35 : decode cX10_readLawLine 35 = .ok (.iload_n 3, 1) := by decide +kernel
theorem dX10_readLawLine_36 : decode cX10_readLawLine 36 = .ok (.ifCond .eq 7, 3) := by decide +kernel
theorem dX10_readLawLine_39 : decode cX10_readLawLine 39 = .ok (.iconst 1, 1) := by decide +kernel
theorem dX10_readLawLine_40 : decode cX10_readLawLine 40 = .ok (.goto 4, 3) := by decide +kernel
theorem dX10_readLawLine_43 : decode cX10_readLawLine 43 = .ok (.iconst 0, 1) := by decide +kernel
theorem dX10_readLawLine_44 : decode cX10_readLawLine 44 = .ok (.iastore, 1) := by decide +kernel
theorem dX10_readLawLine_45 : decode cX10_readLawLine 45 = .ok (.aload_n 0, 1) := by decide +kernel
theorem dX10_readLawLine_46 : decode cX10_readLawLine 46 = .ok (.getfield 13, 3) := by decide +kernel
theorem dX10_readLawLine_49 : decode cX10_readLawLine 49 = .ok (.iload_n 2, 1) := by decide +kernel
theorem dX10_readLawLine_50 : decode cX10_readLawLine 50 = .ok (.iconst 1, 1) := by decide +kernel
theorem dX10_readLawLine_51 : decode cX10_readLawLine 51 = .ok (.iadd, 1) := by decide +kernel
theorem dX10_readLawLine_52 : decode cX10_readLawLine 52 = .ok (.aload_n 0, 1) := by decide +kernel
theorem dX10_readLawLine_53 : decode cX10_readLawLine 53 = .ok (.getfield 160, 3) := by decide +kernel
theorem dX10_readLawLine_56 : decode cX10_readLawLine 56 = .ok (.iastore, 1) := by decide +kernel
theorem dX10_readLawLine_57 : decode cX10_readLawLine 57 = .ok (.aload_n 0, 1) := by decide +kernel
theorem dX10_readLawLine_58 : decode cX10_readLawLine 58 = .ok (.iconst 0, 1) := by decide +kernel
theorem dX10_readLawLine_59 : decode cX10_readLawLine 59 = .ok (.putfield 186, 3) := by decide +kernel
theorem dX10_readLawLine_62 : decode cX10_readLawLine 62 = .ok (.aload_n 0, 1) := by decide +kernel
theorem dX10_readLawLine_63 : decode cX10_readLawLine 63 = .ok (.ldc 214, 2) := by decide +kernel
theorem dX10_readLawLine_65 : decode cX10_readLawLine 65 = .ok (.invokevirtual 136, 3) := by decide +kernel
theorem dX10_readLawLine_68 : decode cX10_readLawLine 68 = .ok (.ifCond .eq 12, 3) := by decide +kernel
theorem dX10_readLawLine_71 : decode cX10_readLawLine 71 = .ok (.aload_n 0, 1) := by decide +kernel
theorem dX10_readLawLine_72 : decode cX10_readLawLine 72 = .ok (.invokevirtual 189, 3) := by decide +kernel
theorem dX10_readLawLine_75 : decode cX10_readLawLine 75 = .ok (.ifCond .ne 5, 3) := by decide +kernel
theorem dX10_readLawLine_78 : decode cX10_readLawLine 78 = .ok (.iconst 0, 1) := by decide +kernel
theorem dX10_readLawLine_79 : decode cX10_readLawLine 79 = .ok (.ireturn, 1) := by decide +kernel
theorem dX10_readLawLine_80 : decode cX10_readLawLine 80 = .ok (.aload_n 0, 1) := by decide +kernel
theorem dX10_readLawLine_81 : decode cX10_readLawLine 81 = .ok (.getfield 13, 3) := by decide +kernel
theorem dX10_readLawLine_84 : decode cX10_readLawLine 84 = .ok (.iload_n 2, 1) := by decide +kernel
theorem dX10_readLawLine_85 : decode cX10_readLawLine 85 = .ok (.iconst 2, 1) := by decide +kernel
theorem dX10_readLawLine_86 : decode cX10_readLawLine 86 = .ok (.iadd, 1) := by decide +kernel
theorem dX10_readLawLine_87 : decode cX10_readLawLine 87 = .ok (.aload_n 0, 1) := by decide +kernel
theorem dX10_readLawLine_88 : decode cX10_readLawLine 88 = .ok (.getfield 160, 3) := by decide +kernel
theorem dX10_readLawLine_91 : decode cX10_readLawLine 91 = .ok (.iastore, 1) := by decide +kernel
theorem dX10_readLawLine_92 : decode cX10_readLawLine 92 = .ok (.iconst 1, 1) := by decide +kernel
theorem dX10_readLawLine_93 : decode cX10_readLawLine 93 = .ok (.ireturn, 1) := by decide +kernel
noncomputable def fX10_readLawLine_j80 (V : VT) (u2 : Int32) : Option (Int32 × VT) := rd_ (u2 + (2 : Int32)) 1988 (lt_ (va_up V 76 (upd (V 76) (u2 + (2 : Int32)).toNatClampNeg (V 22 16))) fun V13 => zo_ (1 : Int32) (some ((1 : Int32), V13)))
noncomputable def fX10_readLawLine_j44 (V : VT) (u2 : Int32) (t0 : Int32) (t1 : Int32) : Option (Int32 × VT) := rd_ t1 1988 (lt_ (va_up V 76 (upd (V 76) t1.toNatClampNeg t0)) fun V5 => rd_ (u2 + (1 : Int32)) 1988 (lt_ (va_up V5 76 (upd (V5 76) (u2 + (1 : Int32)).toNatClampNeg (V5 22 16))) fun V7 => lt_ (va_up V7 22 (upd (V7 22) 13 (0 : Int32))) fun V8 => ob_I (fX10_passes V8 64) fun y10 V11 => if y10 = 0 then (fX10_readLawLine_j80 V11 u2) else (ob_I (fX10_readCondC V11 ) fun y16 V17 => if y16 = 0 then (zo_ (0 : Int32) (some ((0 : Int32), V17))) else (fX10_readLawLine_j80 V17 u2))))
noncomputable def fX10_readLawLine_j30 (V : VT) (u2 : Int32) (u3 : Int32) : Option (Int32 × VT) := if u3 = 0 then (fX10_readLawLine_j44 V u2 (0 : Int32) u2) else (fX10_readLawLine_j44 V u2 (1 : Int32) u2)
noncomputable def fX10_readLawLine (V : VT) (x1 : Int32) : Option (Int32 × VT) := lt_ ((1152 : Int32) + ((3 : Int32) * x1)) fun y1 => ob_R (fX10_isWord V 62) fun y3 => if y3 = 0 then (ob_R (fX10_isWord V 63) fun y23 => if y23 = 0 then (zo_ (0 : Int32) (some ((0 : Int32), V))) else (fX10_readLawLine_j30 V y1 y3)) else (fX10_readLawLine_j30 V y1 y3)
set_option maxHeartbeats 4000000 in
set_option maxRecDepth 100000 in
theorem wX10_readLawLine_j80 {p : Program} {l : Launch} {e : Env} {s : State} {m : MethodId} {args : Array Value} {below : List Frame} {meth : Method} {c : Code} {G : GT} {Z : Nat → Nat × Nat} {Q : State → Prop} (E : En p s m args c meth cX10_readLawLine 4 RX10 (some .boolean) G (SG Z)) {V : VT} {u2 : Int32} {r : (Int32 × VT)} (h : fX10_readLawLine_j80 V u2 = some r) (kr : Q = MQ below (QI G s.heap.size r.1 r.2) args s 0 0 (gA G s.heap.size)) {H : Heap} {locs : List Loc} {ls : Array Slot} (hw : HW G s.heap V H locs) (hl : lv_has ls 4 [(0, .ref (G.2.2 22)), (2, .int u2)]) : W p l e (rmD 99) s m args below meth c H locs 0 0 Q (F0 m 80 ls []) := by
  have hx := en_x E
  have hb := en_b E
  have hB := en_B E
  unfold fX10_readLawLine_j80 at h
  refine lv_aload_n hx hb dX10_readLawLine_80 rfl (lv_at hl 0 rfl) ?_
  refine r_gr E hw 22 1 76 (N := 29) (C := RX10) (T := TX10) (by decide) rfl rfl (by decide) rfl iw_10 rfl lf_RX10_13 dX10_readLawLine_81 ?_
  refine lv_iload_n hx hb dX10_readLawLine_84 rfl (lv_at hl 1 rfl) ?_
  refine lv_iconst (v := (2 : Int32)) hx hb dX10_readLawLine_85 (by decide) ?_
  refine lv_iadd hx hb dX10_readLawLine_86 ?_
  refine lv_aload_n hx hb dX10_readLawLine_87 rfl (lv_at hl 0 rfl) ?_
  refine r_gi E hw 22 16 (N := 29) (C := RX10) (T := TX10) (by decide) rfl rfl (by decide) rfl iw_10 rfl lf_RX10_160 dX10_readLawLine_88 ?_
  obtain ⟨b12, h⟩ := rd_some h
  obtain ⟨V13, eV13, h⟩ := lt_some h
  refine r_is E hw 76 1988 (by decide) (by decide) (by decide) rfl rfl b12 eV13 dX10_readLawLine_91 (fun H locs hw => ?_)
  refine lv_iconst (v := (1 : Int32)) hx hb dX10_readLawLine_92 (by decide) ?_
  obtain ⟨z14, h⟩ := zo_some h
  have h := Option.some.inj h
  subst h
  rw [kr]
  exact r_rz E hw z14 dX10_readLawLine_93
set_option maxHeartbeats 4000000 in
set_option maxRecDepth 100000 in
theorem wX10_readLawLine_j44 {p : Program} {l : Launch} {e : Env} {s : State} {m : MethodId} {args : Array Value} {below : List Frame} {meth : Method} {c : Code} {G : GT} {Z : Nat → Nat × Nat} {Q : State → Prop} (E : En p s m args c meth cX10_readLawLine 4 RX10 (some .boolean) G (SG Z)) {V : VT} {u2 : Int32} {t0 : Int32} {t1 : Int32} {r : (Int32 × VT)} (h : fX10_readLawLine_j44 V u2 t0 t1 = some r) (kr : Q = MQ below (QI G s.heap.size r.1 r.2) args s 0 0 (gA G s.heap.size)) {H : Heap} {locs : List Loc} {ls : Array Slot} (hw : HW G s.heap V H locs) (hl : lv_has ls 4 [(0, .ref (G.2.2 22)), (2, .int u2)]) : W p l e (rmD 99) s m args below meth c H locs 0 0 Q (F0 m 44 ls [.int t0, .int t1, .ref (G.2.2 76)]) := by
  have hx := en_x E
  have hb := en_b E
  have hB := en_B E
  unfold fX10_readLawLine_j44 at h
  obtain ⟨b4, h⟩ := rd_some h
  obtain ⟨V5, eV5, h⟩ := lt_some h
  refine r_is E hw 76 1988 (by decide) (by decide) (by decide) rfl rfl b4 eV5 dX10_readLawLine_44 (fun H locs hw => ?_)
  refine lv_aload_n hx hb dX10_readLawLine_45 rfl (lv_at hl 0 rfl) ?_
  refine r_gr E hw 22 1 76 (N := 29) (C := RX10) (T := TX10) (by decide) rfl rfl (by decide) rfl iw_10 rfl lf_RX10_13 dX10_readLawLine_46 ?_
  refine lv_iload_n hx hb dX10_readLawLine_49 rfl (lv_at hl 1 rfl) ?_
  refine lv_iconst (v := (1 : Int32)) hx hb dX10_readLawLine_50 (by decide) ?_
  refine lv_iadd hx hb dX10_readLawLine_51 ?_
  refine lv_aload_n hx hb dX10_readLawLine_52 rfl (lv_at hl 0 rfl) ?_
  refine r_gi E hw 22 16 (N := 29) (C := RX10) (T := TX10) (by decide) rfl rfl (by decide) rfl iw_10 rfl lf_RX10_160 dX10_readLawLine_53 ?_
  obtain ⟨b6, h⟩ := rd_some h
  obtain ⟨V7, eV7, h⟩ := lt_some h
  refine r_is E hw 76 1988 (by decide) (by decide) (by decide) rfl rfl b6 eV7 dX10_readLawLine_56 (fun H locs hw => ?_)
  refine lv_aload_n hx hb dX10_readLawLine_57 rfl (lv_at hl 0 rfl) ?_
  refine lv_iconst (v := (0 : Int32)) hx hb dX10_readLawLine_58 (by decide) ?_
  obtain ⟨V8, eV8, h⟩ := lt_some h
  refine r_pi E hw 22 13 (N := 29) (C := RX10) (T := TX10) (ty0 := tyX10) (ty := .int) (by decide) rfl rfl (by decide) rfl iw_10 rfl tyX10_ok nmX10 rfl rfl (vp_nar_int _) rfl lf_RX10_186 eV8 dX10_readLawLine_59 (fun H locs hw => ?_)
  refine lv_aload_n hx hb dX10_readLawLine_62 rfl (lv_at hl 0 rfl) ?_
  refine r_ls (w := 64) E (by decide) rfl rfl dX10_readLawLine_63 ?_
  obtain ⟨y10, V11, h9, h⟩ := ob_I_some h
  refine c_VI E hw (kX10_passes (l := l) (G := G) (Z := Z) (by decide) h9) yy_X10_passes lm_RX10_136 rfl (by decide) rfl rfl hl.1 (by decide) (by decide) rfl (Nat.le_of_ble_eq_true rfl) dX10_readLawLine_65 (fun H locs hw => ?_)
  refine lv_if_eq (tgt := 80) hx hb dX10_readLawLine_68 (by decide) (fun c20 => ?_) (fun c20 => ?_)
  · rw [if_pos c20] at h
    exact wX10_readLawLine_j80 E h kr hw (lv_sub hl [0, 1] rfl)
  · rw [if_neg c20] at h
    refine lv_aload_n hx hb dX10_readLawLine_71 rfl (lv_at hl 0 rfl) ?_
    obtain ⟨y16, V17, h15, h⟩ := ob_I_some h
    refine c_VI E hw (kX10_readCondC (l := l) (G := G) (Z := Z)  h15) yy_X10_readCond lm_RX10_189 rfl (by decide) rfl rfl hl.1 (by decide) (by decide) rfl (Nat.le_of_ble_eq_true rfl) dX10_readLawLine_72 (fun H locs hw => ?_)
    refine lv_if_ne (tgt := 80) hx hb dX10_readLawLine_75 (by decide) (fun c19 => ?_) (fun c19 => ?_)
    · rw [if_neg c19] at h
      exact wX10_readLawLine_j80 E h kr hw (lv_sub hl [0, 1] rfl)
    · rw [if_pos c19] at h
      refine lv_iconst (v := (0 : Int32)) hx hb dX10_readLawLine_78 (by decide) ?_
      obtain ⟨z18, h⟩ := zo_some h
      have h := Option.some.inj h
      subst h
      rw [kr]
      exact r_rz E hw z18 dX10_readLawLine_79
set_option maxHeartbeats 4000000 in
set_option maxRecDepth 100000 in
theorem wX10_readLawLine_j30 {p : Program} {l : Launch} {e : Env} {s : State} {m : MethodId} {args : Array Value} {below : List Frame} {meth : Method} {c : Code} {G : GT} {Z : Nat → Nat × Nat} {Q : State → Prop} (E : En p s m args c meth cX10_readLawLine 4 RX10 (some .boolean) G (SG Z)) {V : VT} {u2 : Int32} {u3 : Int32} {r : (Int32 × VT)} (h : fX10_readLawLine_j30 V u2 u3 = some r) (kr : Q = MQ below (QI G s.heap.size r.1 r.2) args s 0 0 (gA G s.heap.size)) {H : Heap} {locs : List Loc} {ls : Array Slot} (hw : HW G s.heap V H locs) (hl : lv_has ls 4 [(0, .ref (G.2.2 22)), (2, .int u2), (3, .int u3)]) : W p l e (rmD 99) s m args below meth c H locs 0 0 Q (F0 m 30 ls []) := by
  have hx := en_x E
  have hb := en_b E
  have hB := en_B E
  unfold fX10_readLawLine_j30 at h
  refine lv_aload_n hx hb dX10_readLawLine_30 rfl (lv_at hl 0 rfl) ?_
  refine r_gr E hw 22 1 76 (N := 29) (C := RX10) (T := TX10) (by decide) rfl rfl (by decide) rfl iw_10 rfl lf_RX10_13 dX10_readLawLine_31 ?_
  refine lv_iload_n hx hb dX10_readLawLine_34 rfl (lv_at hl 1 rfl) ?_
  refine lv_iload_n hx hb dX10_readLawLine_35 rfl (lv_at hl 2 rfl) ?_
  refine lv_if_eq (tgt := 43) hx hb dX10_readLawLine_36 (by decide) (fun c21 => ?_) (fun c21 => ?_)
  · rw [if_pos c21] at h
    refine lv_iconst (v := (0 : Int32)) hx hb dX10_readLawLine_43 (by decide) ?_
    exact wX10_readLawLine_j44 E h kr hw (lv_sub hl [0, 1] rfl)
  · rw [if_neg c21] at h
    refine lv_iconst (v := (1 : Int32)) hx hb dX10_readLawLine_39 (by decide) ?_
    refine lv_goto (tgt := 44) hx hb dX10_readLawLine_40 (by decide) ?_
    exact wX10_readLawLine_j44 E h kr hw (lv_sub hl [0, 1] rfl)
set_option maxHeartbeats 4000000 in
set_option maxRecDepth 100000 in
theorem kX10_readLawLine {l : Launch} {G : GT} {Z : Nat → Nat × Nat} {V : VT} {x1 : Int32} {r : (Int32 × VT)} (h : fX10_readLawLine V x1 = some r) : CI l G (SG Z) yX10_readLawLine (.code yX10_readLawLine cX10_readLawLine 4 (some .boolean)) 99 [.ref (G.2.2 22), .int x1] V r.1 r.2 := by
  intro sz
  refine met_of (Qs := fun sz => QI G sz (r.1) (r.2)) (SG_ok Z) (by decide) (Nat.le_of_ble_eq_true rfl) ?_ sz
  intro p e s m args below meth c ls E hw hl
  have hx := en_x E
  have hb := en_b E
  have hB := en_B E
  generalize hQ : MQ _ _ _ _ _ _ _ = Q
  have kr : Q = MQ below (QI G s.heap.size r.1 r.2) args s 0 0 (gA G s.heap.size) := hQ.symm
  have hl : lv_has ls 4 [(0, .ref (G.2.2 22)), (1, .int x1)] := hl
  obtain ⟨H, eH⟩ : ∃ H, H = s.heap := ⟨_, rfl⟩
  obtain ⟨locs, elocs⟩ : ∃ z : List Loc, z = [] := ⟨_, rfl⟩
  have hw : HW G s.heap V H locs := by rw [eH, elocs]; exact hw
  show W p l e _ s m args below meth c s.heap [] 0 0 Q (F0 m 0 ls [])
  rw [← eH, ← elocs]
  unfold fX10_readLawLine at h
  refine lv_sipush (v := (1152 : Int32)) hx hb dX10_readLawLine_0 (by decide) ?_
  refine lv_iconst (v := (3 : Int32)) hx hb dX10_readLawLine_3 (by decide) ?_
  refine lv_iload_n hx hb dX10_readLawLine_4 rfl (lv_at hl 1 rfl) ?_
  refine lv_imul hx hb dX10_readLawLine_5 ?_
  refine lv_iadd hx hb dX10_readLawLine_6 ?_
  obtain ⟨y1, ey1, h⟩ := lt_some h
  refine lv_eqi ey1 ?_
  refine lv_istore_n (lv' := [(2, .int y1), (0, .ref (G.2.2 22)), (1, .int x1)]) hx hb dX10_readLawLine_7 rfl hl (by decide) rfl (fun ls hl => ?_)
  refine lv_aload_n hx hb dX10_readLawLine_8 rfl (lv_at hl 1 rfl) ?_
  refine r_ls (w := 62) E (by decide) rfl rfl dX10_readLawLine_9 ?_
  obtain ⟨y3, h2, h⟩ := ob_R_some h
  refine c_VI E hw (kX10_isWord (l := l) (G := G) (Z := Z) (by decide) h2) yy_X10_isWord lm_RX10_115 rfl (by decide) rfl rfl hl.1 (by decide) (by decide) rfl (Nat.le_of_ble_eq_true rfl) dX10_readLawLine_11 (fun H locs hw => ?_)
  refine lv_istore_n (lv' := [(3, .int y3), (2, .int y1), (0, .ref (G.2.2 22)), (1, .int x1)]) hx hb dX10_readLawLine_14 rfl hl (by decide) rfl (fun ls hl => ?_)
  refine lv_iload_n hx hb dX10_readLawLine_15 rfl (lv_at hl 0 rfl) ?_
  refine lv_if_ne (tgt := 30) hx hb dX10_readLawLine_16 (by decide) (fun c26 => ?_) (fun c26 => ?_)
  · rw [if_neg c26] at h
    exact wX10_readLawLine_j30 E h kr hw (lv_sub hl [2, 1, 0] rfl)
  · rw [if_pos c26] at h
    refine lv_aload_n hx hb dX10_readLawLine_19 rfl (lv_at hl 2 rfl) ?_
    refine r_ls (w := 63) E (by decide) rfl rfl dX10_readLawLine_20 ?_
    obtain ⟨y23, h22, h⟩ := ob_R_some h
    refine c_VI E hw (kX10_isWord (l := l) (G := G) (Z := Z) (by decide) h22) yy_X10_isWord lm_RX10_115 rfl (by decide) rfl rfl hl.1 (by decide) (by decide) rfl (Nat.le_of_ble_eq_true rfl) dX10_readLawLine_22 (fun H locs hw => ?_)
    refine lv_if_ne (tgt := 30) hx hb dX10_readLawLine_25 (by decide) (fun c25 => ?_) (fun c25 => ?_)
    · rw [if_neg c25] at h
      exact wX10_readLawLine_j30 E h kr hw (lv_sub hl [2, 1, 0] rfl)
    · rw [if_pos c25] at h
      refine lv_iconst (v := (0 : Int32)) hx hb dX10_readLawLine_28 (by decide) ?_
      obtain ⟨z24, h⟩ := zo_some h
      have h := Option.some.inj h
      subst h
      rw [kr]
      exact r_rz E hw z24 dX10_readLawLine_29
/-! ===== AllSawItModel.readLine(ZI)Z ===== -/
theorem dX10_readLine_0 : decode cX10_readLine 0 = .ok (.aload_n 0, 1) := by decide +kernel
theorem dX10_readLine_1 : decode cX10_readLine 1 = .ok (.invokevirtual 112, 3) := by decide +kernel
theorem dX10_readLine_4 : decode cX10_readLine 4 = .ok (.iload_n 2, 1) := by decide +kernel
theorem dX10_readLine_5 : decode cX10_readLine 5 = .ok (.iload_n 1, 1) := by decide +kernel
theorem dX10_readLine_6 : decode cX10_readLine 6 = .ok (.ifCond .eq 8, 3) := by decide +kernel
theorem dX10_readLine_9 : decode cX10_readLine 9 = .ok (.bipush 14, 2) := by decide +kernel
theorem dX10_readLine_11 : decode cX10_readLine 11 = .ok (.goto 5, 3) := by decide +kernel
theorem dX10_readLine_14 : decode cX10_readLine 14 = .ok (.bipush 12, 2) := by decide +kernel
theorem dX10_readLine_16 : decode cX10_readLine 16 = .ok (.if_icmp .ge 29, 3) := by decide +kernel
theorem dX10_readLine_19 : decode cX10_readLine 19 = .ok (.iload_n 1, 1) := by decide +kernel
theorem dX10_readLine_20 : decode cX10_readLine 20 = .ok (.ifCond .eq 13, 3) := by decide +kernel
theorem dX10_readLine_23 : decode cX10_readLine 23 = .ok (.aload_n 0, 1) := by decide +kernel
theorem dX10_readLine_24 : decode cX10_readLine 24 = .ok (.invokevirtual 216, 3) := by decide +kernel
theorem dX10_readLine_27 : decode cX10_readLine 27 = .ok (.ifCond .eq 18, 3) := by decide +kernel
theorem dX10_readLine_30 : decode cX10_readLine 30 = .ok (.goto 11, 3) := by decide +kernel
theorem dX10_readLine_33 : decode cX10_readLine 33 = .ok (.aload_n 0, 1) := by decide +kernel
theorem dX10_readLine_34 : decode cX10_readLine 34 = .ok (.iload_n 2, 1) := by decide +kernel
theorem dX10_readLine_35 : decode cX10_readLine 35 = .ok (.invokevirtual 219, 3) := by decide +kernel
theorem dX10_readLine_38 : decode cX10_readLine 38 = .ok (.ifCond .eq 7, 3) := by decide +kernel
theorem dX10_readLine_41 : decode cX10_readLine 41 = .ok (.iconst 1, 1) := by decide +kernel
theorem dX10_readLine_42 : decode cX10_readLine 42 = .ok (.goto 4, 3) := by decide +kernel
theorem dX10_readLine_45 : decode cX10_readLine 45 = .ok (.iconst 0, 1) := by decide +kernel
theorem dX10_readLine_46 : decode cX10_readLine 46 = .ok (.ireturn, 1) := by decide +kernel
noncomputable def fX10_readLine_j16 (V : VT) (u1 : Int32) (u2 : Int32) (t0 : Int32) (t1 : Int32) : Option (Int32 × VT) := if t0 ≤ t1 then (zo_ (0 : Int32) (some ((0 : Int32), V))) else (if u1 = 0 then (ob_I (fX10_readLawLine V u2) fun y5 V6 => if y5 = 0 then (zo_ (0 : Int32) (some ((0 : Int32), V6))) else (zo_ (1 : Int32) (some ((1 : Int32), V6)))) else (ob_I (fX10_readStreetLine V ) fun y11 V12 => if y11 = 0 then (zo_ (0 : Int32) (some ((0 : Int32), V12))) else (zo_ (1 : Int32) (some ((1 : Int32), V12)))))
noncomputable def fX10_readLine (V : VT) (x1 : Int32) (x2 : Int32) : Option (Int32 × VT) := ob_R (fX10_letters V ) fun V2 => if x1 = 0 then (fX10_readLine_j16 V2 x1 x2 (12 : Int32) x2) else (fX10_readLine_j16 V2 x1 x2 (14 : Int32) x2)
set_option maxHeartbeats 4000000 in
set_option maxRecDepth 100000 in
theorem wX10_readLine_j16 {p : Program} {l : Launch} {e : Env} {s : State} {m : MethodId} {args : Array Value} {below : List Frame} {meth : Method} {c : Code} {G : GT} {Z : Nat → Nat × Nat} {Q : State → Prop} (E : En p s m args c meth cX10_readLine 3 RX10 (some .boolean) G (SG Z)) {V : VT} {u1 : Int32} {u2 : Int32} {t0 : Int32} {t1 : Int32} {r : (Int32 × VT)} (h : fX10_readLine_j16 V u1 u2 t0 t1 = some r) (kr : Q = MQ below (QI G s.heap.size r.1 r.2) args s 0 0 (gA G s.heap.size)) {H : Heap} {locs : List Loc} {ls : Array Slot} (hw : HW G s.heap V H locs) (hl : lv_has ls 3 [(0, .ref (G.2.2 22)), (1, .int u1), (2, .int u2)]) : W p l e (rmD 100) s m args below meth c H locs 0 0 Q (F0 m 16 ls [.int t0, .int t1]) := by
  have hx := en_x E
  have hb := en_b E
  have hB := en_B E
  unfold fX10_readLine_j16 at h
  refine lv_icmp_ge (tgt := 45) hx hb dX10_readLine_16 (by decide) (fun c17 => ?_) (fun c17 => ?_)
  · rw [if_pos c17] at h
    refine lv_iconst (v := (0 : Int32)) hx hb dX10_readLine_45 (by decide) ?_
    obtain ⟨z3, h⟩ := zo_some h
    have h := Option.some.inj h
    subst h
    rw [kr]
    exact r_rz E hw z3 dX10_readLine_46
  · rw [if_neg c17] at h
    refine lv_iload_n hx hb dX10_readLine_19 rfl (lv_at hl 1 rfl) ?_
    refine lv_if_eq (tgt := 33) hx hb dX10_readLine_20 (by decide) (fun c16 => ?_) (fun c16 => ?_)
    · rw [if_pos c16] at h
      refine lv_aload_n hx hb dX10_readLine_33 rfl (lv_at hl 0 rfl) ?_
      refine lv_iload_n hx hb dX10_readLine_34 rfl (lv_at hl 2 rfl) ?_
      obtain ⟨y5, V6, h4, h⟩ := ob_I_some h
      refine c_VI E hw (kX10_readLawLine (l := l) (G := G) (Z := Z)  h4) yy_X10_readLawLine lm_RX10_219 rfl (by decide) rfl rfl hl.1 (by decide) (by decide) rfl (Nat.le_of_ble_eq_true rfl) dX10_readLine_35 (fun H locs hw => ?_)
      refine lv_if_eq (tgt := 45) hx hb dX10_readLine_38 (by decide) (fun c9 => ?_) (fun c9 => ?_)
      · rw [if_pos c9] at h
        refine lv_iconst (v := (0 : Int32)) hx hb dX10_readLine_45 (by decide) ?_
        obtain ⟨z7, h⟩ := zo_some h
        have h := Option.some.inj h
        subst h
        rw [kr]
        exact r_rz E hw z7 dX10_readLine_46
      · rw [if_neg c9] at h
        refine lv_iconst (v := (1 : Int32)) hx hb dX10_readLine_41 (by decide) ?_
        refine lv_goto (tgt := 46) hx hb dX10_readLine_42 (by decide) ?_
        obtain ⟨z8, h⟩ := zo_some h
        have h := Option.some.inj h
        subst h
        rw [kr]
        exact r_rz E hw z8 dX10_readLine_46
    · rw [if_neg c16] at h
      refine lv_aload_n hx hb dX10_readLine_23 rfl (lv_at hl 0 rfl) ?_
      obtain ⟨y11, V12, h10, h⟩ := ob_I_some h
      refine c_VI E hw (kX10_readStreetLine (l := l) (G := G) (Z := Z)  h10) yy_X10_readStreetLine lm_RX10_216 rfl (by decide) rfl rfl hl.1 (by decide) (by decide) rfl (Nat.le_of_ble_eq_true rfl) dX10_readLine_24 (fun H locs hw => ?_)
      refine lv_if_eq (tgt := 45) hx hb dX10_readLine_27 (by decide) (fun c15 => ?_) (fun c15 => ?_)
      · rw [if_pos c15] at h
        refine lv_iconst (v := (0 : Int32)) hx hb dX10_readLine_45 (by decide) ?_
        obtain ⟨z13, h⟩ := zo_some h
        have h := Option.some.inj h
        subst h
        rw [kr]
        exact r_rz E hw z13 dX10_readLine_46
      · rw [if_neg c15] at h
        refine lv_goto (tgt := 41) hx hb dX10_readLine_30 (by decide) ?_
        refine lv_iconst (v := (1 : Int32)) hx hb dX10_readLine_41 (by decide) ?_
        refine lv_goto (tgt := 46) hx hb dX10_readLine_42 (by decide) ?_
        obtain ⟨z14, h⟩ := zo_some h
        have h := Option.some.inj h
        subst h
        rw [kr]
        exact r_rz E hw z14 dX10_readLine_46
set_option maxHeartbeats 4000000 in
set_option maxRecDepth 100000 in
theorem kX10_readLine {l : Launch} {G : GT} {Z : Nat → Nat × Nat} {V : VT} {x1 : Int32} {x2 : Int32} {r : (Int32 × VT)} (h : fX10_readLine V x1 x2 = some r) : CI l G (SG Z) yX10_readLine (.code yX10_readLine cX10_readLine 3 (some .boolean)) 100 [.ref (G.2.2 22), .int x1, .int x2] V r.1 r.2 := by
  intro sz
  refine met_of (Qs := fun sz => QI G sz (r.1) (r.2)) (SG_ok Z) (by decide) (Nat.le_of_ble_eq_true rfl) ?_ sz
  intro p e s m args below meth c ls E hw hl
  have hx := en_x E
  have hb := en_b E
  have hB := en_B E
  generalize hQ : MQ _ _ _ _ _ _ _ = Q
  have kr : Q = MQ below (QI G s.heap.size r.1 r.2) args s 0 0 (gA G s.heap.size) := hQ.symm
  have hl : lv_has ls 3 [(0, .ref (G.2.2 22)), (1, .int x1), (2, .int x2)] := hl
  obtain ⟨H, eH⟩ : ∃ H, H = s.heap := ⟨_, rfl⟩
  obtain ⟨locs, elocs⟩ : ∃ z : List Loc, z = [] := ⟨_, rfl⟩
  have hw : HW G s.heap V H locs := by rw [eH, elocs]; exact hw
  show W p l e _ s m args below meth c s.heap [] 0 0 Q (F0 m 0 ls [])
  rw [← eH, ← elocs]
  unfold fX10_readLine at h
  refine lv_aload_n hx hb dX10_readLine_0 rfl (lv_at hl 0 rfl) ?_
  obtain ⟨V2, h1, h⟩ := ob_R_some h
  refine c_VV E hw (kX10_letters (l := l) (G := G) hB  h1) yy_X10_letters lm_RX10_112 rfl (by decide) rfl rfl hl.1 (by decide) (by decide) rfl (Nat.le_of_ble_eq_true rfl) dX10_readLine_1 (fun H locs hw => ?_)
  refine lv_iload_n hx hb dX10_readLine_4 rfl (lv_at hl 2 rfl) ?_
  refine lv_iload_n hx hb dX10_readLine_5 rfl (lv_at hl 1 rfl) ?_
  refine lv_if_eq (tgt := 14) hx hb dX10_readLine_6 (by decide) (fun c18 => ?_) (fun c18 => ?_)
  · rw [if_pos c18] at h
    refine lv_bipush (v := (12 : Int32)) hx hb dX10_readLine_14 (by decide) ?_
    exact wX10_readLine_j16 E h kr hw (lv_sub hl [0, 1, 2] rfl)
  · rw [if_neg c18] at h
    refine lv_bipush (v := (14 : Int32)) hx hb dX10_readLine_9 (by decide) ?_
    refine lv_goto (tgt := 16) hx hb dX10_readLine_11 (by decide) ?_
    exact wX10_readLine_j16 E h kr hw (lv_sub hl [0, 1, 2] rfl)
/-! ===== AllSawItModel.readAll(Z)I ===== -/
theorem dX10_readAll_0 : decode cX10_readAll 0 = .ok (.aload_n 0, 1) := by decide +kernel
theorem dX10_readAll_1 : decode cX10_readAll 1 = .ok (.invokevirtual 222, 3) := by decide +kernel
theorem dX10_readAll_4 : decode cX10_readAll 4 = .ok (.aload_n 0, 1) := by decide +kernel
theorem dX10_readAll_5 : decode cX10_readAll 5 = .ok (.iconst 0, 1) := by decide +kernel
theorem dX10_readAll_6 : decode cX10_readAll 6 = .ok (.putfield 160, 3) := by decide +kernel
theorem dX10_readAll_9 : decode cX10_readAll 9 = .ok (.aload_n 0, 1) := by decide +kernel
theorem dX10_readAll_10 : decode cX10_readAll 10 = .ok (.invokevirtual 100, 3) := by decide +kernel
theorem dX10_readAll_13 : decode cX10_readAll 13 = .ok (.aload_n 0, 1) := by decide +kernel
theorem dX10_readAll_14 : decode cX10_readAll 14 = .ok (.getfield 87, 3) := by decide +kernel
theorem dX10_readAll_17 : decode cX10_readAll 17 = .ok (.aload_n 0, 1) := by decide +kernel
theorem dX10_readAll_18 : decode cX10_readAll 18 = .ok (.getfield 90, 3) := by decide +kernel
theorem dX10_readAll_21 : decode cX10_readAll 21 = .ok (.if_icmp .ne 5, 3) := by decide +kernel
theorem dX10_readAll_24 : decode cX10_readAll 24 = .ok (.iconst 0, 1) := by decide +kernel
theorem dX10_readAll_25 : decode cX10_readAll 25 = .ok (.ireturn, 1) := by decide +kernel
theorem dX10_readAll_26 : decode cX10_readAll 26 = .ok (.iconst 0, 1) := by decide +kernel
theorem dX10_readAll_27 : decode cX10_readAll 27 = .ok (.istore_n 2, 1) := by decide +kernel
theorem dX10_readAll_28 : decode cX10_readAll 28 = .ok (.aload_n 0, 1) := by decide +kernel
theorem dX10_readAll_29 : decode cX10_readAll 29 = .ok (.iload_n 1, 1) := by decide +kernel
theorem dX10_readAll_30 : decode cX10_readAll 30 = .ok (.iload_n 2, 1) := by decide +kernel
theorem dX10_readAll_31 : decode cX10_readAll 31 = .ok (.invokevirtual 225, 3) := by decide +kernel
theorem dX10_readAll_34 : decode cX10_readAll 34 = .ok (.ifCond .ne 5, 3) := by decide +kernel
theorem dX10_readAll_37 : decode cX10_readAll 37 = .ok (.iconst (-1), 1) := by decide +kernel
theorem dX10_readAll_38 : decode cX10_readAll 38 = .ok (.ireturn, 1) := by decide +kernel
theorem dX10_readAll_39 : decode cX10_readAll 39 = .ok (.aload_n 0, 1) := by decide +kernel
theorem dX10_readAll_40 : decode cX10_readAll 40 = .ok (.invokevirtual 100, 3) := by decide +kernel
theorem dX10_readAll_43 : decode cX10_readAll 43 = .ok (.aload_n 0, 1) := by decide +kernel
theorem dX10_readAll_44 : decode cX10_readAll 44 = .ok (.getfield 87, 3) := by decide +kernel
theorem dX10_readAll_47 : decode cX10_readAll 47 = .ok (.aload_n 0, 1) := by decide +kernel
theorem dX10_readAll_48 : decode cX10_readAll 48 = .ok (.getfield 90, 3) := by decide +kernel
theorem dX10_readAll_51 : decode cX10_readAll 51 = .ok (.if_icmp .ne 7, 3) := by decide +kernel
theorem dX10_readAll_54 : decode cX10_readAll 54 = .ok (.iload_n 2, 1) := by decide +kernel
theorem dX10_readAll_55 : decode cX10_readAll 55 = .ok (.iconst 1, 1) := by decide +kernel
theorem dX10_readAll_56 : decode cX10_readAll 56 = .ok (.iadd, 1) := by decide +kernel
theorem dX10_readAll_57 : decode cX10_readAll 57 = .ok (.ireturn, 1) := by decide +kernel
theorem dX10_readAll_58 : decode cX10_readAll 58 = .ok (.aload_n 0, 1) := by decide +kernel
theorem dX10_readAll_59 : decode cX10_readAll 59 = .ok (.bipush 59, 2) := by decide +kernel
theorem dX10_readAll_61 : decode cX10_readAll 61 = .ok (.bipush 59, 2) := by decide +kernel
theorem dX10_readAll_63 : decode cX10_readAll 63 = .ok (.invokevirtual 93, 3) := by decide +kernel
theorem dX10_readAll_66 : decode cX10_readAll 66 = .ok (.ifCond .ne 5, 3) := by decide +kernel
theorem dX10_readAll_69 : decode cX10_readAll 69 = .ok (.iconst (-1), 1) := by decide +kernel
theorem dX10_readAll_70 : decode cX10_readAll 70 = .ok (.ireturn, 1) := by decide +kernel
theorem dX10_readAll_71 : decode cX10_readAll 71 = .ok (.aload_n 0, 1) := by decide +kernel
theorem dX10_readAll_72 : decode cX10_readAll 72 = .ok (.dup, 1) := by decide +kernel
theorem dX10_readAll_73 : decode cX10_readAll 73 = .ok (.getfield 87, 3) := by decide +kernel
theorem dX10_readAll_76 : decode cX10_readAll 76 = .ok (.iconst 1, 1) := by decide +kernel
theorem dX10_readAll_77 : decode cX10_readAll 77 = .ok (.iadd, 1) := by decide +kernel
theorem dX10_readAll_78 : decode cX10_readAll 78 = .ok (.putfield 87, 3) := by decide +kernel
theorem dX10_readAll_81 : decode cX10_readAll 81 = .ok (.iinc 2 1, 3) := by decide +kernel
theorem dX10_readAll_84 : decode cX10_readAll 84 = .ok (.goto (-56), 3) := by decide +kernel
noncomputable def fX10_readAll_L28 (V : VT) (u1 : Int32) (u2 : Int32) : Option ((VT × Int32 × Int32) ⊕ (Int32 × VT)) := ob_I (fX10_readLine V u1 u2) fun y7 V8 => if y7 = 0 then (some (.inr (((-1 : Int32), V8)))) else (ob_R (fX10_blanks V8 ) fun V10 => if (V10 22 10) = (V10 22 11) then (some (.inr (((u2 + (1 : Int32)), V10)))) else (ob_R (fX10_isAt V10 (59 : Int32) (59 : Int32)) fun y12 => if y12 = 0 then (some (.inr (((-1 : Int32), V10)))) else (lt_ (va_up V10 22 (upd (V10 22) 10 ((V10 22 10) + (1 : Int32)))) fun V13 => lt_ (u2 + (1 : Int32)) fun y14 => some (.inl (V13, u1, y14)))))
noncomputable def iX10_readAll_L28 : (VT × Int32 × Int32) → Option ((VT × Int32 × Int32) ⊕ (Int32 × VT)) := fun q => fX10_readAll_L28 (q.1) (q.2.1) (q.2.2)
noncomputable def fX10_readAll (V : VT) (x1 : Int32) : Option (Int32 × VT) := ob_R (fX10_uses V ) fun V2 => lt_ (va_up V2 22 (upd (V2 22) 16 (0 : Int32))) fun V3 => ob_R (fX10_blanks V3 ) fun V5 => if (V5 22 10) = (V5 22 11) then (some ((0 : Int32), V5)) else (ob_R (it_ (iX10_readAll_L28) FV (V5, x1, (0 : Int32))) fun x19 => some x19)
set_option maxHeartbeats 4000000 in
set_option maxRecDepth 100000 in
theorem wX10_readAll_L28 {p : Program} {l : Launch} {e : Env} {s : State} {m : MethodId} {args : Array Value} {below : List Frame} {meth : Method} {c : Code} {G : GT} {Z : Nat → Nat × Nat} {Q : State → Prop} (E : En p s m args c meth cX10_readAll 3 RX10 (some .int) G (SG Z)) {x : (Int32 × VT)} (kr : ∀ q : (Int32 × VT), x = q → Q = MQ below (QI G s.heap.size q.1 q.2) args s 0 0 (gA G s.heap.size)) : ∀ (n : Nat) (q : (VT × Int32 × Int32)), it_ (iX10_readAll_L28) n q = some x → ∀ (H : Heap) (locs : List Loc) (ls : Array Slot), HW G s.heap (q.1) H locs → lv_has ls 3 [(0, .ref (G.2.2 22)), (1, .int (q.2.1)), (2, .int (q.2.2))] → W p l e (rmD 101) s m args below meth c H locs 0 0 Q (F0 m 28 ls []) := by
  have hx := en_x E
  have hb := en_b E
  have hB := en_B E
  refine it_W (fun q : (VT × Int32 × Int32) => ∀ (H : Heap) (locs : List Loc) (ls : Array Slot), HW G s.heap (q.1) H locs → lv_has ls 3 [(0, .ref (G.2.2 22)), (1, .int (q.2.1)), (2, .int (q.2.2))] → W p l e (rmD 101) s m args below meth c H locs 0 0 Q (F0 m 28 ls [])) x ?_
  intro q r h kc kx
  obtain ⟨V, u1, u2⟩ := q
  intro H locs ls hw hl
  have h : fX10_readAll_L28 V u1 u2 = some r := h
  have hw : HW G s.heap V H locs := hw
  have hl : lv_has ls 3 [(0, .ref (G.2.2 22)), (1, .int u1), (2, .int u2)] := hl
  have kr : ∀ q : (Int32 × VT), r = .inr (q) → Q = MQ below (QI G s.heap.size q.1 q.2) args s 0 0 (gA G s.heap.size) := fun q e => kr q (kx _ e).symm
  unfold fX10_readAll_L28 at h
  refine lv_aload_n hx hb dX10_readAll_28 rfl (lv_at hl 0 rfl) ?_
  refine lv_iload_n hx hb dX10_readAll_29 rfl (lv_at hl 1 rfl) ?_
  refine lv_iload_n hx hb dX10_readAll_30 rfl (lv_at hl 2 rfl) ?_
  obtain ⟨y7, V8, h6, h⟩ := ob_I_some h
  refine c_VI E hw (kX10_readLine (l := l) (G := G) (Z := Z)  h6) yy_X10_readLine lm_RX10_225 rfl (by decide) rfl rfl hl.1 (by decide) (by decide) rfl (Nat.le_of_ble_eq_true rfl) dX10_readAll_31 (fun H locs hw => ?_)
  refine lv_if_ne (tgt := 39) hx hb dX10_readAll_34 (by decide) (fun c17 => ?_) (fun c17 => ?_)
  · rw [if_neg c17] at h
    refine lv_aload_n hx hb dX10_readAll_39 rfl (lv_at hl 0 rfl) ?_
    obtain ⟨V10, h9, h⟩ := ob_R_some h
    refine c_VV E hw (kX10_blanks (l := l) (G := G) hB  h9) yy_X10_blanks lm_RX10_100 rfl (by decide) rfl rfl hl.1 (by decide) (by decide) rfl (Nat.le_of_ble_eq_true rfl) dX10_readAll_40 (fun H locs hw => ?_)
    refine lv_aload_n hx hb dX10_readAll_43 rfl (lv_at hl 0 rfl) ?_
    refine r_gi E hw 22 10 (N := 29) (C := RX10) (T := TX10) (by decide) rfl rfl (by decide) rfl iw_10 rfl lf_RX10_87 dX10_readAll_44 ?_
    refine lv_aload_n hx hb dX10_readAll_47 rfl (lv_at hl 0 rfl) ?_
    refine r_gi E hw 22 11 (N := 29) (C := RX10) (T := TX10) (by decide) rfl rfl (by decide) rfl iw_10 rfl lf_RX10_90 dX10_readAll_48 ?_
    refine lv_icmp_ne (tgt := 58) hx hb dX10_readAll_51 (by decide) (fun c16 => ?_) (fun c16 => ?_)
    · rw [if_neg c16] at h
      refine lv_aload_n hx hb dX10_readAll_58 rfl (lv_at hl 0 rfl) ?_
      refine lv_bipush (v := (59 : Int32)) hx hb dX10_readAll_59 (by decide) ?_
      refine lv_bipush (v := (59 : Int32)) hx hb dX10_readAll_61 (by decide) ?_
      obtain ⟨y12, h11, h⟩ := ob_R_some h
      refine c_VI E hw (kX10_isAt (l := l) (G := G) hB  h11) yy_X10_isAt lm_RX10_93 rfl (by decide) rfl rfl hl.1 (by decide) (by decide) rfl (Nat.le_of_ble_eq_true rfl) dX10_readAll_63 (fun H locs hw => ?_)
      refine lv_if_ne (tgt := 71) hx hb dX10_readAll_66 (by decide) (fun c15 => ?_) (fun c15 => ?_)
      · rw [if_neg c15] at h
        refine lv_aload_n hx hb dX10_readAll_71 rfl (lv_at hl 0 rfl) ?_
        refine lv_dup hx hb dX10_readAll_72 rfl ?_
        refine r_gi E hw 22 10 (N := 29) (C := RX10) (T := TX10) (by decide) rfl rfl (by decide) rfl iw_10 rfl lf_RX10_87 dX10_readAll_73 ?_
        refine lv_iconst (v := (1 : Int32)) hx hb dX10_readAll_76 (by decide) ?_
        refine lv_iadd hx hb dX10_readAll_77 ?_
        obtain ⟨V13, eV13, h⟩ := lt_some h
        refine r_pi E hw 22 10 (N := 29) (C := RX10) (T := TX10) (ty0 := tyX10) (ty := .int) (by decide) rfl rfl (by decide) rfl iw_10 rfl tyX10_ok nmX10 rfl rfl (vp_nar_int _) rfl lf_RX10_87 eV13 dX10_readAll_78 (fun H locs hw => ?_)
        obtain ⟨y14, ey14, h⟩ := lt_some h
        refine lv_iinc (v := y14) (lv' := [(2, .int y14), (0, .ref (G.2.2 22)), (1, .int u1)]) hx hb dX10_readAll_81 hl (k := 2) rfl (by rw [ey14]; rfl) (by decide) rfl (fun ls hl => ?_)
        refine lv_goto (tgt := 28) hx hb dX10_readAll_84 (by decide) ?_
        exact kc (V13, u1, y14) (Option.some.inj h).symm H locs ls hw (lv_sub hl [1, 2, 0] rfl)
      · rw [if_pos c15] at h
        refine lv_iconst (v := (-1 : Int32)) hx hb dX10_readAll_69 (by decide) ?_
        rw [kr ((-1 : Int32), V10) (Option.some.inj h).symm]
        exact r_ri E hw dX10_readAll_70
    · rw [if_pos c16] at h
      refine lv_iload_n hx hb dX10_readAll_54 rfl (lv_at hl 2 rfl) ?_
      refine lv_iconst (v := (1 : Int32)) hx hb dX10_readAll_55 (by decide) ?_
      refine lv_iadd hx hb dX10_readAll_56 ?_
      rw [kr ((u2 + (1 : Int32)), V10) (Option.some.inj h).symm]
      exact r_ri E hw dX10_readAll_57
  · rw [if_pos c17] at h
    refine lv_iconst (v := (-1 : Int32)) hx hb dX10_readAll_37 (by decide) ?_
    rw [kr ((-1 : Int32), V8) (Option.some.inj h).symm]
    exact r_ri E hw dX10_readAll_38
set_option maxHeartbeats 4000000 in
set_option maxRecDepth 100000 in
theorem kX10_readAll {l : Launch} {G : GT} {Z : Nat → Nat × Nat} {V : VT} {x1 : Int32} {r : (Int32 × VT)} (h : fX10_readAll V x1 = some r) : CI l G (SG Z) yX10_readAll (.code yX10_readAll cX10_readAll 3 (some .int)) 101 [.ref (G.2.2 22), .int x1] V r.1 r.2 := by
  intro sz
  refine met_of (Qs := fun sz => QI G sz (r.1) (r.2)) (SG_ok Z) (by decide) (Nat.le_of_ble_eq_true rfl) ?_ sz
  intro p e s m args below meth c ls E hw hl
  have hx := en_x E
  have hb := en_b E
  have hB := en_B E
  generalize hQ : MQ _ _ _ _ _ _ _ = Q
  have kr : Q = MQ below (QI G s.heap.size r.1 r.2) args s 0 0 (gA G s.heap.size) := hQ.symm
  have hl : lv_has ls 3 [(0, .ref (G.2.2 22)), (1, .int x1)] := hl
  obtain ⟨H, eH⟩ : ∃ H, H = s.heap := ⟨_, rfl⟩
  obtain ⟨locs, elocs⟩ : ∃ z : List Loc, z = [] := ⟨_, rfl⟩
  have hw : HW G s.heap V H locs := by rw [eH, elocs]; exact hw
  show W p l e _ s m args below meth c s.heap [] 0 0 Q (F0 m 0 ls [])
  rw [← eH, ← elocs]
  unfold fX10_readAll at h
  refine lv_aload_n hx hb dX10_readAll_0 rfl (lv_at hl 0 rfl) ?_
  obtain ⟨V2, h1, h⟩ := ob_R_some h
  refine c_VV E hw (kX10_uses (l := l) (G := G) hB  h1) yy_X10_uses lm_RX10_222 rfl (by decide) rfl rfl hl.1 (by decide) (by decide) rfl (Nat.le_of_ble_eq_true rfl) dX10_readAll_1 (fun H locs hw => ?_)
  refine lv_aload_n hx hb dX10_readAll_4 rfl (lv_at hl 0 rfl) ?_
  refine lv_iconst (v := (0 : Int32)) hx hb dX10_readAll_5 (by decide) ?_
  obtain ⟨V3, eV3, h⟩ := lt_some h
  refine r_pi E hw 22 16 (N := 29) (C := RX10) (T := TX10) (ty0 := tyX10) (ty := .int) (by decide) rfl rfl (by decide) rfl iw_10 rfl tyX10_ok nmX10 rfl rfl (vp_nar_int _) rfl lf_RX10_160 eV3 dX10_readAll_6 (fun H locs hw => ?_)
  refine lv_aload_n hx hb dX10_readAll_9 rfl (lv_at hl 0 rfl) ?_
  obtain ⟨V5, h4, h⟩ := ob_R_some h
  refine c_VV E hw (kX10_blanks (l := l) (G := G) hB  h4) yy_X10_blanks lm_RX10_100 rfl (by decide) rfl rfl hl.1 (by decide) (by decide) rfl (Nat.le_of_ble_eq_true rfl) dX10_readAll_10 (fun H locs hw => ?_)
  refine lv_aload_n hx hb dX10_readAll_13 rfl (lv_at hl 0 rfl) ?_
  refine r_gi E hw 22 10 (N := 29) (C := RX10) (T := TX10) (by decide) rfl rfl (by decide) rfl iw_10 rfl lf_RX10_87 dX10_readAll_14 ?_
  refine lv_aload_n hx hb dX10_readAll_17 rfl (lv_at hl 0 rfl) ?_
  refine r_gi E hw 22 11 (N := 29) (C := RX10) (T := TX10) (by decide) rfl rfl (by decide) rfl iw_10 rfl lf_RX10_90 dX10_readAll_18 ?_
  refine lv_icmp_ne (tgt := 26) hx hb dX10_readAll_21 (by decide) (fun c20 => ?_) (fun c20 => ?_)
  · rw [if_neg c20] at h
    refine lv_iconst (v := (0 : Int32)) hx hb dX10_readAll_26 (by decide) ?_
    refine lv_istore_n (lv' := [(2, .int (0 : Int32)), (0, .ref (G.2.2 22)), (1, .int x1)]) hx hb dX10_readAll_27 rfl hl (by decide) rfl (fun ls hl => ?_)
    obtain ⟨x19, h18, h⟩ := ob_R_some h
    have h := Option.some.inj h
    subst h
    exact wX10_readAll_L28 E (fun q e => by subst e; exact kr) FV (V5, x1, (0 : Int32)) h18 H locs ls hw (lv_sub hl [1, 2, 0] rfl)
  · rw [if_pos c20] at h
    refine lv_iconst (v := (0 : Int32)) hx hb dX10_readAll_24 (by decide) ?_
    have h := Option.some.inj h
    subst h
    rw [kr]
    exact r_ri E hw dX10_readAll_25
/-! ===== AllSawItModel.street()I ===== -/
theorem dX10_street_0 : decode cX10_street 0 = .ok (.iconst 0, 1) := by decide +kernel
theorem dX10_street_1 : decode cX10_street 1 = .ok (.istore_n 1, 1) := by decide +kernel
theorem dX10_street_2 : decode cX10_street 2 = .ok (.iload_n 1, 1) := by decide +kernel
theorem dX10_street_3 : decode cX10_street 3 = .ok (.sipush 1151, 3) := by decide +kernel
theorem dX10_street_6 : decode cX10_street 6 = .ok (.if_icmp .ge 21, 3) := by decide +kernel
theorem dX10_street_9 : decode cX10_street 9 = .ok (.aload_n 0, 1) := by decide +kernel
theorem dX10_street_10 : decode cX10_street 10 = .ok (.getfield 20, 3) := by decide +kernel
theorem dX10_street_13 : decode cX10_street 13 = .ok (.iload_n 1, 1) := by decide +kernel
theorem dX10_street_14 : decode cX10_street 14 = .ok (.aload_n 0, 1) := by decide +kernel
theorem dX10_street_15 : decode cX10_street 15 = .ok (.getfield 13, 3) := by decide +kernel
theorem dX10_street_18 : decode cX10_street 18 = .ok (.iload_n 1, 1) := by decide +kernel
theorem dX10_street_19 : decode cX10_street 19 = .ok (.iaload, 1) := by decide +kernel
theorem dX10_street_20 : decode cX10_street 20 = .ok (.iastore, 1) := by decide +kernel
theorem dX10_street_21 : decode cX10_street 21 = .ok (.iinc 1 1, 3) := by decide +kernel
theorem dX10_street_24 : decode cX10_street 24 = .ok (.goto (-22), 3) := by decide +kernel
theorem dX10_street_27 : decode cX10_street 27 = .ok (.aload_n 0, 1) := by decide +kernel
theorem dX10_street_28 : decode cX10_street 28 = .ok (.iconst 1, 1) := by decide +kernel
theorem dX10_street_29 : decode cX10_street 29 = .ok (.invokevirtual 229, 3) := by decide +kernel
theorem dX10_street_32 : decode cX10_street 32 = .ok (.istore_n 1, 1) := by decide +kernel
theorem dX10_street_33 : decode cX10_street 33 = .ok (.aload_n 0, 1) := by decide +kernel
theorem dX10_street_34 : decode cX10_street 34 = .ok (.iload_n 1, 1) := by decide +kernel
theorem dX10_street_35 : decode cX10_street 35 = .ok (.ifCond .ge 10, 3) := by decide +kernel
theorem dX10_street_38 : decode cX10_street 38 = .ok (.aload_n 0, 1) := by decide +kernel
theorem dX10_street_39 : decode cX10_street 39 = .ok (.getfield 97, 3) := by decide +kernel
theorem dX10_street_42 : decode cX10_street 42 = .ok (.goto 4, 3) := by decide +kernel
theorem dX10_street_45 : decode cX10_street 45 = .ok (.iconst (-1), 1) := by decide +kernel
theorem dX10_street_46 : decode cX10_street 46 = .ok (.putfield 33, 3) := by decide +kernel
theorem dX10_street_49 : decode cX10_street 49 = .ok (.aload_n 0, 1) := by decide +kernel
theorem dX10_street_50 : decode cX10_street 50 = .ok (.iload_n 1, 1) := by decide +kernel
theorem dX10_street_51 : decode cX10_street 51 = .ok (.ifCond .ge 7, 3) := by decide +kernel
theorem dX10_street_54 : decode cX10_street 54 = .ok (.iconst 1, 1) := by decide +kernel
theorem dX10_street_55 : decode cX10_street 55 = .ok (.goto 4, 3) := by decide +kernel
theorem dX10_street_58 : decode cX10_street 58 = .ok (.iconst 0, 1) := by decide +kernel
theorem dX10_street_59 : decode cX10_street 59 = .ok (.iconst 1, 1) := by decide +kernel
theorem dX10_street_60 : decode cX10_street 60 = .ok (.invokevirtual 233, 3) := by decide +kernel
theorem dX10_street_63 : decode cX10_street 63 = .ok (.ifCond .ne 27, 3) := by decide +kernel
theorem dX10_street_66 : decode cX10_street 66 = .ok (.aload_n 0, 1) := by decide +kernel
theorem dX10_street_67 : decode cX10_street 67 = .ok (.aload_n 0, 1) := by decide +kernel
theorem dX10_street_68 : decode cX10_street 68 = .ok (.getfield 13, 3) := by decide +kernel
theorem dX10_street_71 : decode cX10_street 71 = .ok (.iconst 2, 1) := by decide +kernel
theorem dX10_street_72 : decode cX10_street 72 = .ok (.iaload, 1) := by decide +kernel
theorem dX10_street_73 : decode cX10_street 73 = .ok (.bipush 12, 2) := by decide +kernel
theorem dX10_street_75 : decode cX10_street 75 = .ok (.if_icmp .ne 7, 3) := by decide +kernel
theorem dX10_street_78 : decode cX10_street 78 = .ok (.iconst 1, 1) := by decide +kernel
theorem dX10_street_79 : decode cX10_street 79 = .ok (.goto 4, 3) := by decide +kernel
theorem dX10_street_82 : decode cX10_street 82 = .ok (.iconst 0, 1) := by decide +kernel
theorem dX10_street_83 : decode cX10_street 83 = .ok (.iconst 2, 1) := by decide +kernel
theorem dX10_street_84 : decode cX10_street 84 = .ok (.invokevirtual 233, 3) := by decide +kernel
theorem dX10_street_87 : decode cX10_street 87 = .ok (.ifCond .eq 32, 3) := by decide +kernel
theorem dX10_street_90 : decode cX10_street 90 = .ok (.iconst 0, 1) := by decide +kernel
theorem dX10_street_91 : decode cX10_street 91 = .ok (.istore_n 2, 1) := by decide +kernel
theorem dX10_street_92 : decode cX10_street 92 = .ok (.iload_n 2, 1) := by decide +kernel
theorem dX10_street_93 : decode cX10_street 93 = .ok (.sipush 1151, 3) := by decide +kernel
theorem dX10_street_96 : decode cX10_street 96 = .ok (.if_icmp .ge 21, 3) := by decide +kernel
theorem dX10_street_99 : decode cX10_street 99 = .ok (.aload_n 0, 1) := by decide +kernel
theorem dX10_street_100 : decode cX10_street 100 = .ok (.getfield 13, 3) := by decide +kernel
theorem dX10_street_103 : decode cX10_street 103 = .ok (.iload_n 2, 1) := by decide +kernel
theorem dX10_street_104 : decode cX10_street 104 = .ok (.aload_n 0, 1) := by decide +kernel
theorem dX10_street_105 : decode cX10_street 105 = .ok (.getfield 20, 3) := by decide +kernel
theorem dX10_street_108 : decode cX10_street 108 = .ok (.iload_n 2, 1) := by decide +kernel
theorem dX10_street_109 : decode cX10_street 109 = .ok (.iaload, 1) := by decide +kernel
theorem dX10_street_110 : decode cX10_street 110 = .ok (.iastore, 1) := by decide +kernel
theorem dX10_street_111 : decode cX10_street 111 = .ok (.iinc 2 1, 3) := by decide +kernel
theorem dX10_street_114 : decode cX10_street 114 = .ok (.goto (-22), 3) := by decide +kernel
theorem dX10_street_117 : decode cX10_street 117 = .ok (.iconst 0, 1) := by decide +kernel
theorem dX10_street_118 : decode cX10_street 118 = .ok (.ireturn, 1) := by decide +kernel
theorem dX10_street_119 : decode cX10_street 119 = .ok (.aload_n 0, 1) := by decide +kernel
theorem dX10_street_120 : decode cX10_street 120 = .ok (.getfield 13, 3) := by decide +kernel
theorem dX10_street_123 : decode cX10_street 123 = .ok (.iconst 2, 1) := by decide +kernel
theorem dX10_street_124 : decode cX10_street 124 = .ok (.dup2, 1) := by decide +kernel
theorem dX10_street_125 : decode cX10_street 125 = .ok (.iaload, 1) := by decide +kernel
theorem dX10_street_126 : decode cX10_street 126 = .ok (.iconst 1, 1) := by decide +kernel
theorem dX10_street_127 : decode cX10_street 127 = .ok (.iadd, 1) := by decide +kernel
theorem dX10_street_128 : decode cX10_street 128 = .ok (.iastore, 1) := by decide +kernel
theorem dX10_street_129 : decode cX10_street 129 = .ok (.aload_n 0, 1) := by decide +kernel
theorem dX10_street_130 : decode cX10_street 130 = .ok (.iconst 0, 1) := by decide +kernel
theorem dX10_street_131 : decode cX10_street 131 = .ok (.putfield 59, 3) := by decide +kernel
theorem dX10_street_134 : decode cX10_street 134 = .ok (.aload_n 0, 1) := by decide +kernel
theorem dX10_street_135 : decode cX10_street 135 = .ok (.getfield 13, 3) := by decide +kernel
theorem dX10_street_138 : decode cX10_street 138 = .ok (.iconst 2, 1) := by decide +kernel
theorem dX10_street_139 : decode cX10_street 139 = .ok (.iaload, 1) := by decide +kernel
theorem dX10_street_140 : decode cX10_street 140 = .ok (.ireturn, 1) := by decide +kernel
noncomputable def fX10_street_L2 (V : VT) (u1 : Int32) : Option ((VT × Int32) ⊕ VT) := if (1151 : Int32) ≤ u1 then (some (.inr (V))) else (rd_ u1 1988 (rd_ u1 1151 (lt_ (va_up V 78 (upd (V 78) u1.toNatClampNeg (V 76 u1.toNatClampNeg))) fun V3 => lt_ (u1 + (1 : Int32)) fun y4 => some (.inl (V3, y4)))))
noncomputable def iX10_street_L2 : (VT × Int32) → Option ((VT × Int32) ⊕ VT) := fun q => fX10_street_L2 (q.1) (q.2)
noncomputable def fX10_street_L92 (V : VT) (u2 : Int32) : Option ((VT × Int32) ⊕ (Int32 × VT)) := if (1151 : Int32) ≤ u2 then (some (.inr (((0 : Int32), V)))) else (rd_ u2 1151 (rd_ u2 1988 (lt_ (va_up V 76 (upd (V 76) u2.toNatClampNeg (V 78 u2.toNatClampNeg))) fun V18 => lt_ (u2 + (1 : Int32)) fun y19 => some (.inl (V18, y19)))))
noncomputable def iX10_street_L92 : (VT × Int32) → Option ((VT × Int32) ⊕ (Int32 × VT)) := fun q => fX10_street_L92 (q.1) (q.2)
noncomputable def fX10_street_j83 (V : VT) (t0 : Int32) : Option (Int32 × VT) := ob_I (fX10_throwsIf V t0 (2 : Int32)) fun y25 V26 => if y25 = 0 then (rd_ (2 : Int32) 1988 (rd_ (2 : Int32) 1988 (lt_ (va_up V26 76 (upd (V26 76) (2 : Int32).toNatClampNeg ((V26 76 (2 : Int32).toNatClampNeg) + (1 : Int32)))) fun V29 => lt_ (va_up V29 22 (upd (V29 22) 7 (0 : Int32))) fun V30 => rd_ (2 : Int32) 1988 (some ((V30 76 (2 : Int32).toNatClampNeg), V30))))) else (ob_R (it_ (iX10_street_L92) FV (V26, (0 : Int32))) fun x33 => some x33)
noncomputable def fX10_street_j59 (V : VT) (t0 : Int32) : Option (Int32 × VT) := ob_I (fX10_throwsIf V t0 (1 : Int32)) fun y14 V15 => if y14 = 0 then (rd_ (2 : Int32) 1988 (if (V15 76 (2 : Int32).toNatClampNeg) = (12 : Int32) then (fX10_street_j83 V15 (1 : Int32)) else (fX10_street_j83 V15 (0 : Int32)))) else (ob_R (it_ (iX10_street_L92) FV (V15, (0 : Int32))) fun x22 => some x22)
noncomputable def fX10_street_j46 (V : VT) (u1 : Int32) (t0 : Int32) : Option (Int32 × VT) := lt_ (va_up V 22 (upd (V 22) 14 t0)) fun V12 => if 0 ≤ u1 then (fX10_street_j59 V12 (0 : Int32)) else (fX10_street_j59 V12 (1 : Int32))
noncomputable def fX10_street (V : VT) : Option (Int32 × VT) := ob_R (it_ (iX10_street_L2) FV (V, (0 : Int32))) fun x7 => (lt_ x7 fun V8 => ob_I (fX10_readAll V8 (1 : Int32)) fun y10 V11 => if 0 ≤ y10 then (fX10_street_j46 V11 y10 (-1 : Int32)) else (fX10_street_j46 V11 y10 (V11 22 12)))
set_option maxHeartbeats 4000000 in
set_option maxRecDepth 100000 in
theorem wX10_street_L2 {p : Program} {l : Launch} {e : Env} {s : State} {m : MethodId} {args : Array Value} {below : List Frame} {meth : Method} {c : Code} {G : GT} {Z : Nat → Nat × Nat} {Q : State → Prop} (E : En p s m args c meth cX10_street 3 RX10 (some .int) G (SG Z)) {x : VT} (ke : ∀ q : VT, x = q → ∀ (H : Heap) (locs : List Loc) (ls : Array Slot), HW G s.heap q H locs → lv_has ls 3 [(0, .ref (G.2.2 22))] → W p l e (rmD 102) s m args below meth c H locs 0 0 Q (F0 m 27 ls [])) : ∀ (n : Nat) (q : (VT × Int32)), it_ (iX10_street_L2) n q = some x → ∀ (H : Heap) (locs : List Loc) (ls : Array Slot), HW G s.heap (q.1) H locs → lv_has ls 3 [(0, .ref (G.2.2 22)), (1, .int (q.2))] → W p l e (rmD 102) s m args below meth c H locs 0 0 Q (F0 m 2 ls []) := by
  have hx := en_x E
  have hb := en_b E
  have hB := en_B E
  refine it_W (fun q : (VT × Int32) => ∀ (H : Heap) (locs : List Loc) (ls : Array Slot), HW G s.heap (q.1) H locs → lv_has ls 3 [(0, .ref (G.2.2 22)), (1, .int (q.2))] → W p l e (rmD 102) s m args below meth c H locs 0 0 Q (F0 m 2 ls [])) x ?_
  intro q r h kc kx
  obtain ⟨V, u1⟩ := q
  intro H locs ls hw hl
  have h : fX10_street_L2 V u1 = some r := h
  have hw : HW G s.heap V H locs := hw
  have hl : lv_has ls 3 [(0, .ref (G.2.2 22)), (1, .int u1)] := hl
  have ke : ∀ q : VT, r = .inr (q) → ∀ (H : Heap) (locs : List Loc) (ls : Array Slot), HW G s.heap q H locs → lv_has ls 3 [(0, .ref (G.2.2 22))] → W p l e (rmD 102) s m args below meth c H locs 0 0 Q (F0 m 27 ls []) := fun q e => ke q (kx _ e).symm
  unfold fX10_street_L2 at h
  refine lv_iload_n hx hb dX10_street_2 rfl (lv_at hl 1 rfl) ?_
  refine lv_sipush (v := (1151 : Int32)) hx hb dX10_street_3 (by decide) ?_
  refine lv_icmp_ge (tgt := 27) hx hb dX10_street_6 (by decide) (fun c5 => ?_) (fun c5 => ?_)
  · rw [if_pos c5] at h
    exact ke V (Option.some.inj h).symm H locs ls hw (lv_sub hl [0] rfl)
  · rw [if_neg c5] at h
    refine lv_aload_n hx hb dX10_street_9 rfl (lv_at hl 0 rfl) ?_
    refine r_gr E hw 22 3 78 (N := 29) (C := RX10) (T := TX10) (by decide) rfl rfl (by decide) rfl iw_10 rfl lf_RX10_20 dX10_street_10 ?_
    refine lv_iload_n hx hb dX10_street_13 rfl (lv_at hl 1 rfl) ?_
    refine lv_aload_n hx hb dX10_street_14 rfl (lv_at hl 0 rfl) ?_
    refine r_gr E hw 22 1 76 (N := 29) (C := RX10) (T := TX10) (by decide) rfl rfl (by decide) rfl iw_10 rfl lf_RX10_13 dX10_street_15 ?_
    refine lv_iload_n hx hb dX10_street_18 rfl (lv_at hl 1 rfl) ?_
    obtain ⟨b1, h⟩ := rd_some h
    refine r_ia E hw 76 1988 (by decide) (by decide) (by decide) rfl rfl b1 dX10_street_19 ?_
    obtain ⟨b2, h⟩ := rd_some h
    obtain ⟨V3, eV3, h⟩ := lt_some h
    refine r_is E hw 78 1151 (by decide) (by decide) (by decide) rfl rfl b2 eV3 dX10_street_20 (fun H locs hw => ?_)
    obtain ⟨y4, ey4, h⟩ := lt_some h
    refine lv_iinc (v := y4) (lv' := [(1, .int y4), (0, .ref (G.2.2 22))]) hx hb dX10_street_21 hl (k := 1) rfl (by rw [ey4]; rfl) (by decide) rfl (fun ls hl => ?_)
    refine lv_goto (tgt := 2) hx hb dX10_street_24 (by decide) ?_
    exact kc (V3, y4) (Option.some.inj h).symm H locs ls hw (lv_sub hl [1, 0] rfl)
set_option maxHeartbeats 4000000 in
set_option maxRecDepth 100000 in
theorem wX10_street_L92 {p : Program} {l : Launch} {e : Env} {s : State} {m : MethodId} {args : Array Value} {below : List Frame} {meth : Method} {c : Code} {G : GT} {Z : Nat → Nat × Nat} {Q : State → Prop} (E : En p s m args c meth cX10_street 3 RX10 (some .int) G (SG Z)) {x : (Int32 × VT)} (kr : ∀ q : (Int32 × VT), x = q → Q = MQ below (QI G s.heap.size q.1 q.2) args s 0 0 (gA G s.heap.size)) : ∀ (n : Nat) (q : (VT × Int32)), it_ (iX10_street_L92) n q = some x → ∀ (H : Heap) (locs : List Loc) (ls : Array Slot), HW G s.heap (q.1) H locs → lv_has ls 3 [(0, .ref (G.2.2 22)), (2, .int (q.2))] → W p l e (rmD 102) s m args below meth c H locs 0 0 Q (F0 m 92 ls []) := by
  have hx := en_x E
  have hb := en_b E
  have hB := en_B E
  refine it_W (fun q : (VT × Int32) => ∀ (H : Heap) (locs : List Loc) (ls : Array Slot), HW G s.heap (q.1) H locs → lv_has ls 3 [(0, .ref (G.2.2 22)), (2, .int (q.2))] → W p l e (rmD 102) s m args below meth c H locs 0 0 Q (F0 m 92 ls [])) x ?_
  intro q r h kc kx
  obtain ⟨V, u2⟩ := q
  intro H locs ls hw hl
  have h : fX10_street_L92 V u2 = some r := h
  have hw : HW G s.heap V H locs := hw
  have hl : lv_has ls 3 [(0, .ref (G.2.2 22)), (2, .int u2)] := hl
  have kr : ∀ q : (Int32 × VT), r = .inr (q) → Q = MQ below (QI G s.heap.size q.1 q.2) args s 0 0 (gA G s.heap.size) := fun q e => kr q (kx _ e).symm
  unfold fX10_street_L92 at h
  refine lv_iload_n hx hb dX10_street_92 rfl (lv_at hl 1 rfl) ?_
  refine lv_sipush (v := (1151 : Int32)) hx hb dX10_street_93 (by decide) ?_
  refine lv_icmp_ge (tgt := 117) hx hb dX10_street_96 (by decide) (fun c20 => ?_) (fun c20 => ?_)
  · rw [if_pos c20] at h
    refine lv_iconst (v := (0 : Int32)) hx hb dX10_street_117 (by decide) ?_
    rw [kr ((0 : Int32), V) (Option.some.inj h).symm]
    exact r_ri E hw dX10_street_118
  · rw [if_neg c20] at h
    refine lv_aload_n hx hb dX10_street_99 rfl (lv_at hl 0 rfl) ?_
    refine r_gr E hw 22 1 76 (N := 29) (C := RX10) (T := TX10) (by decide) rfl rfl (by decide) rfl iw_10 rfl lf_RX10_13 dX10_street_100 ?_
    refine lv_iload_n hx hb dX10_street_103 rfl (lv_at hl 1 rfl) ?_
    refine lv_aload_n hx hb dX10_street_104 rfl (lv_at hl 0 rfl) ?_
    refine r_gr E hw 22 3 78 (N := 29) (C := RX10) (T := TX10) (by decide) rfl rfl (by decide) rfl iw_10 rfl lf_RX10_20 dX10_street_105 ?_
    refine lv_iload_n hx hb dX10_street_108 rfl (lv_at hl 1 rfl) ?_
    obtain ⟨b16, h⟩ := rd_some h
    refine r_ia E hw 78 1151 (by decide) (by decide) (by decide) rfl rfl b16 dX10_street_109 ?_
    obtain ⟨b17, h⟩ := rd_some h
    obtain ⟨V18, eV18, h⟩ := lt_some h
    refine r_is E hw 76 1988 (by decide) (by decide) (by decide) rfl rfl b17 eV18 dX10_street_110 (fun H locs hw => ?_)
    obtain ⟨y19, ey19, h⟩ := lt_some h
    refine lv_iinc (v := y19) (lv' := [(2, .int y19), (0, .ref (G.2.2 22))]) hx hb dX10_street_111 hl (k := 1) rfl (by rw [ey19]; rfl) (by decide) rfl (fun ls hl => ?_)
    refine lv_goto (tgt := 92) hx hb dX10_street_114 (by decide) ?_
    exact kc (V18, y19) (Option.some.inj h).symm H locs ls hw (lv_sub hl [1, 0] rfl)
set_option maxHeartbeats 4000000 in
set_option maxRecDepth 100000 in
theorem wX10_street_j83 {p : Program} {l : Launch} {e : Env} {s : State} {m : MethodId} {args : Array Value} {below : List Frame} {meth : Method} {c : Code} {G : GT} {Z : Nat → Nat × Nat} {Q : State → Prop} (E : En p s m args c meth cX10_street 3 RX10 (some .int) G (SG Z)) {V : VT} {t0 : Int32} {r : (Int32 × VT)} (h : fX10_street_j83 V t0 = some r) (kr : Q = MQ below (QI G s.heap.size r.1 r.2) args s 0 0 (gA G s.heap.size)) {H : Heap} {locs : List Loc} {ls : Array Slot} (hw : HW G s.heap V H locs) (hl : lv_has ls 3 [(0, .ref (G.2.2 22))]) : W p l e (rmD 102) s m args below meth c H locs 0 0 Q (F0 m 83 ls [.int t0, .ref (G.2.2 22)]) := by
  have hx := en_x E
  have hb := en_b E
  have hB := en_B E
  unfold fX10_street_j83 at h
  refine lv_iconst (v := (2 : Int32)) hx hb dX10_street_83 (by decide) ?_
  obtain ⟨y25, V26, h24, h⟩ := ob_I_some h
  refine c_VI E hw (kX10_throwsIf (l := l) (G := G) hB  h24) yy_X10_throwsIf lm_RX10_233 rfl (by decide) rfl rfl hl.1 (by decide) (by decide) rfl (Nat.le_of_ble_eq_true rfl) dX10_street_84 (fun H locs hw => ?_)
  refine lv_if_eq (tgt := 119) hx hb dX10_street_87 (by decide) (fun c34 => ?_) (fun c34 => ?_)
  · rw [if_pos c34] at h
    refine lv_aload_n hx hb dX10_street_119 rfl (lv_at hl 0 rfl) ?_
    refine r_gr E hw 22 1 76 (N := 29) (C := RX10) (T := TX10) (by decide) rfl rfl (by decide) rfl iw_10 rfl lf_RX10_13 dX10_street_120 ?_
    refine lv_iconst (v := (2 : Int32)) hx hb dX10_street_123 (by decide) ?_
    refine lv_dup2_11 hx hb dX10_street_124 rfl rfl ?_
    obtain ⟨b27, h⟩ := rd_some h
    refine r_ia E hw 76 1988 (by decide) (by decide) (by decide) rfl rfl b27 dX10_street_125 ?_
    refine lv_iconst (v := (1 : Int32)) hx hb dX10_street_126 (by decide) ?_
    refine lv_iadd hx hb dX10_street_127 ?_
    obtain ⟨b28, h⟩ := rd_some h
    obtain ⟨V29, eV29, h⟩ := lt_some h
    refine r_is E hw 76 1988 (by decide) (by decide) (by decide) rfl rfl b28 eV29 dX10_street_128 (fun H locs hw => ?_)
    refine lv_aload_n hx hb dX10_street_129 rfl (lv_at hl 0 rfl) ?_
    refine lv_iconst (v := (0 : Int32)) hx hb dX10_street_130 (by decide) ?_
    obtain ⟨V30, eV30, h⟩ := lt_some h
    refine r_pi E hw 22 7 (N := 29) (C := RX10) (T := TX10) (ty0 := tyX10) (ty := .int) (by decide) rfl rfl (by decide) rfl iw_10 rfl tyX10_ok nmX10 rfl rfl (vp_nar_int _) rfl lf_RX10_59 eV30 dX10_street_131 (fun H locs hw => ?_)
    refine lv_aload_n hx hb dX10_street_134 rfl (lv_at hl 0 rfl) ?_
    refine r_gr E hw 22 1 76 (N := 29) (C := RX10) (T := TX10) (by decide) rfl rfl (by decide) rfl iw_10 rfl lf_RX10_13 dX10_street_135 ?_
    refine lv_iconst (v := (2 : Int32)) hx hb dX10_street_138 (by decide) ?_
    obtain ⟨b31, h⟩ := rd_some h
    refine r_ia E hw 76 1988 (by decide) (by decide) (by decide) rfl rfl b31 dX10_street_139 ?_
    have h := Option.some.inj h
    subst h
    rw [kr]
    exact r_ri E hw dX10_street_140
  · rw [if_neg c34] at h
    refine lv_iconst (v := (0 : Int32)) hx hb dX10_street_90 (by decide) ?_
    refine lv_istore_n (lv' := [(2, .int (0 : Int32)), (0, .ref (G.2.2 22))]) hx hb dX10_street_91 rfl hl (by decide) rfl (fun ls hl => ?_)
    obtain ⟨x33, h32, h⟩ := ob_R_some h
    have h := Option.some.inj h
    subst h
    exact wX10_street_L92 E (fun q e => by subst e; exact kr) FV (V26, (0 : Int32)) h32 H locs ls hw (lv_sub hl [1, 0] rfl)
set_option maxHeartbeats 4000000 in
set_option maxRecDepth 100000 in
theorem wX10_street_j59 {p : Program} {l : Launch} {e : Env} {s : State} {m : MethodId} {args : Array Value} {below : List Frame} {meth : Method} {c : Code} {G : GT} {Z : Nat → Nat × Nat} {Q : State → Prop} (E : En p s m args c meth cX10_street 3 RX10 (some .int) G (SG Z)) {V : VT} {t0 : Int32} {r : (Int32 × VT)} (h : fX10_street_j59 V t0 = some r) (kr : Q = MQ below (QI G s.heap.size r.1 r.2) args s 0 0 (gA G s.heap.size)) {H : Heap} {locs : List Loc} {ls : Array Slot} (hw : HW G s.heap V H locs) (hl : lv_has ls 3 [(0, .ref (G.2.2 22))]) : W p l e (rmD 102) s m args below meth c H locs 0 0 Q (F0 m 59 ls [.int t0, .ref (G.2.2 22)]) := by
  have hx := en_x E
  have hb := en_b E
  have hB := en_B E
  unfold fX10_street_j59 at h
  refine lv_iconst (v := (1 : Int32)) hx hb dX10_street_59 (by decide) ?_
  obtain ⟨y14, V15, h13, h⟩ := ob_I_some h
  refine c_VI E hw (kX10_throwsIf (l := l) (G := G) hB  h13) yy_X10_throwsIf lm_RX10_233 rfl (by decide) rfl rfl hl.1 (by decide) (by decide) rfl (Nat.le_of_ble_eq_true rfl) dX10_street_60 (fun H locs hw => ?_)
  refine lv_if_ne (tgt := 90) hx hb dX10_street_63 (by decide) (fun c36 => ?_) (fun c36 => ?_)
  · rw [if_neg c36] at h
    refine lv_iconst (v := (0 : Int32)) hx hb dX10_street_90 (by decide) ?_
    refine lv_istore_n (lv' := [(2, .int (0 : Int32)), (0, .ref (G.2.2 22))]) hx hb dX10_street_91 rfl hl (by decide) rfl (fun ls hl => ?_)
    obtain ⟨x22, h21, h⟩ := ob_R_some h
    have h := Option.some.inj h
    subst h
    exact wX10_street_L92 E (fun q e => by subst e; exact kr) FV (V15, (0 : Int32)) h21 H locs ls hw (lv_sub hl [1, 0] rfl)
  · rw [if_pos c36] at h
    refine lv_aload_n hx hb dX10_street_66 rfl (lv_at hl 0 rfl) ?_
    refine lv_aload_n hx hb dX10_street_67 rfl (lv_at hl 0 rfl) ?_
    refine r_gr E hw 22 1 76 (N := 29) (C := RX10) (T := TX10) (by decide) rfl rfl (by decide) rfl iw_10 rfl lf_RX10_13 dX10_street_68 ?_
    refine lv_iconst (v := (2 : Int32)) hx hb dX10_street_71 (by decide) ?_
    obtain ⟨b23, h⟩ := rd_some h
    refine r_ia E hw 76 1988 (by decide) (by decide) (by decide) rfl rfl b23 dX10_street_72 ?_
    refine lv_bipush (v := (12 : Int32)) hx hb dX10_street_73 (by decide) ?_
    refine lv_icmp_ne (tgt := 82) hx hb dX10_street_75 (by decide) (fun c35 => ?_) (fun c35 => ?_)
    · rw [if_neg c35] at h
      refine lv_iconst (v := (0 : Int32)) hx hb dX10_street_82 (by decide) ?_
      exact wX10_street_j83 E h kr hw (lv_sub hl [0] rfl)
    · rw [if_pos c35] at h
      refine lv_iconst (v := (1 : Int32)) hx hb dX10_street_78 (by decide) ?_
      refine lv_goto (tgt := 83) hx hb dX10_street_79 (by decide) ?_
      exact wX10_street_j83 E h kr hw (lv_sub hl [0] rfl)
set_option maxHeartbeats 4000000 in
set_option maxRecDepth 100000 in
theorem wX10_street_j46 {p : Program} {l : Launch} {e : Env} {s : State} {m : MethodId} {args : Array Value} {below : List Frame} {meth : Method} {c : Code} {G : GT} {Z : Nat → Nat × Nat} {Q : State → Prop} (E : En p s m args c meth cX10_street 3 RX10 (some .int) G (SG Z)) {V : VT} {u1 : Int32} {t0 : Int32} {r : (Int32 × VT)} (h : fX10_street_j46 V u1 t0 = some r) (kr : Q = MQ below (QI G s.heap.size r.1 r.2) args s 0 0 (gA G s.heap.size)) {H : Heap} {locs : List Loc} {ls : Array Slot} (hw : HW G s.heap V H locs) (hl : lv_has ls 3 [(0, .ref (G.2.2 22)), (1, .int u1)]) : W p l e (rmD 102) s m args below meth c H locs 0 0 Q (F0 m 46 ls [.int t0, .ref (G.2.2 22)]) := by
  have hx := en_x E
  have hb := en_b E
  have hB := en_B E
  unfold fX10_street_j46 at h
  obtain ⟨V12, eV12, h⟩ := lt_some h
  refine r_pi E hw 22 14 (N := 29) (C := RX10) (T := TX10) (ty0 := tyX10) (ty := .int) (by decide) rfl rfl (by decide) rfl iw_10 rfl tyX10_ok nmX10 rfl rfl (vp_nar_int _) rfl lf_RX10_33 eV12 dX10_street_46 (fun H locs hw => ?_)
  refine lv_aload_n hx hb dX10_street_49 rfl (lv_at hl 0 rfl) ?_
  refine lv_iload_n hx hb dX10_street_50 rfl (lv_at hl 1 rfl) ?_
  refine lv_if_ge (tgt := 58) hx hb dX10_street_51 (by decide) (fun c37 => ?_) (fun c37 => ?_)
  · rw [if_pos c37] at h
    refine lv_iconst (v := (0 : Int32)) hx hb dX10_street_58 (by decide) ?_
    exact wX10_street_j59 E h kr hw (lv_sub hl [0] rfl)
  · rw [if_neg c37] at h
    refine lv_iconst (v := (1 : Int32)) hx hb dX10_street_54 (by decide) ?_
    refine lv_goto (tgt := 59) hx hb dX10_street_55 (by decide) ?_
    exact wX10_street_j59 E h kr hw (lv_sub hl [0] rfl)
set_option maxHeartbeats 4000000 in
set_option maxRecDepth 100000 in
theorem kX10_street {l : Launch} {G : GT} {Z : Nat → Nat × Nat} {V : VT} {r : (Int32 × VT)} (h : fX10_street V = some r) : CI l G (SG Z) yX10_street (.code yX10_street cX10_street 3 (some .int)) 102 [.ref (G.2.2 22)] V r.1 r.2 := by
  intro sz
  refine met_of (Qs := fun sz => QI G sz (r.1) (r.2)) (SG_ok Z) (by decide) (Nat.le_of_ble_eq_true rfl) ?_ sz
  intro p e s m args below meth c ls E hw hl
  have hx := en_x E
  have hb := en_b E
  have hB := en_B E
  generalize hQ : MQ _ _ _ _ _ _ _ = Q
  have kr : Q = MQ below (QI G s.heap.size r.1 r.2) args s 0 0 (gA G s.heap.size) := hQ.symm
  have hl : lv_has ls 3 [(0, .ref (G.2.2 22))] := hl
  obtain ⟨H, eH⟩ : ∃ H, H = s.heap := ⟨_, rfl⟩
  obtain ⟨locs, elocs⟩ : ∃ z : List Loc, z = [] := ⟨_, rfl⟩
  have hw : HW G s.heap V H locs := by rw [eH, elocs]; exact hw
  show W p l e _ s m args below meth c s.heap [] 0 0 Q (F0 m 0 ls [])
  rw [← eH, ← elocs]
  unfold fX10_street at h
  refine lv_iconst (v := (0 : Int32)) hx hb dX10_street_0 (by decide) ?_
  refine lv_istore_n (lv' := [(1, .int (0 : Int32)), (0, .ref (G.2.2 22))]) hx hb dX10_street_1 rfl hl (by decide) rfl (fun ls hl => ?_)
  obtain ⟨x7, h6, h⟩ := ob_R_some h
  obtain ⟨V8, rfl⟩ : ∃ z, z = x7 := ⟨_, rfl⟩
  refine wX10_street_L2 E (fun q e H locs ls hw hl => ?_) FV (V, (0 : Int32)) h6 H locs ls hw (lv_sub hl [1, 0] rfl)
  subst e
  have hw : HW G s.heap V8 H locs := hw
  have hl : lv_has ls 3 [(0, .ref (G.2.2 22))] := hl
  have h := lt_eq h
  refine lv_aload_n hx hb dX10_street_27 rfl (lv_at hl 0 rfl) ?_
  refine lv_iconst (v := (1 : Int32)) hx hb dX10_street_28 (by decide) ?_
  obtain ⟨y10, V11, h9, h⟩ := ob_I_some h
  refine c_VI E hw (kX10_readAll (l := l) (G := G) (Z := Z)  h9) yy_X10_readAll lm_RX10_229 rfl (by decide) rfl rfl hl.1 (by decide) (by decide) rfl (Nat.le_of_ble_eq_true rfl) dX10_street_29 (fun H locs hw => ?_)
  refine lv_istore_n (lv' := [(1, .int y10), (0, .ref (G.2.2 22))]) hx hb dX10_street_32 rfl hl (by decide) rfl (fun ls hl => ?_)
  refine lv_aload_n hx hb dX10_street_33 rfl (lv_at hl 1 rfl) ?_
  refine lv_iload_n hx hb dX10_street_34 rfl (lv_at hl 0 rfl) ?_
  refine lv_if_ge (tgt := 45) hx hb dX10_street_35 (by decide) (fun c38 => ?_) (fun c38 => ?_)
  · rw [if_pos c38] at h
    refine lv_iconst (v := (-1 : Int32)) hx hb dX10_street_45 (by decide) ?_
    exact wX10_street_j46 E h kr hw (lv_sub hl [1, 0] rfl)
  · rw [if_neg c38] at h
    refine lv_aload_n hx hb dX10_street_38 rfl (lv_at hl 1 rfl) ?_
    refine r_gi E hw 22 12 (N := 29) (C := RX10) (T := TX10) (by decide) rfl rfl (by decide) rfl iw_10 rfl lf_RX10_97 dX10_street_39 ?_
    refine lv_goto (tgt := 46) hx hb dX10_street_42 (by decide) ?_
    exact wX10_street_j46 E h kr hw (lv_sub hl [1, 0] rfl)
/-! ===== AllSawItModel.law()I ===== -/
theorem dX10_law_0 : decode cX10_law 0 = .ok (.aload_n 0, 1) := by decide +kernel
theorem dX10_law_1 : decode cX10_law 1 = .ok (.iconst 0, 1) := by decide +kernel
theorem dX10_law_2 : decode cX10_law 2 = .ok (.invokevirtual 229, 3) := by decide +kernel
theorem dX10_law_5 : decode cX10_law 5 = .ok (.istore_n 1, 1) := by decide +kernel
theorem dX10_law_6 : decode cX10_law 6 = .ok (.aload_n 0, 1) := by decide +kernel
theorem dX10_law_7 : decode cX10_law 7 = .ok (.iload_n 1, 1) := by decide +kernel
theorem dX10_law_8 : decode cX10_law 8 = .ok (.ifCond .ge 10, 3) := by decide +kernel
theorem dX10_law_11 : decode cX10_law 11 = .ok (.aload_n 0, 1) := by decide +kernel
theorem dX10_law_12 : decode cX10_law 12 = .ok (.getfield 97, 3) := by decide +kernel
theorem dX10_law_15 : decode cX10_law 15 = .ok (.goto 4, 3) := by decide +kernel
theorem dX10_law_18 : decode cX10_law 18 = .ok (.iconst (-1), 1) := by decide +kernel
theorem dX10_law_19 : decode cX10_law 19 = .ok (.putfield 33, 3) := by decide +kernel
theorem dX10_law_22 : decode cX10_law 22 = .ok (.aload_n 0, 1) := by decide +kernel
theorem dX10_law_23 : decode cX10_law 23 = .ok (.iload_n 1, 1) := by decide +kernel
theorem dX10_law_24 : decode cX10_law 24 = .ok (.ifCond .ge 7, 3) := by decide +kernel
theorem dX10_law_27 : decode cX10_law 27 = .ok (.iconst 1, 1) := by decide +kernel
theorem dX10_law_28 : decode cX10_law 28 = .ok (.goto 4, 3) := by decide +kernel
theorem dX10_law_31 : decode cX10_law 31 = .ok (.iconst 0, 1) := by decide +kernel
theorem dX10_law_32 : decode cX10_law 32 = .ok (.iconst 1, 1) := by decide +kernel
theorem dX10_law_33 : decode cX10_law 33 = .ok (.invokevirtual 233, 3) := by decide +kernel
theorem dX10_law_36 : decode cX10_law 36 = .ok (.ifCond .eq 5, 3) := by decide +kernel
theorem dX10_law_39 : decode cX10_law 39 = .ok (.iconst 0, 1) := by decide +kernel
theorem dX10_law_40 : decode cX10_law 40 = .ok (.ireturn, 1) := by decide +kernel
theorem dX10_law_41 : decode cX10_law 41 = .ok (.aload_n 0, 1) := by decide +kernel
theorem dX10_law_42 : decode cX10_law 42 = .ok (.getfield 13, 3) := by decide +kernel
theorem dX10_law_45 : decode cX10_law 45 = .ok (.sipush 1151, 3) := by decide +kernel
theorem dX10_law_48 : decode cX10_law 48 = .ok (.iload_n 1, 1) := by decide +kernel
theorem dX10_law_49 : decode cX10_law 49 = .ok (.iastore, 1) := by decide +kernel
theorem dX10_law_50 : decode cX10_law 50 = .ok (.iconst 0, 1) := by decide +kernel
theorem dX10_law_51 : decode cX10_law 51 = .ok (.istore_n 2, 1) := by decide +kernel
theorem dX10_law_52 : decode cX10_law 52 = .ok (.iload_n 2, 1) := by decide +kernel
theorem dX10_law_53 : decode cX10_law 53 = .ok (.sipush 837, 3) := by decide +kernel
theorem dX10_law_56 : decode cX10_law 56 = .ok (.if_icmp .ge 29, 3) := by decide +kernel
theorem dX10_law_59 : decode cX10_law 59 = .ok (.aload_n 0, 1) := by decide +kernel
theorem dX10_law_60 : decode cX10_law 60 = .ok (.getfield 13, 3) := by decide +kernel
theorem dX10_law_63 : decode cX10_law 63 = .ok (.sipush 314, 3) := by decide +kernel
theorem dX10_law_66 : decode cX10_law 66 = .ok (.iload_n 2, 1) := by decide +kernel
theorem dX10_law_67 : decode cX10_law 67 = .ok (.iadd, 1) := by decide +kernel
theorem dX10_law_68 : decode cX10_law 68 = .ok (.aload_n 0, 1) := by decide +kernel
theorem dX10_law_69 : decode cX10_law 69 = .ok (.getfield 13, 3) := by decide +kernel
theorem dX10_law_72 : decode cX10_law 72 = .ok (.sipush 1151, 3) := by decide +kernel
theorem dX10_law_75 : decode cX10_law 75 = .ok (.iload_n 2, 1) := by decide +kernel
theorem dX10_law_76 : decode cX10_law 76 = .ok (.iadd, 1) := by decide +kernel
theorem dX10_law_77 : decode cX10_law 77 = .ok (.iaload, 1) := by decide +kernel
theorem dX10_law_78 : decode cX10_law 78 = .ok (.iastore, 1) := by decide +kernel
theorem dX10_law_79 : decode cX10_law 79 = .ok (.iinc 2 1, 3) := by decide +kernel
theorem dX10_law_82 : decode cX10_law 82 = .ok (.goto (-30), 3) := by decide +kernel
theorem dX10_law_85 : decode cX10_law 85 = .ok (.aload_n 0, 1) := by decide +kernel
theorem dX10_law_86 : decode cX10_law 86 = .ok (.getfield 13, 3) := by decide +kernel
theorem dX10_law_89 : decode cX10_law 89 = .ok (.iconst 3, 1) := by decide +kernel
theorem dX10_law_90 : decode cX10_law 90 = .ok (.iconst 1, 1) := by decide +kernel
theorem dX10_law_91 : decode cX10_law 91 = .ok (.iastore, 1) := by decide +kernel
theorem dX10_law_92 : decode cX10_law 92 = .ok (.aload_n 0, 1) := by decide +kernel
theorem dX10_law_93 : decode cX10_law 93 = .ok (.iconst 0, 1) := by decide +kernel
theorem dX10_law_94 : decode cX10_law 94 = .ok (.putfield 59, 3) := by decide +kernel
theorem dX10_law_97 : decode cX10_law 97 = .ok (.iload_n 1, 1) := by decide +kernel
theorem dX10_law_98 : decode cX10_law 98 = .ok (.ireturn, 1) := by decide +kernel
noncomputable def fX10_law_L52 (V : VT) (u1 : Int32) (u2 : Int32) : Option ((VT × Int32 × Int32) ⊕ (Int32 × VT)) := if (837 : Int32) ≤ u2 then (rd_ (3 : Int32) 1988 (lt_ (va_up V 76 (upd (V 76) (3 : Int32).toNatClampNeg (1 : Int32))) fun V11 => lt_ (va_up V11 22 (upd (V11 22) 7 (0 : Int32))) fun V12 => some (.inr ((u1, V12))))) else (rd_ ((1151 : Int32) + u2) 1988 (rd_ ((314 : Int32) + u2) 1988 (lt_ (va_up V 76 (upd (V 76) ((314 : Int32) + u2).toNatClampNeg (V 76 ((1151 : Int32) + u2).toNatClampNeg))) fun V15 => lt_ (u2 + (1 : Int32)) fun y16 => some (.inl (V15, u1, y16)))))
noncomputable def iX10_law_L52 : (VT × Int32 × Int32) → Option ((VT × Int32 × Int32) ⊕ (Int32 × VT)) := fun q => fX10_law_L52 (q.1) (q.2.1) (q.2.2)
noncomputable def fX10_law_j32 (V : VT) (u1 : Int32) (t0 : Int32) : Option (Int32 × VT) := ob_I (fX10_throwsIf V t0 (1 : Int32)) fun y6 V7 => if y6 = 0 then (rd_ (1151 : Int32) 1988 (lt_ (va_up V7 76 (upd (V7 76) (1151 : Int32).toNatClampNeg u1)) fun V9 => ob_R (it_ (iX10_law_L52) FV (V9, u1, (0 : Int32))) fun x19 => some x19)) else (some ((0 : Int32), V7))
noncomputable def fX10_law_j19 (V : VT) (u1 : Int32) (t0 : Int32) : Option (Int32 × VT) := lt_ (va_up V 22 (upd (V 22) 14 t0)) fun V4 => if 0 ≤ u1 then (fX10_law_j32 V4 u1 (0 : Int32)) else (fX10_law_j32 V4 u1 (1 : Int32))
noncomputable def fX10_law (V : VT) : Option (Int32 × VT) := ob_I (fX10_readAll V (0 : Int32)) fun y2 V3 => if 0 ≤ y2 then (fX10_law_j19 V3 y2 (-1 : Int32)) else (fX10_law_j19 V3 y2 (V3 22 12))
set_option maxHeartbeats 4000000 in
set_option maxRecDepth 100000 in
theorem wX10_law_L52 {p : Program} {l : Launch} {e : Env} {s : State} {m : MethodId} {args : Array Value} {below : List Frame} {meth : Method} {c : Code} {G : GT} {Z : Nat → Nat × Nat} {Q : State → Prop} (E : En p s m args c meth cX10_law 3 RX10 (some .int) G (SG Z)) {x : (Int32 × VT)} (kr : ∀ q : (Int32 × VT), x = q → Q = MQ below (QI G s.heap.size q.1 q.2) args s 0 0 (gA G s.heap.size)) : ∀ (n : Nat) (q : (VT × Int32 × Int32)), it_ (iX10_law_L52) n q = some x → ∀ (H : Heap) (locs : List Loc) (ls : Array Slot), HW G s.heap (q.1) H locs → lv_has ls 3 [(0, .ref (G.2.2 22)), (1, .int (q.2.1)), (2, .int (q.2.2))] → W p l e (rmD 102) s m args below meth c H locs 0 0 Q (F0 m 52 ls []) := by
  have hx := en_x E
  have hb := en_b E
  have hB := en_B E
  refine it_W (fun q : (VT × Int32 × Int32) => ∀ (H : Heap) (locs : List Loc) (ls : Array Slot), HW G s.heap (q.1) H locs → lv_has ls 3 [(0, .ref (G.2.2 22)), (1, .int (q.2.1)), (2, .int (q.2.2))] → W p l e (rmD 102) s m args below meth c H locs 0 0 Q (F0 m 52 ls [])) x ?_
  intro q r h kc kx
  obtain ⟨V, u1, u2⟩ := q
  intro H locs ls hw hl
  have h : fX10_law_L52 V u1 u2 = some r := h
  have hw : HW G s.heap V H locs := hw
  have hl : lv_has ls 3 [(0, .ref (G.2.2 22)), (1, .int u1), (2, .int u2)] := hl
  have kr : ∀ q : (Int32 × VT), r = .inr (q) → Q = MQ below (QI G s.heap.size q.1 q.2) args s 0 0 (gA G s.heap.size) := fun q e => kr q (kx _ e).symm
  unfold fX10_law_L52 at h
  refine lv_iload_n hx hb dX10_law_52 rfl (lv_at hl 2 rfl) ?_
  refine lv_sipush (v := (837 : Int32)) hx hb dX10_law_53 (by decide) ?_
  refine lv_icmp_ge (tgt := 85) hx hb dX10_law_56 (by decide) (fun c17 => ?_) (fun c17 => ?_)
  · rw [if_pos c17] at h
    refine lv_aload_n hx hb dX10_law_85 rfl (lv_at hl 0 rfl) ?_
    refine r_gr E hw 22 1 76 (N := 29) (C := RX10) (T := TX10) (by decide) rfl rfl (by decide) rfl iw_10 rfl lf_RX10_13 dX10_law_86 ?_
    refine lv_iconst (v := (3 : Int32)) hx hb dX10_law_89 (by decide) ?_
    refine lv_iconst (v := (1 : Int32)) hx hb dX10_law_90 (by decide) ?_
    obtain ⟨b10, h⟩ := rd_some h
    obtain ⟨V11, eV11, h⟩ := lt_some h
    refine r_is E hw 76 1988 (by decide) (by decide) (by decide) rfl rfl b10 eV11 dX10_law_91 (fun H locs hw => ?_)
    refine lv_aload_n hx hb dX10_law_92 rfl (lv_at hl 0 rfl) ?_
    refine lv_iconst (v := (0 : Int32)) hx hb dX10_law_93 (by decide) ?_
    obtain ⟨V12, eV12, h⟩ := lt_some h
    refine r_pi E hw 22 7 (N := 29) (C := RX10) (T := TX10) (ty0 := tyX10) (ty := .int) (by decide) rfl rfl (by decide) rfl iw_10 rfl tyX10_ok nmX10 rfl rfl (vp_nar_int _) rfl lf_RX10_59 eV12 dX10_law_94 (fun H locs hw => ?_)
    refine lv_iload_n hx hb dX10_law_97 rfl (lv_at hl 1 rfl) ?_
    rw [kr (u1, V12) (Option.some.inj h).symm]
    exact r_ri E hw dX10_law_98
  · rw [if_neg c17] at h
    refine lv_aload_n hx hb dX10_law_59 rfl (lv_at hl 0 rfl) ?_
    refine r_gr E hw 22 1 76 (N := 29) (C := RX10) (T := TX10) (by decide) rfl rfl (by decide) rfl iw_10 rfl lf_RX10_13 dX10_law_60 ?_
    refine lv_sipush (v := (314 : Int32)) hx hb dX10_law_63 (by decide) ?_
    refine lv_iload_n hx hb dX10_law_66 rfl (lv_at hl 2 rfl) ?_
    refine lv_iadd hx hb dX10_law_67 ?_
    refine lv_aload_n hx hb dX10_law_68 rfl (lv_at hl 0 rfl) ?_
    refine r_gr E hw 22 1 76 (N := 29) (C := RX10) (T := TX10) (by decide) rfl rfl (by decide) rfl iw_10 rfl lf_RX10_13 dX10_law_69 ?_
    refine lv_sipush (v := (1151 : Int32)) hx hb dX10_law_72 (by decide) ?_
    refine lv_iload_n hx hb dX10_law_75 rfl (lv_at hl 2 rfl) ?_
    refine lv_iadd hx hb dX10_law_76 ?_
    obtain ⟨b13, h⟩ := rd_some h
    refine r_ia E hw 76 1988 (by decide) (by decide) (by decide) rfl rfl b13 dX10_law_77 ?_
    obtain ⟨b14, h⟩ := rd_some h
    obtain ⟨V15, eV15, h⟩ := lt_some h
    refine r_is E hw 76 1988 (by decide) (by decide) (by decide) rfl rfl b14 eV15 dX10_law_78 (fun H locs hw => ?_)
    obtain ⟨y16, ey16, h⟩ := lt_some h
    refine lv_iinc (v := y16) (lv' := [(2, .int y16), (0, .ref (G.2.2 22)), (1, .int u1)]) hx hb dX10_law_79 hl (k := 2) rfl (by rw [ey16]; rfl) (by decide) rfl (fun ls hl => ?_)
    refine lv_goto (tgt := 52) hx hb dX10_law_82 (by decide) ?_
    exact kc (V15, u1, y16) (Option.some.inj h).symm H locs ls hw (lv_sub hl [1, 2, 0] rfl)
set_option maxHeartbeats 4000000 in
set_option maxRecDepth 100000 in
theorem wX10_law_j32 {p : Program} {l : Launch} {e : Env} {s : State} {m : MethodId} {args : Array Value} {below : List Frame} {meth : Method} {c : Code} {G : GT} {Z : Nat → Nat × Nat} {Q : State → Prop} (E : En p s m args c meth cX10_law 3 RX10 (some .int) G (SG Z)) {V : VT} {u1 : Int32} {t0 : Int32} {r : (Int32 × VT)} (h : fX10_law_j32 V u1 t0 = some r) (kr : Q = MQ below (QI G s.heap.size r.1 r.2) args s 0 0 (gA G s.heap.size)) {H : Heap} {locs : List Loc} {ls : Array Slot} (hw : HW G s.heap V H locs) (hl : lv_has ls 3 [(0, .ref (G.2.2 22)), (1, .int u1)]) : W p l e (rmD 102) s m args below meth c H locs 0 0 Q (F0 m 32 ls [.int t0, .ref (G.2.2 22)]) := by
  have hx := en_x E
  have hb := en_b E
  have hB := en_B E
  unfold fX10_law_j32 at h
  refine lv_iconst (v := (1 : Int32)) hx hb dX10_law_32 (by decide) ?_
  obtain ⟨y6, V7, h5, h⟩ := ob_I_some h
  refine c_VI E hw (kX10_throwsIf (l := l) (G := G) hB  h5) yy_X10_throwsIf lm_RX10_233 rfl (by decide) rfl rfl hl.1 (by decide) (by decide) rfl (Nat.le_of_ble_eq_true rfl) dX10_law_33 (fun H locs hw => ?_)
  refine lv_if_eq (tgt := 41) hx hb dX10_law_36 (by decide) (fun c20 => ?_) (fun c20 => ?_)
  · rw [if_pos c20] at h
    refine lv_aload_n hx hb dX10_law_41 rfl (lv_at hl 0 rfl) ?_
    refine r_gr E hw 22 1 76 (N := 29) (C := RX10) (T := TX10) (by decide) rfl rfl (by decide) rfl iw_10 rfl lf_RX10_13 dX10_law_42 ?_
    refine lv_sipush (v := (1151 : Int32)) hx hb dX10_law_45 (by decide) ?_
    refine lv_iload_n hx hb dX10_law_48 rfl (lv_at hl 1 rfl) ?_
    obtain ⟨b8, h⟩ := rd_some h
    obtain ⟨V9, eV9, h⟩ := lt_some h
    refine r_is E hw 76 1988 (by decide) (by decide) (by decide) rfl rfl b8 eV9 dX10_law_49 (fun H locs hw => ?_)
    refine lv_iconst (v := (0 : Int32)) hx hb dX10_law_50 (by decide) ?_
    refine lv_istore_n (lv' := [(2, .int (0 : Int32)), (0, .ref (G.2.2 22)), (1, .int u1)]) hx hb dX10_law_51 rfl hl (by decide) rfl (fun ls hl => ?_)
    obtain ⟨x19, h18, h⟩ := ob_R_some h
    have h := Option.some.inj h
    subst h
    exact wX10_law_L52 E (fun q e => by subst e; exact kr) FV (V9, u1, (0 : Int32)) h18 H locs ls hw (lv_sub hl [1, 2, 0] rfl)
  · rw [if_neg c20] at h
    refine lv_iconst (v := (0 : Int32)) hx hb dX10_law_39 (by decide) ?_
    have h := Option.some.inj h
    subst h
    rw [kr]
    exact r_ri E hw dX10_law_40
set_option maxHeartbeats 4000000 in
set_option maxRecDepth 100000 in
theorem wX10_law_j19 {p : Program} {l : Launch} {e : Env} {s : State} {m : MethodId} {args : Array Value} {below : List Frame} {meth : Method} {c : Code} {G : GT} {Z : Nat → Nat × Nat} {Q : State → Prop} (E : En p s m args c meth cX10_law 3 RX10 (some .int) G (SG Z)) {V : VT} {u1 : Int32} {t0 : Int32} {r : (Int32 × VT)} (h : fX10_law_j19 V u1 t0 = some r) (kr : Q = MQ below (QI G s.heap.size r.1 r.2) args s 0 0 (gA G s.heap.size)) {H : Heap} {locs : List Loc} {ls : Array Slot} (hw : HW G s.heap V H locs) (hl : lv_has ls 3 [(0, .ref (G.2.2 22)), (1, .int u1)]) : W p l e (rmD 102) s m args below meth c H locs 0 0 Q (F0 m 19 ls [.int t0, .ref (G.2.2 22)]) := by
  have hx := en_x E
  have hb := en_b E
  have hB := en_B E
  unfold fX10_law_j19 at h
  obtain ⟨V4, eV4, h⟩ := lt_some h
  refine r_pi E hw 22 14 (N := 29) (C := RX10) (T := TX10) (ty0 := tyX10) (ty := .int) (by decide) rfl rfl (by decide) rfl iw_10 rfl tyX10_ok nmX10 rfl rfl (vp_nar_int _) rfl lf_RX10_33 eV4 dX10_law_19 (fun H locs hw => ?_)
  refine lv_aload_n hx hb dX10_law_22 rfl (lv_at hl 0 rfl) ?_
  refine lv_iload_n hx hb dX10_law_23 rfl (lv_at hl 1 rfl) ?_
  refine lv_if_ge (tgt := 31) hx hb dX10_law_24 (by decide) (fun c21 => ?_) (fun c21 => ?_)
  · rw [if_pos c21] at h
    refine lv_iconst (v := (0 : Int32)) hx hb dX10_law_31 (by decide) ?_
    exact wX10_law_j32 E h kr hw (lv_sub hl [0, 1] rfl)
  · rw [if_neg c21] at h
    refine lv_iconst (v := (1 : Int32)) hx hb dX10_law_27 (by decide) ?_
    refine lv_goto (tgt := 32) hx hb dX10_law_28 (by decide) ?_
    exact wX10_law_j32 E h kr hw (lv_sub hl [0, 1] rfl)
set_option maxHeartbeats 4000000 in
set_option maxRecDepth 100000 in
theorem kX10_law {l : Launch} {G : GT} {Z : Nat → Nat × Nat} {V : VT} {r : (Int32 × VT)} (h : fX10_law V = some r) : CI l G (SG Z) yX10_law (.code yX10_law cX10_law 3 (some .int)) 102 [.ref (G.2.2 22)] V r.1 r.2 := by
  intro sz
  refine met_of (Qs := fun sz => QI G sz (r.1) (r.2)) (SG_ok Z) (by decide) (Nat.le_of_ble_eq_true rfl) ?_ sz
  intro p e s m args below meth c ls E hw hl
  have hx := en_x E
  have hb := en_b E
  have hB := en_B E
  generalize hQ : MQ _ _ _ _ _ _ _ = Q
  have kr : Q = MQ below (QI G s.heap.size r.1 r.2) args s 0 0 (gA G s.heap.size) := hQ.symm
  have hl : lv_has ls 3 [(0, .ref (G.2.2 22))] := hl
  obtain ⟨H, eH⟩ : ∃ H, H = s.heap := ⟨_, rfl⟩
  obtain ⟨locs, elocs⟩ : ∃ z : List Loc, z = [] := ⟨_, rfl⟩
  have hw : HW G s.heap V H locs := by rw [eH, elocs]; exact hw
  show W p l e _ s m args below meth c s.heap [] 0 0 Q (F0 m 0 ls [])
  rw [← eH, ← elocs]
  unfold fX10_law at h
  refine lv_aload_n hx hb dX10_law_0 rfl (lv_at hl 0 rfl) ?_
  refine lv_iconst (v := (0 : Int32)) hx hb dX10_law_1 (by decide) ?_
  obtain ⟨y2, V3, h1, h⟩ := ob_I_some h
  refine c_VI E hw (kX10_readAll (l := l) (G := G) (Z := Z)  h1) yy_X10_readAll lm_RX10_229 rfl (by decide) rfl rfl hl.1 (by decide) (by decide) rfl (Nat.le_of_ble_eq_true rfl) dX10_law_2 (fun H locs hw => ?_)
  refine lv_istore_n (lv' := [(1, .int y2), (0, .ref (G.2.2 22))]) hx hb dX10_law_5 rfl hl (by decide) rfl (fun ls hl => ?_)
  refine lv_aload_n hx hb dX10_law_6 rfl (lv_at hl 1 rfl) ?_
  refine lv_iload_n hx hb dX10_law_7 rfl (lv_at hl 0 rfl) ?_
  refine lv_if_ge (tgt := 18) hx hb dX10_law_8 (by decide) (fun c22 => ?_) (fun c22 => ?_)
  · rw [if_pos c22] at h
    refine lv_iconst (v := (-1 : Int32)) hx hb dX10_law_18 (by decide) ?_
    exact wX10_law_j19 E h kr hw (lv_sub hl [1, 0] rfl)
  · rw [if_neg c22] at h
    refine lv_aload_n hx hb dX10_law_11 rfl (lv_at hl 1 rfl) ?_
    refine r_gi E hw 22 12 (N := 29) (C := RX10) (T := TX10) (by decide) rfl rfl (by decide) rfl iw_10 rfl lf_RX10_97 dX10_law_12 ?_
    refine lv_goto (tgt := 19) hx hb dX10_law_15 (by decide) ?_
    exact wX10_law_j19 E h kr hw (lv_sub hl [1, 0] rfl)
