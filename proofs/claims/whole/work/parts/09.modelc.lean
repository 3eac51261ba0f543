/-! ===== AllSawItModel.clear(II)I ===== -/
theorem dX10_clear_0 : decode cX10_clear 0 = .ok (.aload_n 0, 1) := by decide +kernel
theorem dX10_clear_1 : decode cX10_clear 1 = .ok (.iconst 0, 1) := by decide +kernel
theorem dX10_clear_2 : decode cX10_clear 2 = .ok (.putfield 3, 3) := by decide +kernel
theorem dX10_clear_5 : decode cX10_clear 5 = .ok (.aload_n 0, 1) := by decide +kernel
theorem dX10_clear_6 : decode cX10_clear 6 = .ok (.iload_n 1, 1) := by decide +kernel
theorem dX10_clear_7 : decode cX10_clear 7 = .ok (.invokestatic 312, 3) := by decide +kernel
theorem dX10_clear_10 : decode cX10_clear 10 = .ok (.ifCond .ne 10, 3) := by decide +kernel
theorem dX10_clear_13 : decode cX10_clear 13 = .ok (.iload_n 2, 1) := by decide +kernel
theorem dX10_clear_14 : decode cX10_clear 14 = .ok (.invokestatic 315, 3) := by decide +kernel
theorem dX10_clear_17 : decode cX10_clear 17 = .ok (.ifCond .eq 7, 3) := by decide +kernel
theorem dX10_clear_20 : decode cX10_clear 20 = .ok (.iconst 1, 1) := by decide +kernel
theorem dX10_clear_21 : decode cX10_clear 21 = .ok (.goto 4, 3) := by decide +kernel
theorem dX10_clear_24 : decode cX10_clear 24 = .ok (.iconst 0, 1) := by decide +kernel
theorem dX10_clear_25 : decode cX10_clear 25 = .ok (.iconst 1, 1) := by decide +kernel
theorem dX10_clear_26 : decode cX10_clear 26 = .ok (.invokevirtual 233, 3) := by decide +kernel
theorem dX10_clear_29 : decode cX10_clear 29 = .ok (.ifCond .eq 5, 3) := by decide +kernel
theorem dX10_clear_32 : decode cX10_clear 32 = .ok (.iconst 0, 1) := by decide +kernel
theorem dX10_clear_33 : decode cX10_clear 33 = .ok (.ireturn, 1) := by decide +kernel
theorem dX10_clear_34 : decode cX10_clear 34 = .ok (.iconst (-1), 1) := by decide +kernel
theorem dX10_clear_35 : decode cX10_clear 35 = .ok (.istore_n 3, 1) := by decide +kernel
theorem dX10_clear_36 : decode cX10_clear 36 = .ok (.iconst 0, 1) := by decide +kernel
theorem dX10_clear_37 : decode cX10_clear 37 = .ok (.istore 4, 2) := by decide +kernel
theorem dX10_clear_39 : decode cX10_clear 39 = .ok (.iload 4, 2) := by decide +kernel
theorem dX10_clear_41 : decode cX10_clear 41 = .ok (.bipush 9, 2) := by decide +kernel
theorem dX10_clear_43 : decode cX10_clear 43 = .ok (.if_icmp .gt 38, 3) := by decide +kernel
theorem dX10_clear_46 : decode cX10_clear 46 = .ok (.aload_n 0, 1) := by decide +kernel
theorem dX10_clear_47 : decode cX10_clear 47 = .ok (.invokevirtual 62, 3) := by decide +kernel
theorem dX10_clear_50 : decode cX10_clear 50 = .ok (.ifCond .le 31, 3) := by decide +kernel
theorem dX10_clear_53 : decode cX10_clear 53 = .ok (.aload_n 0, 1) := by decide +kernel
theorem dX10_clear_54 : decode cX10_clear 54 = .ok (.iload_n 1, 1) := by decide +kernel
theorem dX10_clear_55 : decode cX10_clear 55 = .ok (.iload_n 2, 1) := by decide +kernel
theorem dX10_clear_56 : decode cX10_clear 56 = .ok (.iload 4, 2) := by decide +kernel
theorem dX10_clear_58 : decode cX10_clear 58 = .ok (.invokevirtual 305, 3) := by decide +kernel
theorem dX10_clear_61 : decode cX10_clear 61 = .ok (.aload_n 0, 1) := by decide +kernel
theorem dX10_clear_62 : decode cX10_clear 62 = .ok (.invokevirtual 321, 3) := by decide +kernel
theorem dX10_clear_65 : decode cX10_clear 65 = .ok (.if_icmp .ne 8, 3) := by decide +kernel
theorem dX10_clear_68 : decode cX10_clear 68 = .ok (.iload 4, 2) := by decide +kernel
theorem dX10_clear_70 : decode cX10_clear 70 = .ok (.goto 4, 3) := by decide +kernel
theorem dX10_clear_73 : decode cX10_clear 73 = .ok (.iload_n 3, 1) := by decide +kernel
theorem dX10_clear_74 : decode cX10_clear 74 = .ok (.istore_n 3, 1) := by decide +kernel
theorem dX10_clear_75 : decode cX10_clear 75 = .ok (.iinc 4 1, 3) := by decide +kernel
theorem dX10_clear_78 : decode cX10_clear 78 = .ok (.goto (-39), 3) := by decide +kernel
theorem dX10_clear_81 : decode cX10_clear 81 = .ok (.iload_n 3, 1) := by decide +kernel
theorem dX10_clear_82 : decode cX10_clear 82 = .ok (.ireturn, 1) := by decide +kernel
noncomputable def fX10_clear_L39 (V : VT) (u1 : Int32) (u2 : Int32) (u3 : Int32) (u4 : Int32) : Option ((VT × Int32 × Int32 × Int32 × Int32) ⊕ (Int32 × VT)) := if (9 : Int32) < u4 then (some (.inr ((u3, V)))) else (ob_R (fX10_houses V ) fun y8 => if y8 ≤ 0 then (some (.inr ((u3, V)))) else (ob_I (fX10_seersOf V u1 u2 u4) fun y10 V11 => ob_R (fX10_allHouses V11 ) fun y13 => if y10 = y13 then (lt_ (u4 + (1 : Int32)) fun y15 => some (.inl (V11, u1, u2, u4, y15))) else (lt_ (u4 + (1 : Int32)) fun y14 => some (.inl (V11, u1, u2, u3, y14)))))
noncomputable def iX10_clear_L39 : (VT × Int32 × Int32 × Int32 × Int32) → Option ((VT × Int32 × Int32 × Int32 × Int32) ⊕ (Int32 × VT)) := fun q => fX10_clear_L39 (q.1) (q.2.1) (q.2.2.1) (q.2.2.2.1) (q.2.2.2.2)
noncomputable def fX10_clear_j25 (V : VT) (u1 : Int32) (u2 : Int32) (t0 : Int32) : Option (Int32 × VT) := ob_I (fX10_throwsIf V t0 (1 : Int32)) fun y5 V6 => if y5 = 0 then (ob_R (it_ (iX10_clear_L39) FV (V6, u1, u2, (-1 : Int32), (0 : Int32))) fun x20 => some x20) else (some ((0 : Int32), V6))
noncomputable def fX10_clear_j20 (V : VT) (u1 : Int32) (u2 : Int32) : Option (Int32 × VT) := fX10_clear_j25 V u1 u2 (1 : Int32)
noncomputable def fX10_clear (V : VT) (x1 : Int32) (x2 : Int32) : Option (Int32 × VT) := lt_ (va_up V 22 (upd (V 22) 0 (0 : Int32))) fun V1 => ob_R (fX10_noPlace V1 x1) fun y3 => if y3 = 0 then (ob_R (fX10_noHour V1 x2) fun y23 => if y23 = 0 then (fX10_clear_j25 V1 x1 x2 (0 : Int32)) else (fX10_clear_j20 V1 x1 x2)) else (fX10_clear_j20 V1 x1 x2)
set_option maxHeartbeats 4000000 in
set_option maxRecDepth 100000 in
theorem wX10_clear_L39 {p : Program} {l : Launch} {e : Env} {s : State} {m : MethodId} {args : Array Value} {below : List Frame} {meth : Method} {c : Code} {G : GT} {B : BGt} {Q : State → Prop} (E : En p s m args c meth cX10_clear 5 RX10 (some .int) G B) {x : (Int32 × VT)} (kr : ∀ q : (Int32 × VT), x = q → Q = MQ below (QI G s.heap.size q.1 q.2) args s 0 0 (gA G s.heap.size)) : ∀ (n : Nat) (q : (VT × Int32 × Int32 × Int32 × Int32)), it_ (iX10_clear_L39) n q = some x → ∀ (H : Heap) (locs : List Loc) (ls : Array Slot), HW G s.heap (q.1) H locs → lv_has ls 5 [(0, .ref (G.2.2 22)), (1, .int (q.2.1)), (2, .int (q.2.2.1)), (3, .int (q.2.2.2.1)), (4, .int (q.2.2.2.2))] → W p l e (rmD 12) s m args below meth c H locs 0 0 Q (F0 m 39 ls []) := by
  have hx := en_x E
  have hb := en_b E
  have hB := en_B E
  refine it_W (fun q : (VT × Int32 × Int32 × Int32 × Int32) => ∀ (H : Heap) (locs : List Loc) (ls : Array Slot), HW G s.heap (q.1) H locs → lv_has ls 5 [(0, .ref (G.2.2 22)), (1, .int (q.2.1)), (2, .int (q.2.2.1)), (3, .int (q.2.2.2.1)), (4, .int (q.2.2.2.2))] → W p l e (rmD 12) s m args below meth c H locs 0 0 Q (F0 m 39 ls [])) x ?_
  intro q r h kc kx
  obtain ⟨V, u1, u2, u3, u4⟩ := q
  intro H locs ls hw hl
  have h : fX10_clear_L39 V u1 u2 u3 u4 = some r := h
  have hw : HW G s.heap V H locs := hw
  have hl : lv_has ls 5 [(0, .ref (G.2.2 22)), (1, .int u1), (2, .int u2), (3, .int u3), (4, .int u4)] := hl
  have kr : ∀ q : (Int32 × VT), r = .inr (q) → Q = MQ below (QI G s.heap.size q.1 q.2) args s 0 0 (gA G s.heap.size) := fun q e => kr q (kx _ e).symm
  unfold fX10_clear_L39 at h
  refine lv_iload hx hb dX10_clear_39 (lv_at hl 4 rfl) ?_
  refine lv_bipush (v := (9 : Int32)) hx hb dX10_clear_41 (by decide) ?_
  refine lv_icmp_gt (tgt := 81) hx hb dX10_clear_43 (by decide) (fun c18 => ?_) (fun c18 => ?_)
  · rw [if_pos c18] at h
    refine lv_iload_n hx hb dX10_clear_81 rfl (lv_at hl 3 rfl) ?_
    rw [kr (u3, V) (Option.some.inj h).symm]
    exact r_ri E hw dX10_clear_82
  · rw [if_neg c18] at h
    refine lv_aload_n hx hb dX10_clear_46 rfl (lv_at hl 0 rfl) ?_
    obtain ⟨y8, h7, h⟩ := ob_R_some h
    refine c_VI E hw (kX10_houses (l := l) (G := G) hB  h7) yy_X10_houses lm_RX10_62 rfl (by decide) rfl rfl hl.1 (by decide) (by decide) rfl (Nat.le_of_ble_eq_true rfl) dX10_clear_47 (fun H locs hw => ?_)
    refine lv_if_le (tgt := 81) hx hb dX10_clear_50 (by decide) (fun c17 => ?_) (fun c17 => ?_)
    · rw [if_pos c17] at h
      refine lv_iload_n hx hb dX10_clear_81 rfl (lv_at hl 3 rfl) ?_
      rw [kr (u3, V) (Option.some.inj h).symm]
      exact r_ri E hw dX10_clear_82
    · rw [if_neg c17] at h
      refine lv_aload_n hx hb dX10_clear_53 rfl (lv_at hl 0 rfl) ?_
      refine lv_iload_n hx hb dX10_clear_54 rfl (lv_at hl 1 rfl) ?_
      refine lv_iload_n hx hb dX10_clear_55 rfl (lv_at hl 2 rfl) ?_
      refine lv_iload hx hb dX10_clear_56 (lv_at hl 4 rfl) ?_
      obtain ⟨y10, V11, h9, h⟩ := ob_I_some h
      refine c_VI E hw (kX10_seersOf (l := l) (G := G) hB  h9) yy_X10_seersOf lm_RX10_305 rfl (by decide) rfl rfl hl.1 (by decide) (by decide) rfl (Nat.le_of_ble_eq_true rfl) dX10_clear_58 (fun H locs hw => ?_)
      refine lv_aload_n hx hb dX10_clear_61 rfl (lv_at hl 0 rfl) ?_
      obtain ⟨y13, h12, h⟩ := ob_R_some h
      refine c_VI E hw (kX10_allHouses (l := l) (G := G) hB  h12) yy_X10_allHouses lm_RX10_321 rfl (by decide) rfl rfl hl.1 (by decide) (by decide) rfl (Nat.le_of_ble_eq_true rfl) dX10_clear_62 (fun H locs hw => ?_)
      refine lv_icmp_ne (tgt := 73) hx hb dX10_clear_65 (by decide) (fun c16 => ?_) (fun c16 => ?_)
      · rw [if_neg c16] at h
        refine lv_iload_n hx hb dX10_clear_73 rfl (lv_at hl 3 rfl) ?_
        refine lv_istore_n (lv' := [(3, .int u3), (0, .ref (G.2.2 22)), (1, .int u1), (2, .int u2), (4, .int u4)]) hx hb dX10_clear_74 rfl hl (by decide) rfl (fun ls hl => ?_)
        obtain ⟨y14, ey14, h⟩ := lt_some h
        refine lv_iinc (v := y14) (lv' := [(4, .int y14), (3, .int u3), (0, .ref (G.2.2 22)), (1, .int u1), (2, .int u2)]) hx hb dX10_clear_75 hl (k := 4) rfl (by rw [ey14]; rfl) (by decide) rfl (fun ls hl => ?_)
        refine lv_goto (tgt := 39) hx hb dX10_clear_78 (by decide) ?_
        exact kc (V11, u1, u2, u3, y14) (Option.some.inj h).symm H locs ls hw (lv_sub hl [2, 3, 4, 1, 0] rfl)
      · rw [if_pos c16] at h
        refine lv_iload hx hb dX10_clear_68 (lv_at hl 4 rfl) ?_
        refine lv_goto (tgt := 74) hx hb dX10_clear_70 (by decide) ?_
        refine lv_istore_n (lv' := [(3, .int u4), (0, .ref (G.2.2 22)), (1, .int u1), (2, .int u2), (4, .int u4)]) hx hb dX10_clear_74 rfl hl (by decide) rfl (fun ls hl => ?_)
        obtain ⟨y15, ey15, h⟩ := lt_some h
        refine lv_iinc (v := y15) (lv' := [(4, .int y15), (3, .int u4), (0, .ref (G.2.2 22)), (1, .int u1), (2, .int u2)]) hx hb dX10_clear_75 hl (k := 4) rfl (by rw [ey15]; rfl) (by decide) rfl (fun ls hl => ?_)
        refine lv_goto (tgt := 39) hx hb dX10_clear_78 (by decide) ?_
        exact kc (V11, u1, u2, u4, y15) (Option.some.inj h).symm H locs ls hw (lv_sub hl [2, 3, 4, 1, 0] rfl)
set_option maxHeartbeats 4000000 in
set_option maxRecDepth 100000 in
theorem wX10_clear_j25 {p : Program} {l : Launch} {e : Env} {s : State} {m : MethodId} {args : Array Value} {below : List Frame} {meth : Method} {c : Code} {G : GT} {B : BGt} {Q : State → Prop} (E : En p s m args c meth cX10_clear 5 RX10 (some .int) G B) {V : VT} {u1 : Int32} {u2 : Int32} {t0 : Int32} {r : (Int32 × VT)} (h : fX10_clear_j25 V u1 u2 t0 = some r) (kr : Q = MQ below (QI G s.heap.size r.1 r.2) args s 0 0 (gA G s.heap.size)) {H : Heap} {locs : List Loc} {ls : Array Slot} (hw : HW G s.heap V H locs) (hl : lv_has ls 5 [(0, .ref (G.2.2 22)), (1, .int u1), (2, .int u2)]) : W p l e (rmD 12) s m args below meth c H locs 0 0 Q (F0 m 25 ls [.int t0, .ref (G.2.2 22)]) := by
  have hx := en_x E
  have hb := en_b E
  have hB := en_B E
  unfold fX10_clear_j25 at h
  refine lv_iconst (v := (1 : Int32)) hx hb dX10_clear_25 (by decide) ?_
  obtain ⟨y5, V6, h4, h⟩ := ob_I_some h
  refine c_VI E hw (kX10_throwsIf (l := l) (G := G) hB  h4) yy_X10_throwsIf lm_RX10_233 rfl (by decide) rfl rfl hl.1 (by decide) (by decide) rfl (Nat.le_of_ble_eq_true rfl) dX10_clear_26 (fun H locs hw => ?_)
  refine lv_if_eq (tgt := 34) hx hb dX10_clear_29 (by decide) (fun c21 => ?_) (fun c21 => ?_)
  · rw [if_pos c21] at h
    refine lv_iconst (v := (-1 : Int32)) hx hb dX10_clear_34 (by decide) ?_
    refine lv_istore_n (lv' := [(3, .int (-1 : Int32)), (0, .ref (G.2.2 22)), (1, .int u1), (2, .int u2)]) hx hb dX10_clear_35 rfl hl (by decide) rfl (fun ls hl => ?_)
    refine lv_iconst (v := (0 : Int32)) hx hb dX10_clear_36 (by decide) ?_
    refine lv_istore (lv' := [(4, .int (0 : Int32)), (3, .int (-1 : Int32)), (0, .ref (G.2.2 22)), (1, .int u1), (2, .int u2)]) hx hb dX10_clear_37 hl (by decide) rfl (fun ls hl => ?_)
    obtain ⟨x20, h19, h⟩ := ob_R_some h
    have h := Option.some.inj h
    subst h
    exact wX10_clear_L39 E (fun q e => by subst e; exact kr) FV (V6, u1, u2, (-1 : Int32), (0 : Int32)) h19 H locs ls hw (lv_sub hl [2, 3, 4, 1, 0] rfl)
  · rw [if_neg c21] at h
    refine lv_iconst (v := (0 : Int32)) hx hb dX10_clear_32 (by decide) ?_
    have h := Option.some.inj h
    subst h
    rw [kr]
    exact r_ri E hw dX10_clear_33
set_option maxHeartbeats 4000000 in
set_option maxRecDepth 100000 in
theorem wX10_clear_j20 {p : Program} {l : Launch} {e : Env} {s : State} {m : MethodId} {args : Array Value} {below : List Frame} {meth : Method} {c : Code} {G : GT} {B : BGt} {Q : State → Prop} (E : En p s m args c meth cX10_clear 5 RX10 (some .int) G B) {V : VT} {u1 : Int32} {u2 : Int32} {r : (Int32 × VT)} (h : fX10_clear_j20 V u1 u2 = some r) (kr : Q = MQ below (QI G s.heap.size r.1 r.2) args s 0 0 (gA G s.heap.size)) {H : Heap} {locs : List Loc} {ls : Array Slot} (hw : HW G s.heap V H locs) (hl : lv_has ls 5 [(0, .ref (G.2.2 22)), (1, .int u1), (2, .int u2)]) : W p l e (rmD 12) s m args below meth c H locs 0 0 Q (F0 m 20 ls [.ref (G.2.2 22)]) := by
  have hx := en_x E
  have hb := en_b E
  have hB := en_B E
  unfold fX10_clear_j20 at h
  refine lv_iconst (v := (1 : Int32)) hx hb dX10_clear_20 (by decide) ?_
  refine lv_goto (tgt := 25) hx hb dX10_clear_21 (by decide) ?_
  exact wX10_clear_j25 E h kr hw (lv_sub hl [0, 1, 2] rfl)
set_option maxHeartbeats 4000000 in
set_option maxRecDepth 100000 in
theorem kX10_clear {l : Launch} {G : GT} {B : BGt} (hB : BGok B) {V : VT} {x1 : Int32} {x2 : Int32} {r : (Int32 × VT)} (h : fX10_clear V x1 x2 = some r) : CI l G B yX10_clear (.code yX10_clear cX10_clear 5 (some .int)) 12 [.ref (G.2.2 22), .int x1, .int x2] V r.1 r.2 := by
  intro sz
  refine met_of (Qs := fun sz => QI G sz (r.1) (r.2)) hB (by decide) (Nat.le_of_ble_eq_true rfl) ?_ sz
  intro p e s m args below meth c ls E hw hl
  have hx := en_x E
  have hb := en_b E
  generalize hQ : MQ _ _ _ _ _ _ _ = Q
  have kr : Q = MQ below (QI G s.heap.size r.1 r.2) args s 0 0 (gA G s.heap.size) := hQ.symm
  have hl : lv_has ls 5 [(0, .ref (G.2.2 22)), (1, .int x1), (2, .int x2)] := hl
  obtain ⟨H, eH⟩ : ∃ H, H = s.heap := ⟨_, rfl⟩
  obtain ⟨locs, elocs⟩ : ∃ z : List Loc, z = [] := ⟨_, rfl⟩
  have hw : HW G s.heap V H locs := by rw [eH, elocs]; exact hw
  show W p l e _ s m args below meth c s.heap [] 0 0 Q (F0 m 0 ls [])
  rw [← eH, ← elocs]
  unfold fX10_clear at h
  refine lv_aload_n hx hb dX10_clear_0 rfl (lv_at hl 0 rfl) ?_
  refine lv_iconst (v := (0 : Int32)) hx hb dX10_clear_1 (by decide) ?_
  obtain ⟨V1, eV1, h⟩ := lt_some h
  refine r_pi E hw 22 0 (N := 29) (C := RX10) (T := TX10) (ty0 := tyX10) (ty := .int) (by decide) rfl rfl (by decide) rfl iw_10 rfl tyX10_ok nmX10 rfl rfl (vp_nar_int _) rfl lf_RX10_3 eV1 dX10_clear_2 (fun H locs hw => ?_)
  refine lv_aload_n hx hb dX10_clear_5 rfl (lv_at hl 0 rfl) ?_
  refine lv_iload_n hx hb dX10_clear_6 rfl (lv_at hl 1 rfl) ?_
  obtain ⟨y3, h2, h⟩ := ob_R_some h
  refine c_SI E hw (kX10_noPlace (l := l) (G := G) hB  h2) yy_X10_noPlace lm_RX10_312 rfl hl.1 (by decide) (by decide) rfl (Nat.le_of_ble_eq_true rfl) dX10_clear_7 (fun H locs hw => ?_)
  refine lv_if_ne (tgt := 20) hx hb dX10_clear_10 (by decide) (fun c25 => ?_) (fun c25 => ?_)
  · rw [if_neg c25] at h
    exact wX10_clear_j20 E h kr hw (lv_sub hl [0, 1, 2] rfl)
  · rw [if_pos c25] at h
    refine lv_iload_n hx hb dX10_clear_13 rfl (lv_at hl 2 rfl) ?_
    obtain ⟨y23, h22, h⟩ := ob_R_some h
    refine c_SI E hw (kX10_noHour (l := l) (G := G) hB  h22) yy_X10_noHour lm_RX10_315 rfl hl.1 (by decide) (by decide) rfl (Nat.le_of_ble_eq_true rfl) dX10_clear_14 (fun H locs hw => ?_)
    refine lv_if_eq (tgt := 24) hx hb dX10_clear_17 (by decide) (fun c24 => ?_) (fun c24 => ?_)
    · rw [if_pos c24] at h
      refine lv_iconst (v := (0 : Int32)) hx hb dX10_clear_24 (by decide) ?_
      exact wX10_clear_j25 E h kr hw (lv_sub hl [0, 1, 2] rfl)
    · rw [if_neg c24] at h
      exact wX10_clear_j20 E h kr hw (lv_sub hl [0, 1, 2] rfl)
/-! ===== AllSawItModel.isFree(I)Z ===== -/
theorem dX10_isFree_0 : decode cX10_isFree 0 = .ok (.aload_n 0, 1) := by decide +kernel
theorem dX10_isFree_1 : decode cX10_isFree 1 = .ok (.iload_n 1, 1) := by decide +kernel
theorem dX10_isFree_2 : decode cX10_isFree 2 = .ok (.iconst 2, 1) := by decide +kernel
theorem dX10_isFree_3 : decode cX10_isFree 3 = .ok (.invokevirtual 73, 3) := by decide +kernel
theorem dX10_isFree_6 : decode cX10_isFree 6 = .ok (.ifCond .lt 16, 3) := by decide +kernel
theorem dX10_isFree_9 : decode cX10_isFree 9 = .ok (.aload_n 0, 1) := by decide +kernel
theorem dX10_isFree_10 : decode cX10_isFree 10 = .ok (.aload_n 0, 1) := by decide +kernel
theorem dX10_isFree_11 : decode cX10_isFree 11 = .ok (.iload_n 1, 1) := by decide +kernel
theorem dX10_isFree_12 : decode cX10_isFree 12 = .ok (.iconst 2, 1) := by decide +kernel
theorem dX10_isFree_13 : decode cX10_isFree 13 = .ok (.invokevirtual 73, 3) := by decide +kernel
theorem dX10_isFree_16 : decode cX10_isFree 16 = .ok (.invokevirtual 340, 3) := by decide +kernel
theorem dX10_isFree_19 : decode cX10_isFree 19 = .ok (.ifCond .eq 7, 3) := by decide +kernel
theorem dX10_isFree_22 : decode cX10_isFree 22 = .ok (.iconst 1, 1) := by decide +kernel
theorem dX10_isFree_23 : decode cX10_isFree 23 = .ok (.goto 4, 3) := by decide +kernel
theorem dX10_isFree_26 : decode cX10_isFree 26 = .ok (.iconst 0, 1) := by decide +kernel
theorem dX10_isFree_27 : decode cX10_isFree 27 = .ok (.ireturn, 1) := by decide +kernel
noncomputable def fX10_isFree (V : VT) (x1 : Int32) : Option Int32 := ob_R (fX10_ofDeed V x1 (2 : Int32)) fun y2 => if y2 < 0 then (zo_ (1 : Int32) (some (1 : Int32))) else (ob_R (fX10_ofDeed V x1 (2 : Int32)) fun y5 => ob_R (fX10_isSo V y5) fun y7 => if y7 = 0 then (zo_ (0 : Int32) (some (0 : Int32))) else (zo_ (1 : Int32) (some (1 : Int32))))
set_option maxHeartbeats 4000000 in
set_option maxRecDepth 100000 in
theorem kX10_isFree {l : Launch} {G : GT} {B : BGt} (hB : BGok B) {V : VT} {x1 : Int32} {r : Int32} (h : fX10_isFree V x1 = some r) : CI l G B yX10_isFree (.code yX10_isFree cX10_isFree 2 (some .boolean)) 5 [.ref (G.2.2 22), .int x1] V r V := by
  intro sz
  refine met_of (Qs := fun sz => QI G sz r V) hB (by decide) (Nat.le_of_ble_eq_true rfl) ?_ sz
  intro p e s m args below meth c ls E hw hl
  have hx := en_x E
  have hb := en_b E
  generalize hQ : MQ _ _ _ _ _ _ _ = Q
  have kr : Q = MQ below (QI G s.heap.size r V) args s 0 0 (gA G s.heap.size) := hQ.symm
  have hl : lv_has ls 2 [(0, .ref (G.2.2 22)), (1, .int x1)] := hl
  obtain ⟨H, eH⟩ : ∃ H, H = s.heap := ⟨_, rfl⟩
  obtain ⟨locs, elocs⟩ : ∃ z : List Loc, z = [] := ⟨_, rfl⟩
  have hw : HW G s.heap V H locs := by rw [eH, elocs]; exact hw
  show W p l e _ s m args below meth c s.heap [] 0 0 Q (F0 m 0 ls [])
  rw [← eH, ← elocs]
  unfold fX10_isFree at h
  refine lv_aload_n hx hb dX10_isFree_0 rfl (lv_at hl 0 rfl) ?_
  refine lv_iload_n hx hb dX10_isFree_1 rfl (lv_at hl 1 rfl) ?_
  refine lv_iconst (v := (2 : Int32)) hx hb dX10_isFree_2 (by decide) ?_
  obtain ⟨y2, h1, h⟩ := ob_R_some h
  refine c_VI E hw (kX10_ofDeed (l := l) (G := G) hB  h1) yy_X10_ofDeed lm_RX10_73 rfl (by decide) rfl rfl hl.1 (by decide) (by decide) rfl (Nat.le_of_ble_eq_true rfl) dX10_isFree_3 (fun H locs hw => ?_)
  refine lv_if_lt (tgt := 22) hx hb dX10_isFree_6 (by decide) (fun c11 => ?_) (fun c11 => ?_)
  · rw [if_pos c11] at h
    refine lv_iconst (v := (1 : Int32)) hx hb dX10_isFree_22 (by decide) ?_
    refine lv_goto (tgt := 27) hx hb dX10_isFree_23 (by decide) ?_
    obtain ⟨z3, h⟩ := zo_some h
    have h := Option.some.inj h
    subst h
    rw [kr]
    exact r_rz E hw z3 dX10_isFree_27
  · rw [if_neg c11] at h
    refine lv_aload_n hx hb dX10_isFree_9 rfl (lv_at hl 0 rfl) ?_
    refine lv_aload_n hx hb dX10_isFree_10 rfl (lv_at hl 0 rfl) ?_
    refine lv_iload_n hx hb dX10_isFree_11 rfl (lv_at hl 1 rfl) ?_
    refine lv_iconst (v := (2 : Int32)) hx hb dX10_isFree_12 (by decide) ?_
    obtain ⟨y5, h4, h⟩ := ob_R_some h
    refine c_VI E hw (kX10_ofDeed (l := l) (G := G) hB  h4) yy_X10_ofDeed lm_RX10_73 rfl (by decide) rfl rfl hl.1 (by decide) (by decide) rfl (Nat.le_of_ble_eq_true rfl) dX10_isFree_13 (fun H locs hw => ?_)
    obtain ⟨y7, h6, h⟩ := ob_R_some h
    refine c_VI E hw (kX10_isSo (l := l) (G := G) hB  h6) yy_X10_isSo lm_RX10_340 rfl (by decide) rfl rfl hl.1 (by decide) (by decide) rfl (Nat.le_of_ble_eq_true rfl) dX10_isFree_16 (fun H locs hw => ?_)
    refine lv_if_eq (tgt := 26) hx hb dX10_isFree_19 (by decide) (fun c10 => ?_) (fun c10 => ?_)
    · rw [if_pos c10] at h
      refine lv_iconst (v := (0 : Int32)) hx hb dX10_isFree_26 (by decide) ?_
      obtain ⟨z8, h⟩ := zo_some h
      have h := Option.some.inj h
      subst h
      rw [kr]
      exact r_rz E hw z8 dX10_isFree_27
    · rw [if_neg c10] at h
      refine lv_iconst (v := (1 : Int32)) hx hb dX10_isFree_22 (by decide) ?_
      refine lv_goto (tgt := 27) hx hb dX10_isFree_23 (by decide) ?_
      obtain ⟨z9, h⟩ := zo_some h
      have h := Option.some.inj h
      subst h
      rw [kr]
      exact r_rz E hw z9 dX10_isFree_27
/-! ===== AllSawItModel.aheadOf(I)I ===== -/
theorem dX10_aheadOf_0 : decode cX10_aheadOf 0 = .ok (.iconst 0, 1) := by decide +kernel
theorem dX10_aheadOf_1 : decode cX10_aheadOf 1 = .ok (.istore_n 2, 1) := by decide +kernel
theorem dX10_aheadOf_2 : decode cX10_aheadOf 2 = .ok (.aload_n 0, 1) := by decide +kernel
theorem dX10_aheadOf_3 : decode cX10_aheadOf 3 = .ok (.iload_n 1, 1) := by decide +kernel
theorem dX10_aheadOf_4 : decode cX10_aheadOf 4 = .ok (.iconst 2, 1) := by decide +kernel
theorem dX10_aheadOf_5 : decode cX10_aheadOf 5 = .ok (.invokevirtual 73, 3) := by decide +kernel
theorem dX10_aheadOf_8 : decode cX10_aheadOf 8 = .ok (.istore_n 3, 1) := by decide +kernel
theorem dX10_aheadOf_9 : decode cX10_aheadOf 9 = .ok (.iload_n 3, 1) := by decide +kernel
theorem dX10_aheadOf_10 : decode cX10_aheadOf 10 = .ok (.ifCond .lt 19, 3) := by decide +kernel
theorem dX10_aheadOf_13 : decode cX10_aheadOf 13 = .ok (.iload_n 2, 1) := by decide +kernel
theorem dX10_aheadOf_14 : decode cX10_aheadOf 14 = .ok (.iconst 1, 1) := by decide +kernel
theorem dX10_aheadOf_15 : decode cX10_aheadOf 15 = .ok (.iload_n 3, 1) := by decide +kernel
theorem dX10_aheadOf_16 : decode cX10_aheadOf 16 = .ok (.ishl, 1) := by decide +kernel
theorem dX10_aheadOf_17 : decode cX10_aheadOf 17 = .ok (.ior, 1) := by decide +kernel
theorem dX10_aheadOf_18 : decode cX10_aheadOf 18 = .ok (.istore_n 2, 1) := by decide +kernel
theorem dX10_aheadOf_19 : decode cX10_aheadOf 19 = .ok (.aload_n 0, 1) := by decide +kernel
theorem dX10_aheadOf_20 : decode cX10_aheadOf 20 = .ok (.iload_n 3, 1) := by decide +kernel
theorem dX10_aheadOf_21 : decode cX10_aheadOf 21 = .ok (.iconst 2, 1) := by decide +kernel
theorem dX10_aheadOf_22 : decode cX10_aheadOf 22 = .ok (.invokevirtual 73, 3) := by decide +kernel
theorem dX10_aheadOf_25 : decode cX10_aheadOf 25 = .ok (.istore_n 3, 1) := by decide +kernel
theorem dX10_aheadOf_26 : decode cX10_aheadOf 26 = .ok (.goto (-17), 3) := by decide +kernel
theorem dX10_aheadOf_29 : decode cX10_aheadOf 29 = .ok (.iload_n 2, 1) := by decide +kernel
theorem dX10_aheadOf_30 : decode cX10_aheadOf 30 = .ok (.ireturn, 1) := by decide +kernel
noncomputable def fX10_aheadOf_L9 (V : VT) (u2 : Int32) (u3 : Int32) : Option ((Int32 × Int32) ⊕ Int32) := if u3 < 0 then (some (.inr (u2))) else (lt_ (u2 ||| ((1 : Int32) <<< (u3 &&& 31))) fun y3 => ob_R (fX10_ofDeed V u3 (2 : Int32)) fun y5 => some (.inl (y3, y5)))
noncomputable def iX10_aheadOf_L9 (V : VT) : (Int32 × Int32) → Option ((Int32 × Int32) ⊕ Int32) := fun q => fX10_aheadOf_L9 V (q.1) (q.2)
noncomputable def fX10_aheadOf (V : VT) (x1 : Int32) : Option Int32 := ob_R (fX10_ofDeed V x1 (2 : Int32)) fun y2 => ob_R (it_ (iX10_aheadOf_L9 V) FV ((0 : Int32), y2)) fun x8 => some x8
set_option maxHeartbeats 4000000 in
set_option maxRecDepth 100000 in
theorem wX10_aheadOf_L9 {p : Program} {l : Launch} {e : Env} {s : State} {m : MethodId} {args : Array Value} {below : List Frame} {meth : Method} {c : Code} {G : GT} {B : BGt} {Q : State → Prop} (E : En p s m args c meth cX10_aheadOf 4 RX10 (some .int) G B) {V : VT} {x : Int32} (kr : ∀ q : Int32, x = q → Q = MQ below (QI G s.heap.size q V) args s 0 0 (gA G s.heap.size)) : ∀ (n : Nat) (q : (Int32 × Int32)), it_ (iX10_aheadOf_L9 V) n q = some x → ∀ (H : Heap) (locs : List Loc) (ls : Array Slot), HW G s.heap V H locs → lv_has ls 4 [(0, .ref (G.2.2 22)), (2, .int (q.1)), (3, .int (q.2))] → W p l e (rmD 4) s m args below meth c H locs 0 0 Q (F0 m 9 ls []) := by
  have hx := en_x E
  have hb := en_b E
  have hB := en_B E
  refine it_W (fun q : (Int32 × Int32) => ∀ (H : Heap) (locs : List Loc) (ls : Array Slot), HW G s.heap V H locs → lv_has ls 4 [(0, .ref (G.2.2 22)), (2, .int (q.1)), (3, .int (q.2))] → W p l e (rmD 4) s m args below meth c H locs 0 0 Q (F0 m 9 ls [])) x ?_
  intro q r h kc kx
  obtain ⟨u2, u3⟩ := q
  intro H locs ls hw hl
  have h : fX10_aheadOf_L9 V u2 u3 = some r := h
  have hw : HW G s.heap V H locs := hw
  have hl : lv_has ls 4 [(0, .ref (G.2.2 22)), (2, .int u2), (3, .int u3)] := hl
  have kr : ∀ q : Int32, r = .inr (q) → Q = MQ below (QI G s.heap.size q V) args s 0 0 (gA G s.heap.size) := fun q e => kr q (kx _ e).symm
  unfold fX10_aheadOf_L9 at h
  refine lv_iload_n hx hb dX10_aheadOf_9 rfl (lv_at hl 2 rfl) ?_
  refine lv_if_lt (tgt := 29) hx hb dX10_aheadOf_10 (by decide) (fun c6 => ?_) (fun c6 => ?_)
  · rw [if_pos c6] at h
    refine lv_iload_n hx hb dX10_aheadOf_29 rfl (lv_at hl 1 rfl) ?_
    rw [kr u2 (Option.some.inj h).symm]
    exact r_ri E hw dX10_aheadOf_30
  · rw [if_neg c6] at h
    refine lv_iload_n hx hb dX10_aheadOf_13 rfl (lv_at hl 1 rfl) ?_
    refine lv_iconst (v := (1 : Int32)) hx hb dX10_aheadOf_14 (by decide) ?_
    refine lv_iload_n hx hb dX10_aheadOf_15 rfl (lv_at hl 2 rfl) ?_
    refine lv_ishl hx hb dX10_aheadOf_16 ?_
    refine lv_ior hx hb dX10_aheadOf_17 ?_
    obtain ⟨y3, ey3, h⟩ := lt_some h
    refine lv_eqi ey3 ?_
    refine lv_istore_n (lv' := [(2, .int y3), (0, .ref (G.2.2 22)), (3, .int u3)]) hx hb dX10_aheadOf_18 rfl hl (by decide) rfl (fun ls hl => ?_)
    refine lv_aload_n hx hb dX10_aheadOf_19 rfl (lv_at hl 1 rfl) ?_
    refine lv_iload_n hx hb dX10_aheadOf_20 rfl (lv_at hl 2 rfl) ?_
    refine lv_iconst (v := (2 : Int32)) hx hb dX10_aheadOf_21 (by decide) ?_
    obtain ⟨y5, h4, h⟩ := ob_R_some h
    refine c_VI E hw (kX10_ofDeed (l := l) (G := G) hB  h4) yy_X10_ofDeed lm_RX10_73 rfl (by decide) rfl rfl hl.1 (by decide) (by decide) rfl (Nat.le_of_ble_eq_true rfl) dX10_aheadOf_22 (fun H locs hw => ?_)
    refine lv_istore_n (lv' := [(3, .int y5), (2, .int y3), (0, .ref (G.2.2 22))]) hx hb dX10_aheadOf_25 rfl hl (by decide) rfl (fun ls hl => ?_)
    refine lv_goto (tgt := 9) hx hb dX10_aheadOf_26 (by decide) ?_
    exact kc (y3, y5) (Option.some.inj h).symm H locs ls hw (lv_sub hl [2, 1, 0] rfl)
set_option maxHeartbeats 4000000 in
set_option maxRecDepth 100000 in
theorem kX10_aheadOf {l : Launch} {G : GT} {B : BGt} (hB : BGok B) {V : VT} {x1 : Int32} {r : Int32} (h : fX10_aheadOf V x1 = some r) : CI l G B yX10_aheadOf (.code yX10_aheadOf cX10_aheadOf 4 (some .int)) 4 [.ref (G.2.2 22), .int x1] V r V := by
  intro sz
  refine met_of (Qs := fun sz => QI G sz r V) hB (by decide) (Nat.le_of_ble_eq_true rfl) ?_ sz
  intro p e s m args below meth c ls E hw hl
  have hx := en_x E
  have hb := en_b E
  generalize hQ : MQ _ _ _ _ _ _ _ = Q
  have kr : Q = MQ below (QI G s.heap.size r V) args s 0 0 (gA G s.heap.size) := hQ.symm
  have hl : lv_has ls 4 [(0, .ref (G.2.2 22)), (1, .int x1)] := hl
  obtain ⟨H, eH⟩ : ∃ H, H = s.heap := ⟨_, rfl⟩
  obtain ⟨locs, elocs⟩ : ∃ z : List Loc, z = [] := ⟨_, rfl⟩
  have hw : HW G s.heap V H locs := by rw [eH, elocs]; exact hw
  show W p l e _ s m args below meth c s.heap [] 0 0 Q (F0 m 0 ls [])
  rw [← eH, ← elocs]
  unfold fX10_aheadOf at h
  refine lv_iconst (v := (0 : Int32)) hx hb dX10_aheadOf_0 (by decide) ?_
  refine lv_istore_n (lv' := [(2, .int (0 : Int32)), (0, .ref (G.2.2 22)), (1, .int x1)]) hx hb dX10_aheadOf_1 rfl hl (by decide) rfl (fun ls hl => ?_)
  refine lv_aload_n hx hb dX10_aheadOf_2 rfl (lv_at hl 1 rfl) ?_
  refine lv_iload_n hx hb dX10_aheadOf_3 rfl (lv_at hl 2 rfl) ?_
  refine lv_iconst (v := (2 : Int32)) hx hb dX10_aheadOf_4 (by decide) ?_
  obtain ⟨y2, h1, h⟩ := ob_R_some h
  refine c_VI E hw (kX10_ofDeed (l := l) (G := G) hB  h1) yy_X10_ofDeed lm_RX10_73 rfl (by decide) rfl rfl hl.1 (by decide) (by decide) rfl (Nat.le_of_ble_eq_true rfl) dX10_aheadOf_5 (fun H locs hw => ?_)
  refine lv_istore_n (lv' := [(3, .int y2), (2, .int (0 : Int32)), (0, .ref (G.2.2 22)), (1, .int x1)]) hx hb dX10_aheadOf_8 rfl hl (by decide) rfl (fun ls hl => ?_)
  obtain ⟨x8, h7, h⟩ := ob_R_some h
  have h := Option.some.inj h
  subst h
  exact wX10_aheadOf_L9 E (fun q e => by subst e; exact kr) FV ((0 : Int32), y2) h7 H locs ls hw (lv_sub hl [2, 1, 0] rfl)
/-! ===== AllSawItModel.hangsOn(I)I ===== -/
theorem dX10_hangsOn_0 : decode cX10_hangsOn 0 = .ok (.iconst 0, 1) := by decide +kernel
theorem dX10_hangsOn_1 : decode cX10_hangsOn 1 = .ok (.istore_n 2, 1) := by decide +kernel
theorem dX10_hangsOn_2 : decode cX10_hangsOn 2 = .ok (.iload_n 1, 1) := by decide +kernel
theorem dX10_hangsOn_3 : decode cX10_hangsOn 3 = .ok (.iconst 1, 1) := by decide +kernel
theorem dX10_hangsOn_4 : decode cX10_hangsOn 4 = .ok (.iadd, 1) := by decide +kernel
theorem dX10_hangsOn_5 : decode cX10_hangsOn 5 = .ok (.istore_n 3, 1) := by decide +kernel
theorem dX10_hangsOn_6 : decode cX10_hangsOn 6 = .ok (.iload_n 3, 1) := by decide +kernel
theorem dX10_hangsOn_7 : decode cX10_hangsOn 7 = .ok (.aload_n 0, 1) := by decide +kernel
theorem dX10_hangsOn_8 : decode cX10_hangsOn 8 = .ok (.invokevirtual 80, 3) := by decide +kernel
theorem dX10_hangsOn_11 : decode cX10_hangsOn 11 = .ok (.if_icmp .ge 31, 3) := by decide +kernel
theorem dX10_hangsOn_14 : decode cX10_hangsOn 14 = .ok (.iload_n 2, 1) := by decide +kernel
theorem dX10_hangsOn_15 : decode cX10_hangsOn 15 = .ok (.aload_n 0, 1) := by decide +kernel
theorem dX10_hangsOn_16 : decode cX10_hangsOn 16 = .ok (.iload_n 3, 1) := by decide +kernel
theorem dX10_hangsOn_17 : decode cX10_hangsOn 17 = .ok (.invokevirtual 343, 3) := by decide +kernel
theorem dX10_hangsOn_20 : decode cX10_hangsOn 20 = .ok (.iload_n 1, 1) := by decide +kernel
theorem dX10_hangsOn_21 : decode cX10_hangsOn 21 = .ok (.invokestatic 346, 3) := by decide +kernel
theorem dX10_hangsOn_24 : decode cX10_hangsOn 24 = .ok (.ifCond .eq 9, 3) := by decide +kernel
theorem dX10_hangsOn_27 : decode cX10_hangsOn 27 = .ok (.iconst 1, 1) := by decide +kernel
theorem dX10_hangsOn_28 : decode cX10_hangsOn 28 = .ok (.iload_n 3, 1) := by decide +kernel
theorem dX10_hangsOn_29 : decode cX10_hangsOn 29 = .ok (.ishl, 1) := by decide +kernel
theorem dX10_hangsOn_30 : decode cX10_hangsOn 30 = .ok (.goto 4, 3) := by decide +kernel
theorem dX10_hangsOn_33 : decode cX10_hangsOn 33 = .ok (.iconst 0, 1) := by decide +kernel
theorem dX10_hangsOn_34 : decode cX10_hangsOn 34 = .ok (.ior, 1) := by decide +kernel
theorem dX10_hangsOn_35 : decode cX10_hangsOn 35 = .ok (.istore_n 2, 1) := by decide +kernel
theorem dX10_hangsOn_36 : decode cX10_hangsOn 36 = .ok (.iinc 3 1, 3) := by decide +kernel
theorem dX10_hangsOn_39 : decode cX10_hangsOn 39 = .ok (.goto (-33), 3) := by decide +kernel
theorem dX10_hangsOn_42 : decode cX10_hangsOn 42 = .ok (.iload_n 2, 1) := by decide +kernel
theorem dX10_hangsOn_43 : decode cX10_hangsOn 43 = .ok (.ireturn, 1) := by decide +kernel
noncomputable def fX10_hangsOn_L6 (V : VT) (u1 : Int32) (u2 : Int32) (u3 : Int32) : Option ((Int32 × Int32 × Int32) ⊕ Int32) := ob_R (fX10_deeds V ) fun y3 => if y3 ≤ u3 then (some (.inr (u2))) else (ob_R (fX10_aheadOf V u3) fun y5 => ob_R (fX10_has V y5 u1) fun y7 => if y7 = 0 then (lt_ (u2 ||| (0 : Int32)) fun y8 => lt_ (u3 + (1 : Int32)) fun y9 => some (.inl (u1, y8, y9))) else (lt_ (u2 ||| ((1 : Int32) <<< (u3 &&& 31))) fun y10 => lt_ (u3 + (1 : Int32)) fun y11 => some (.inl (u1, y10, y11))))
noncomputable def iX10_hangsOn_L6 (V : VT) : (Int32 × Int32 × Int32) → Option ((Int32 × Int32 × Int32) ⊕ Int32) := fun q => fX10_hangsOn_L6 V (q.1) (q.2.1) (q.2.2)
noncomputable def fX10_hangsOn (V : VT) (x1 : Int32) : Option Int32 := lt_ (x1 + (1 : Int32)) fun y1 => ob_R (it_ (iX10_hangsOn_L6 V) FV (x1, (0 : Int32), y1)) fun x15 => some x15
set_option maxHeartbeats 4000000 in
set_option maxRecDepth 100000 in
theorem wX10_hangsOn_L6 {p : Program} {l : Launch} {e : Env} {s : State} {m : MethodId} {args : Array Value} {below : List Frame} {meth : Method} {c : Code} {G : GT} {B : BGt} {Q : State → Prop} (E : En p s m args c meth cX10_hangsOn 4 RX10 (some .int) G B) {V : VT} {x : Int32} (kr : ∀ q : Int32, x = q → Q = MQ below (QI G s.heap.size q V) args s 0 0 (gA G s.heap.size)) : ∀ (n : Nat) (q : (Int32 × Int32 × Int32)), it_ (iX10_hangsOn_L6 V) n q = some x → ∀ (H : Heap) (locs : List Loc) (ls : Array Slot), HW G s.heap V H locs → lv_has ls 4 [(0, .ref (G.2.2 22)), (1, .int (q.1)), (2, .int (q.2.1)), (3, .int (q.2.2))] → W p l e (rmD 5) s m args below meth c H locs 0 0 Q (F0 m 6 ls []) := by
  have hx := en_x E
  have hb := en_b E
  have hB := en_B E
  refine it_W (fun q : (Int32 × Int32 × Int32) => ∀ (H : Heap) (locs : List Loc) (ls : Array Slot), HW G s.heap V H locs → lv_has ls 4 [(0, .ref (G.2.2 22)), (1, .int (q.1)), (2, .int (q.2.1)), (3, .int (q.2.2))] → W p l e (rmD 5) s m args below meth c H locs 0 0 Q (F0 m 6 ls [])) x ?_
  intro q r h kc kx
  obtain ⟨u1, u2, u3⟩ := q
  intro H locs ls hw hl
  have h : fX10_hangsOn_L6 V u1 u2 u3 = some r := h
  have hw : HW G s.heap V H locs := hw
  have hl : lv_has ls 4 [(0, .ref (G.2.2 22)), (1, .int u1), (2, .int u2), (3, .int u3)] := hl
  have kr : ∀ q : Int32, r = .inr (q) → Q = MQ below (QI G s.heap.size q V) args s 0 0 (gA G s.heap.size) := fun q e => kr q (kx _ e).symm
  unfold fX10_hangsOn_L6 at h
  refine lv_iload_n hx hb dX10_hangsOn_6 rfl (lv_at hl 3 rfl) ?_
  refine lv_aload_n hx hb dX10_hangsOn_7 rfl (lv_at hl 0 rfl) ?_
  obtain ⟨y3, h2, h⟩ := ob_R_some h
  refine c_VI E hw (kX10_deeds (l := l) (G := G) hB  h2) yy_X10_deeds lm_RX10_80 rfl (by decide) rfl rfl hl.1 (by decide) (by decide) rfl (Nat.le_of_ble_eq_true rfl) dX10_hangsOn_8 (fun H locs hw => ?_)
  refine lv_icmp_ge (tgt := 42) hx hb dX10_hangsOn_11 (by decide) (fun c13 => ?_) (fun c13 => ?_)
  · rw [if_pos c13] at h
    refine lv_iload_n hx hb dX10_hangsOn_42 rfl (lv_at hl 2 rfl) ?_
    rw [kr u2 (Option.some.inj h).symm]
    exact r_ri E hw dX10_hangsOn_43
  · rw [if_neg c13] at h
    refine lv_iload_n hx hb dX10_hangsOn_14 rfl (lv_at hl 2 rfl) ?_
    refine lv_aload_n hx hb dX10_hangsOn_15 rfl (lv_at hl 0 rfl) ?_
    refine lv_iload_n hx hb dX10_hangsOn_16 rfl (lv_at hl 3 rfl) ?_
    obtain ⟨y5, h4, h⟩ := ob_R_some h
    refine c_VI E hw (kX10_aheadOf (l := l) (G := G) hB  h4) yy_X10_aheadOf lm_RX10_343 rfl (by decide) rfl rfl hl.1 (by decide) (by decide) rfl (Nat.le_of_ble_eq_true rfl) dX10_hangsOn_17 (fun H locs hw => ?_)
    refine lv_iload_n hx hb dX10_hangsOn_20 rfl (lv_at hl 1 rfl) ?_
    obtain ⟨y7, h6, h⟩ := ob_R_some h
    refine c_SI E hw (kX10_has (l := l) (G := G) hB  h6) yy_X10_has lm_RX10_346 rfl hl.1 (by decide) (by decide) rfl (Nat.le_of_ble_eq_true rfl) dX10_hangsOn_21 (fun H locs hw => ?_)
    refine lv_if_eq (tgt := 33) hx hb dX10_hangsOn_24 (by decide) (fun c12 => ?_) (fun c12 => ?_)
    · rw [if_pos c12] at h
      refine lv_iconst (v := (0 : Int32)) hx hb dX10_hangsOn_33 (by decide) ?_
      refine lv_ior hx hb dX10_hangsOn_34 ?_
      obtain ⟨y8, ey8, h⟩ := lt_some h
      refine lv_eqi ey8 ?_
      refine lv_istore_n (lv' := [(2, .int y8), (0, .ref (G.2.2 22)), (1, .int u1), (3, .int u3)]) hx hb dX10_hangsOn_35 rfl hl (by decide) rfl (fun ls hl => ?_)
      obtain ⟨y9, ey9, h⟩ := lt_some h
      refine lv_iinc (v := y9) (lv' := [(3, .int y9), (2, .int y8), (0, .ref (G.2.2 22)), (1, .int u1)]) hx hb dX10_hangsOn_36 hl (k := 3) rfl (by rw [ey9]; rfl) (by decide) rfl (fun ls hl => ?_)
      refine lv_goto (tgt := 6) hx hb dX10_hangsOn_39 (by decide) ?_
      exact kc (u1, y8, y9) (Option.some.inj h).symm H locs ls hw (lv_sub hl [2, 3, 1, 0] rfl)
    · rw [if_neg c12] at h
      refine lv_iconst (v := (1 : Int32)) hx hb dX10_hangsOn_27 (by decide) ?_
      refine lv_iload_n hx hb dX10_hangsOn_28 rfl (lv_at hl 3 rfl) ?_
      refine lv_ishl hx hb dX10_hangsOn_29 ?_
      refine lv_goto (tgt := 34) hx hb dX10_hangsOn_30 (by decide) ?_
      refine lv_ior hx hb dX10_hangsOn_34 ?_
      obtain ⟨y10, ey10, h⟩ := lt_some h
      refine lv_eqi ey10 ?_
      refine lv_istore_n (lv' := [(2, .int y10), (0, .ref (G.2.2 22)), (1, .int u1), (3, .int u3)]) hx hb dX10_hangsOn_35 rfl hl (by decide) rfl (fun ls hl => ?_)
      obtain ⟨y11, ey11, h⟩ := lt_some h
      refine lv_iinc (v := y11) (lv' := [(3, .int y11), (2, .int y10), (0, .ref (G.2.2 22)), (1, .int u1)]) hx hb dX10_hangsOn_36 hl (k := 3) rfl (by rw [ey11]; rfl) (by decide) rfl (fun ls hl => ?_)
      refine lv_goto (tgt := 6) hx hb dX10_hangsOn_39 (by decide) ?_
      exact kc (u1, y10, y11) (Option.some.inj h).symm H locs ls hw (lv_sub hl [2, 3, 1, 0] rfl)
set_option maxHeartbeats 4000000 in
set_option maxRecDepth 100000 in
theorem kX10_hangsOn {l : Launch} {G : GT} {B : BGt} (hB : BGok B) {V : VT} {x1 : Int32} {r : Int32} (h : fX10_hangsOn V x1 = some r) : CI l G B yX10_hangsOn (.code yX10_hangsOn cX10_hangsOn 4 (some .int)) 5 [.ref (G.2.2 22), .int x1] V r V := by
  intro sz
  refine met_of (Qs := fun sz => QI G sz r V) hB (by decide) (Nat.le_of_ble_eq_true rfl) ?_ sz
  intro p e s m args below meth c ls E hw hl
  have hx := en_x E
  have hb := en_b E
  generalize hQ : MQ _ _ _ _ _ _ _ = Q
  have kr : Q = MQ below (QI G s.heap.size r V) args s 0 0 (gA G s.heap.size) := hQ.symm
  have hl : lv_has ls 4 [(0, .ref (G.2.2 22)), (1, .int x1)] := hl
  obtain ⟨H, eH⟩ : ∃ H, H = s.heap := ⟨_, rfl⟩
  obtain ⟨locs, elocs⟩ : ∃ z : List Loc, z = [] := ⟨_, rfl⟩
  have hw : HW G s.heap V H locs := by rw [eH, elocs]; exact hw
  show W p l e _ s m args below meth c s.heap [] 0 0 Q (F0 m 0 ls [])
  rw [← eH, ← elocs]
  unfold fX10_hangsOn at h
  refine lv_iconst (v := (0 : Int32)) hx hb dX10_hangsOn_0 (by decide) ?_
  refine lv_istore_n (lv' := [(2, .int (0 : Int32)), (0, .ref (G.2.2 22)), (1, .int x1)]) hx hb dX10_hangsOn_1 rfl hl (by decide) rfl (fun ls hl => ?_)
  refine lv_iload_n hx hb dX10_hangsOn_2 rfl (lv_at hl 2 rfl) ?_
  refine lv_iconst (v := (1 : Int32)) hx hb dX10_hangsOn_3 (by decide) ?_
  refine lv_iadd hx hb dX10_hangsOn_4 ?_
  obtain ⟨y1, ey1, h⟩ := lt_some h
  refine lv_eqi ey1 ?_
  refine lv_istore_n (lv' := [(3, .int y1), (2, .int (0 : Int32)), (0, .ref (G.2.2 22)), (1, .int x1)]) hx hb dX10_hangsOn_5 rfl hl (by decide) rfl (fun ls hl => ?_)
  obtain ⟨x15, h14, h⟩ := ob_R_some h
  have h := Option.some.inj h
  subst h
  exact wX10_hangsOn_L6 E (fun q e => by subst e; exact kr) FV (x1, (0 : Int32), y1) h14 H locs ls hw (lv_sub hl [2, 3, 1, 0] rfl)
/-! ===== AllSawItModel.bribeOf(I)I ===== -/
theorem dX10_bribeOf_0 : decode cX10_bribeOf 0 = .ok (.iconst 0, 1) := by decide +kernel
theorem dX10_bribeOf_1 : decode cX10_bribeOf 1 = .ok (.istore_n 2, 1) := by decide +kernel
theorem dX10_bribeOf_2 : decode cX10_bribeOf 2 = .ok (.iconst 0, 1) := by decide +kernel
theorem dX10_bribeOf_3 : decode cX10_bribeOf 3 = .ok (.istore_n 3, 1) := by decide +kernel
theorem dX10_bribeOf_4 : decode cX10_bribeOf 4 = .ok (.iload_n 3, 1) := by decide +kernel
theorem dX10_bribeOf_5 : decode cX10_bribeOf 5 = .ok (.aload_n 0, 1) := by decide +kernel
theorem dX10_bribeOf_6 : decode cX10_bribeOf 6 = .ok (.invokevirtual 62, 3) := by decide +kernel
theorem dX10_bribeOf_9 : decode cX10_bribeOf 9 = .ok (.if_icmp .ge 35, 3) := by decide +kernel
theorem dX10_bribeOf_12 : decode cX10_bribeOf 12 = .ok (.iload_n 2, 1) := by decide +kernel
theorem dX10_bribeOf_13 : decode cX10_bribeOf 13 = .ok (.aload_n 0, 1) := by decide +kernel
theorem dX10_bribeOf_14 : decode cX10_bribeOf 14 = .ok (.iload_n 1, 1) := by decide +kernel
theorem dX10_bribeOf_15 : decode cX10_bribeOf 15 = .ok (.iconst 4, 1) := by decide +kernel
theorem dX10_bribeOf_16 : decode cX10_bribeOf 16 = .ok (.invokevirtual 73, 3) := by decide +kernel
theorem dX10_bribeOf_19 : decode cX10_bribeOf 19 = .ok (.iload_n 3, 1) := by decide +kernel
theorem dX10_bribeOf_20 : decode cX10_bribeOf 20 = .ok (.invokestatic 346, 3) := by decide +kernel
theorem dX10_bribeOf_23 : decode cX10_bribeOf 23 = .ok (.ifCond .eq 7, 3) := by decide +kernel
theorem dX10_bribeOf_26 : decode cX10_bribeOf 26 = .ok (.iconst 0, 1) := by decide +kernel
theorem dX10_bribeOf_27 : decode cX10_bribeOf 27 = .ok (.goto 9, 3) := by decide +kernel
theorem dX10_bribeOf_30 : decode cX10_bribeOf 30 = .ok (.aload_n 0, 1) := by decide +kernel
theorem dX10_bribeOf_31 : decode cX10_bribeOf 31 = .ok (.iload_n 3, 1) := by decide +kernel
theorem dX10_bribeOf_32 : decode cX10_bribeOf 32 = .ok (.iconst 5, 1) := by decide +kernel
theorem dX10_bribeOf_33 : decode cX10_bribeOf 33 = .ok (.invokevirtual 236, 3) := by decide +kernel
theorem dX10_bribeOf_36 : decode cX10_bribeOf 36 = .ok (.iadd, 1) := by decide +kernel
theorem dX10_bribeOf_37 : decode cX10_bribeOf 37 = .ok (.istore_n 2, 1) := by decide +kernel
theorem dX10_bribeOf_38 : decode cX10_bribeOf 38 = .ok (.iinc 3 1, 3) := by decide +kernel
theorem dX10_bribeOf_41 : decode cX10_bribeOf 41 = .ok (.goto (-37), 3) := by decide +kernel
theorem dX10_bribeOf_44 : decode cX10_bribeOf 44 = .ok (.iload_n 2, 1) := by decide +kernel
theorem dX10_bribeOf_45 : decode cX10_bribeOf 45 = .ok (.ireturn, 1) := by decide +kernel
noncomputable def fX10_bribeOf_L4 (V : VT) (u1 : Int32) (u2 : Int32) (u3 : Int32) : Option ((Int32 × Int32 × Int32) ⊕ Int32) := ob_R (fX10_houses V ) fun y2 => if y2 ≤ u3 then (some (.inr (u2))) else (ob_R (fX10_ofDeed V u1 (4 : Int32)) fun y4 => ob_R (fX10_has V y4 u3) fun y6 => if y6 = 0 then (ob_R (fX10_of V u3 (5 : Int32)) fun y8 => lt_ (u2 + y8) fun y9 => lt_ (u3 + (1 : Int32)) fun y10 => some (.inl (u1, y9, y10))) else (lt_ (u2 + (0 : Int32)) fun y11 => lt_ (u3 + (1 : Int32)) fun y12 => some (.inl (u1, y11, y12))))
noncomputable def iX10_bribeOf_L4 (V : VT) : (Int32 × Int32 × Int32) → Option ((Int32 × Int32 × Int32) ⊕ Int32) := fun q => fX10_bribeOf_L4 V (q.1) (q.2.1) (q.2.2)
noncomputable def fX10_bribeOf (V : VT) (x1 : Int32) : Option Int32 := ob_R (it_ (iX10_bribeOf_L4 V) FV (x1, (0 : Int32), (0 : Int32))) fun x16 => some x16
set_option maxHeartbeats 4000000 in
set_option maxRecDepth 100000 in
theorem wX10_bribeOf_L4 {p : Program} {l : Launch} {e : Env} {s : State} {m : MethodId} {args : Array Value} {below : List Frame} {meth : Method} {c : Code} {G : GT} {B : BGt} {Q : State → Prop} (E : En p s m args c meth cX10_bribeOf 4 RX10 (some .int) G B) {V : VT} {x : Int32} (kr : ∀ q : Int32, x = q → Q = MQ below (QI G s.heap.size q V) args s 0 0 (gA G s.heap.size)) : ∀ (n : Nat) (q : (Int32 × Int32 × Int32)), it_ (iX10_bribeOf_L4 V) n q = some x → ∀ (H : Heap) (locs : List Loc) (ls : Array Slot), HW G s.heap V H locs → lv_has ls 4 [(0, .ref (G.2.2 22)), (1, .int (q.1)), (2, .int (q.2.1)), (3, .int (q.2.2))] → W p l e (rmD 4) s m args below meth c H locs 0 0 Q (F0 m 4 ls []) := by
  have hx := en_x E
  have hb := en_b E
  have hB := en_B E
  refine it_W (fun q : (Int32 × Int32 × Int32) => ∀ (H : Heap) (locs : List Loc) (ls : Array Slot), HW G s.heap V H locs → lv_has ls 4 [(0, .ref (G.2.2 22)), (1, .int (q.1)), (2, .int (q.2.1)), (3, .int (q.2.2))] → W p l e (rmD 4) s m args below meth c H locs 0 0 Q (F0 m 4 ls [])) x ?_
  intro q r h kc kx
  obtain ⟨u1, u2, u3⟩ := q
  intro H locs ls hw hl
  have h : fX10_bribeOf_L4 V u1 u2 u3 = some r := h
  have hw : HW G s.heap V H locs := hw
  have hl : lv_has ls 4 [(0, .ref (G.2.2 22)), (1, .int u1), (2, .int u2), (3, .int u3)] := hl
  have kr : ∀ q : Int32, r = .inr (q) → Q = MQ below (QI G s.heap.size q V) args s 0 0 (gA G s.heap.size) := fun q e => kr q (kx _ e).symm
  unfold fX10_bribeOf_L4 at h
  refine lv_iload_n hx hb dX10_bribeOf_4 rfl (lv_at hl 3 rfl) ?_
  refine lv_aload_n hx hb dX10_bribeOf_5 rfl (lv_at hl 0 rfl) ?_
  obtain ⟨y2, h1, h⟩ := ob_R_some h
  refine c_VI E hw (kX10_houses (l := l) (G := G) hB  h1) yy_X10_houses lm_RX10_62 rfl (by decide) rfl rfl hl.1 (by decide) (by decide) rfl (Nat.le_of_ble_eq_true rfl) dX10_bribeOf_6 (fun H locs hw => ?_)
  refine lv_icmp_ge (tgt := 44) hx hb dX10_bribeOf_9 (by decide) (fun c14 => ?_) (fun c14 => ?_)
  · rw [if_pos c14] at h
    refine lv_iload_n hx hb dX10_bribeOf_44 rfl (lv_at hl 2 rfl) ?_
    rw [kr u2 (Option.some.inj h).symm]
    exact r_ri E hw dX10_bribeOf_45
  · rw [if_neg c14] at h
    refine lv_iload_n hx hb dX10_bribeOf_12 rfl (lv_at hl 2 rfl) ?_
    refine lv_aload_n hx hb dX10_bribeOf_13 rfl (lv_at hl 0 rfl) ?_
    refine lv_iload_n hx hb dX10_bribeOf_14 rfl (lv_at hl 1 rfl) ?_
    refine lv_iconst (v := (4 : Int32)) hx hb dX10_bribeOf_15 (by decide) ?_
    obtain ⟨y4, h3, h⟩ := ob_R_some h
    refine c_VI E hw (kX10_ofDeed (l := l) (G := G) hB  h3) yy_X10_ofDeed lm_RX10_73 rfl (by decide) rfl rfl hl.1 (by decide) (by decide) rfl (Nat.le_of_ble_eq_true rfl) dX10_bribeOf_16 (fun H locs hw => ?_)
    refine lv_iload_n hx hb dX10_bribeOf_19 rfl (lv_at hl 3 rfl) ?_
    obtain ⟨y6, h5, h⟩ := ob_R_some h
    refine c_SI E hw (kX10_has (l := l) (G := G) hB  h5) yy_X10_has lm_RX10_346 rfl hl.1 (by decide) (by decide) rfl (Nat.le_of_ble_eq_true rfl) dX10_bribeOf_20 (fun H locs hw => ?_)
    refine lv_if_eq (tgt := 30) hx hb dX10_bribeOf_23 (by decide) (fun c13 => ?_) (fun c13 => ?_)
    · rw [if_pos c13] at h
      refine lv_aload_n hx hb dX10_bribeOf_30 rfl (lv_at hl 0 rfl) ?_
      refine lv_iload_n hx hb dX10_bribeOf_31 rfl (lv_at hl 3 rfl) ?_
      refine lv_iconst (v := (5 : Int32)) hx hb dX10_bribeOf_32 (by decide) ?_
      obtain ⟨y8, h7, h⟩ := ob_R_some h
      refine c_VI E hw (kX10_of (l := l) (G := G) hB  h7) yy_X10_of lm_RX10_236 rfl (by decide) rfl rfl hl.1 (by decide) (by decide) rfl (Nat.le_of_ble_eq_true rfl) dX10_bribeOf_33 (fun H locs hw => ?_)
      refine lv_iadd hx hb dX10_bribeOf_36 ?_
      obtain ⟨y9, ey9, h⟩ := lt_some h
      refine lv_eqi ey9 ?_
      refine lv_istore_n (lv' := [(2, .int y9), (0, .ref (G.2.2 22)), (1, .int u1), (3, .int u3)]) hx hb dX10_bribeOf_37 rfl hl (by decide) rfl (fun ls hl => ?_)
      obtain ⟨y10, ey10, h⟩ := lt_some h
      refine lv_iinc (v := y10) (lv' := [(3, .int y10), (2, .int y9), (0, .ref (G.2.2 22)), (1, .int u1)]) hx hb dX10_bribeOf_38 hl (k := 3) rfl (by rw [ey10]; rfl) (by decide) rfl (fun ls hl => ?_)
      refine lv_goto (tgt := 4) hx hb dX10_bribeOf_41 (by decide) ?_
      exact kc (u1, y9, y10) (Option.some.inj h).symm H locs ls hw (lv_sub hl [2, 3, 1, 0] rfl)
    · rw [if_neg c13] at h
      refine lv_iconst (v := (0 : Int32)) hx hb dX10_bribeOf_26 (by decide) ?_
      refine lv_goto (tgt := 36) hx hb dX10_bribeOf_27 (by decide) ?_
      refine lv_iadd hx hb dX10_bribeOf_36 ?_
      obtain ⟨y11, ey11, h⟩ := lt_some h
      refine lv_eqi ey11 ?_
      refine lv_istore_n (lv' := [(2, .int y11), (0, .ref (G.2.2 22)), (1, .int u1), (3, .int u3)]) hx hb dX10_bribeOf_37 rfl hl (by decide) rfl (fun ls hl => ?_)
      obtain ⟨y12, ey12, h⟩ := lt_some h
      refine lv_iinc (v := y12) (lv' := [(3, .int y12), (2, .int y11), (0, .ref (G.2.2 22)), (1, .int u1)]) hx hb dX10_bribeOf_38 hl (k := 3) rfl (by rw [ey12]; rfl) (by decide) rfl (fun ls hl => ?_)
      refine lv_goto (tgt := 4) hx hb dX10_bribeOf_41 (by decide) ?_
      exact kc (u1, y11, y12) (Option.some.inj h).symm H locs ls hw (lv_sub hl [2, 3, 1, 0] rfl)
set_option maxHeartbeats 4000000 in
set_option maxRecDepth 100000 in
theorem kX10_bribeOf {l : Launch} {G : GT} {B : BGt} (hB : BGok B) {V : VT} {x1 : Int32} {r : Int32} (h : fX10_bribeOf V x1 = some r) : CI l G B yX10_bribeOf (.code yX10_bribeOf cX10_bribeOf 4 (some .int)) 4 [.ref (G.2.2 22), .int x1] V r V := by
  intro sz
  refine met_of (Qs := fun sz => QI G sz r V) hB (by decide) (Nat.le_of_ble_eq_true rfl) ?_ sz
  intro p e s m args below meth c ls E hw hl
  have hx := en_x E
  have hb := en_b E
  generalize hQ : MQ _ _ _ _ _ _ _ = Q
  have kr : Q = MQ below (QI G s.heap.size r V) args s 0 0 (gA G s.heap.size) := hQ.symm
  have hl : lv_has ls 4 [(0, .ref (G.2.2 22)), (1, .int x1)] := hl
  obtain ⟨H, eH⟩ : ∃ H, H = s.heap := ⟨_, rfl⟩
  obtain ⟨locs, elocs⟩ : ∃ z : List Loc, z = [] := ⟨_, rfl⟩
  have hw : HW G s.heap V H locs := by rw [eH, elocs]; exact hw
  show W p l e _ s m args below meth c s.heap [] 0 0 Q (F0 m 0 ls [])
  rw [← eH, ← elocs]
  unfold fX10_bribeOf at h
  refine lv_iconst (v := (0 : Int32)) hx hb dX10_bribeOf_0 (by decide) ?_
  refine lv_istore_n (lv' := [(2, .int (0 : Int32)), (0, .ref (G.2.2 22)), (1, .int x1)]) hx hb dX10_bribeOf_1 rfl hl (by decide) rfl (fun ls hl => ?_)
  refine lv_iconst (v := (0 : Int32)) hx hb dX10_bribeOf_2 (by decide) ?_
  refine lv_istore_n (lv' := [(3, .int (0 : Int32)), (2, .int (0 : Int32)), (0, .ref (G.2.2 22)), (1, .int x1)]) hx hb dX10_bribeOf_3 rfl hl (by decide) rfl (fun ls hl => ?_)
  obtain ⟨x16, h15, h⟩ := ob_R_some h
  have h := Option.some.inj h
  subst h
  exact wX10_bribeOf_L4 E (fun q e => by subst e; exact kr) FV (x1, (0 : Int32), (0 : Int32)) h15 H locs ls hw (lv_sub hl [2, 3, 1, 0] rfl)
/-! ===== AllSawItModel.deed(II)I ===== -/
theorem dX10_deed_0 : decode cX10_deed 0 = .ok (.aload_n 0, 1) := by decide +kernel
theorem dX10_deed_1 : decode cX10_deed 1 = .ok (.iconst 0, 1) := by decide +kernel
theorem dX10_deed_2 : decode cX10_deed 2 = .ok (.putfield 3, 3) := by decide +kernel
theorem dX10_deed_5 : decode cX10_deed 5 = .ok (.aload_n 0, 1) := by decide +kernel
theorem dX10_deed_6 : decode cX10_deed 6 = .ok (.aload_n 0, 1) := by decide +kernel
theorem dX10_deed_7 : decode cX10_deed 7 = .ok (.iload_n 1, 1) := by decide +kernel
theorem dX10_deed_8 : decode cX10_deed 8 = .ok (.invokevirtual 349, 3) := by decide +kernel
theorem dX10_deed_11 : decode cX10_deed 11 = .ok (.iconst 1, 1) := by decide +kernel
theorem dX10_deed_12 : decode cX10_deed 12 = .ok (.invokevirtual 233, 3) := by decide +kernel
theorem dX10_deed_15 : decode cX10_deed 15 = .ok (.ifCond .ne 26, 3) := by decide +kernel
theorem dX10_deed_18 : decode cX10_deed 18 = .ok (.aload_n 0, 1) := by decide +kernel
theorem dX10_deed_19 : decode cX10_deed 19 = .ok (.iload_n 2, 1) := by decide +kernel
theorem dX10_deed_20 : decode cX10_deed 20 = .ok (.iconst 0, 1) := by decide +kernel
theorem dX10_deed_21 : decode cX10_deed 21 = .ok (.bipush 8, 2) := by decide +kernel
theorem dX10_deed_23 : decode cX10_deed 23 = .ok (.invokestatic 76, 3) := by decide +kernel
theorem dX10_deed_26 : decode cX10_deed 26 = .ok (.ifCond .ne 7, 3) := by decide +kernel
theorem dX10_deed_29 : decode cX10_deed 29 = .ok (.iconst 1, 1) := by decide +kernel
theorem dX10_deed_30 : decode cX10_deed 30 = .ok (.goto 4, 3) := by decide +kernel
theorem dX10_deed_33 : decode cX10_deed 33 = .ok (.iconst 0, 1) := by decide +kernel
theorem dX10_deed_34 : decode cX10_deed 34 = .ok (.iconst 2, 1) := by decide +kernel
theorem dX10_deed_35 : decode cX10_deed 35 = .ok (.invokevirtual 233, 3) := by decide +kernel
theorem dX10_deed_38 : decode cX10_deed 38 = .ok (.ifCond .eq 5, 3) := by decide +kernel
theorem dX10_deed_41 : decode cX10_deed 41 = .ok (.iconst 0, 1) := by decide +kernel
theorem dX10_deed_42 : decode cX10_deed 42 = .ok (.ireturn, 1) := by decide +kernel
theorem dX10_deed_43 : decode cX10_deed 43 = .ok (.iload_n 2, 1) := by decide +kernel
theorem dX10_deed_44 : decode cX10_deed 44 = .ok (.tableswitch 49 6 8 #[28, 34, 43], 28) := by decide +kernel
theorem dX10_deed_72 : decode cX10_deed 72 = .ok (.aload_n 0, 1) := by decide +kernel
theorem dX10_deed_73 : decode cX10_deed 73 = .ok (.iload_n 1, 1) := by decide +kernel
theorem dX10_deed_74 : decode cX10_deed 74 = .ok (.invokevirtual 352, 3) := by decide +kernel
theorem dX10_deed_77 : decode cX10_deed 77 = .ok (.ireturn, 1) := by decide +kernel
theorem dX10_deed_78 : decode cX10_deed 78 = .ok (.aload_n 0, 1) := by decide +kernel
theorem dX10_deed_79 : decode cX10_deed 79 = .ok (.iload_n 1, 1) := by decide +kernel
theorem dX10_deed_80 : decode cX10_deed 80 = .ok (.invokevirtual 343, 3) := by decide +kernel
theorem dX10_deed_83 : decode cX10_deed 83 = .ok (.invokestatic 324, 3) := by decide +kernel
theorem dX10_deed_86 : decode cX10_deed 86 = .ok (.ireturn, 1) := by decide +kernel
theorem dX10_deed_87 : decode cX10_deed 87 = .ok (.aload_n 0, 1) := by decide +kernel
theorem dX10_deed_88 : decode cX10_deed 88 = .ok (.iload_n 1, 1) := by decide +kernel
theorem dX10_deed_89 : decode cX10_deed 89 = .ok (.invokevirtual 355, 3) := by decide +kernel
theorem dX10_deed_92 : decode cX10_deed 92 = .ok (.ireturn, 1) := by decide +kernel
theorem dX10_deed_93 : decode cX10_deed 93 = .ok (.aload_n 0, 1) := by decide +kernel
theorem dX10_deed_94 : decode cX10_deed 94 = .ok (.iload_n 1, 1) := by decide +kernel
theorem dX10_deed_95 : decode cX10_deed 95 = .ok (.iload_n 2, 1) := by decide +kernel
theorem dX10_deed_96 : decode cX10_deed 96 = .ok (.invokevirtual 73, 3) := by decide +kernel
theorem dX10_deed_99 : decode cX10_deed 99 = .ok (.ireturn, 1) := by decide +kernel
noncomputable def fX10_deed_j34 (V : VT) (u1 : Int32) (u2 : Int32) (t0 : Int32) : Option (Int32 × VT) := ob_I (fX10_throwsIf V t0 (2 : Int32)) fun y10 V11 => if y10 = 0 then (if u2 = (6 : Int32) then (ob_R (fX10_hangsOn V11 u1) fun y13 => some (y13, V11)) else if u2 = (7 : Int32) then (ob_R (fX10_aheadOf V11 u1) fun y16 => ob_R (fJ6_bitCount_0f7a4 V11 y16) fun y18 => some (y18, V11)) else if u2 = (8 : Int32) then (ob_R (fX10_bribeOf V11 u1) fun y21 => some (y21, V11)) else (ob_R (fX10_ofDeed V11 u1 u2) fun y24 => some (y24, V11))) else (some ((0 : Int32), V11))
noncomputable def fX10_deed (V : VT) (x1 : Int32) (x2 : Int32) : Option (Int32 × VT) := lt_ (va_up V 22 (upd (V 22) 0 (0 : Int32))) fun V1 => ob_R (fX10_noDeed V1 x1) fun y3 => ob_I (fX10_throwsIf V1 y3 (1 : Int32)) fun y5 V6 => if y5 = 0 then (ob_R (fX10_in V6 x2 (0 : Int32) (8 : Int32)) fun y8 => if y8 = 0 then (fX10_deed_j34 V6 x1 x2 (1 : Int32)) else (fX10_deed_j34 V6 x1 x2 (0 : Int32))) else (some ((0 : Int32), V6))
set_option maxHeartbeats 4000000 in
set_option maxRecDepth 100000 in
theorem wX10_deed_j34 {p : Program} {l : Launch} {e : Env} {s : State} {m : MethodId} {args : Array Value} {below : List Frame} {meth : Method} {c : Code} {G : GT} {B : BGt} {Q : State → Prop} (E : En p s m args c meth cX10_deed 3 RX10 (some .int) G B) {V : VT} {u1 : Int32} {u2 : Int32} {t0 : Int32} {r : (Int32 × VT)} (h : fX10_deed_j34 V u1 u2 t0 = some r) (kr : Q = MQ below (QI G s.heap.size r.1 r.2) args s 0 0 (gA G s.heap.size)) {H : Heap} {locs : List Loc} {ls : Array Slot} (hw : HW G s.heap V H locs) (hl : lv_has ls 3 [(0, .ref (G.2.2 22)), (1, .int u1), (2, .int u2)]) : W p l e (rmD 6) s m args below meth c H locs 0 0 Q (F0 m 34 ls [.int t0, .ref (G.2.2 22)]) := by
  have hx := en_x E
  have hb := en_b E
  have hB := en_B E
  unfold fX10_deed_j34 at h
  refine lv_iconst (v := (2 : Int32)) hx hb dX10_deed_34 (by decide) ?_
  obtain ⟨y10, V11, h9, h⟩ := ob_I_some h
  refine c_VI E hw (kX10_throwsIf (l := l) (G := G) hB  h9) yy_X10_throwsIf lm_RX10_233 rfl (by decide) rfl rfl hl.1 (by decide) (by decide) rfl (Nat.le_of_ble_eq_true rfl) dX10_deed_35 (fun H locs hw => ?_)
  refine lv_if_eq (tgt := 43) hx hb dX10_deed_38 (by decide) (fun c25 => ?_) (fun c25 => ?_)
  · rw [if_pos c25] at h
    refine lv_iload_n hx hb dX10_deed_43 rfl (lv_at hl 2 rfl) ?_
    by_cases c14 : u2 = (6 : Int32)
    · rw [if_pos c14] at h
      refine lv_tableIn (tgt := 72) hx hb dX10_deed_44 (by rw [c14]; decide) (by rw [c14]; decide) (by rw [c14]; rfl) (by decide) ?_
      refine lv_aload_n hx hb dX10_deed_72 rfl (lv_at hl 0 rfl) ?_
      refine lv_iload_n hx hb dX10_deed_73 rfl (lv_at hl 1 rfl) ?_
      obtain ⟨y13, h12, h⟩ := ob_R_some h
      refine c_VI E hw (kX10_hangsOn (l := l) (G := G) hB  h12) yy_X10_hangsOn lm_RX10_352 rfl (by decide) rfl rfl hl.1 (by decide) (by decide) rfl (Nat.le_of_ble_eq_true rfl) dX10_deed_74 (fun H locs hw => ?_)
      have h := Option.some.inj h
      subst h
      rw [kr]
      exact r_ri E hw dX10_deed_77
    · rw [if_neg c14] at h
      by_cases c19 : u2 = (7 : Int32)
      · rw [if_pos c19] at h
        refine lv_tableIn (tgt := 78) hx hb dX10_deed_44 (by rw [c19]; decide) (by rw [c19]; decide) (by rw [c19]; rfl) (by decide) ?_
        refine lv_aload_n hx hb dX10_deed_78 rfl (lv_at hl 0 rfl) ?_
        refine lv_iload_n hx hb dX10_deed_79 rfl (lv_at hl 1 rfl) ?_
        obtain ⟨y16, h15, h⟩ := ob_R_some h
        refine c_VI E hw (kX10_aheadOf (l := l) (G := G) hB  h15) yy_X10_aheadOf lm_RX10_343 rfl (by decide) rfl rfl hl.1 (by decide) (by decide) rfl (Nat.le_of_ble_eq_true rfl) dX10_deed_80 (fun H locs hw => ?_)
        obtain ⟨y18, h17, h⟩ := ob_R_some h
        refine c_SI E hw (kJ6_bitCount_0f7a4 (l := l) (G := G) hB  h17) yy_J6_bitCount_0f7a4 lm_RX10_324 rfl hl.1 (by decide) (by decide) rfl (Nat.le_of_ble_eq_true rfl) dX10_deed_83 (fun H locs hw => ?_)
        have h := Option.some.inj h
        subst h
        rw [kr]
        exact r_ri E hw dX10_deed_86
      · rw [if_neg c19] at h
        by_cases c22 : u2 = (8 : Int32)
        · rw [if_pos c22] at h
          refine lv_tableIn (tgt := 87) hx hb dX10_deed_44 (by rw [c22]; decide) (by rw [c22]; decide) (by rw [c22]; rfl) (by decide) ?_
          refine lv_aload_n hx hb dX10_deed_87 rfl (lv_at hl 0 rfl) ?_
          refine lv_iload_n hx hb dX10_deed_88 rfl (lv_at hl 1 rfl) ?_
          obtain ⟨y21, h20, h⟩ := ob_R_some h
          refine c_VI E hw (kX10_bribeOf (l := l) (G := G) hB  h20) yy_X10_bribeOf lm_RX10_355 rfl (by decide) rfl rfl hl.1 (by decide) (by decide) rfl (Nat.le_of_ble_eq_true rfl) dX10_deed_89 (fun H locs hw => ?_)
          have h := Option.some.inj h
          subst h
          rw [kr]
          exact r_ri E hw dX10_deed_92
        · rw [if_neg c22] at h
          have nc14 := lv_neT (a := 6) c14 (by decide)
          have nc19 := lv_neT (a := 7) c19 (by decide)
          have nc22 := lv_neT (a := 8) c22 (by decide)
          refine lv_tableOut (tgt := 93) hx hb dX10_deed_44 (by omega) (by decide) ?_
          refine lv_aload_n hx hb dX10_deed_93 rfl (lv_at hl 0 rfl) ?_
          refine lv_iload_n hx hb dX10_deed_94 rfl (lv_at hl 1 rfl) ?_
          refine lv_iload_n hx hb dX10_deed_95 rfl (lv_at hl 2 rfl) ?_
          obtain ⟨y24, h23, h⟩ := ob_R_some h
          refine c_VI E hw (kX10_ofDeed (l := l) (G := G) hB  h23) yy_X10_ofDeed lm_RX10_73 rfl (by decide) rfl rfl hl.1 (by decide) (by decide) rfl (Nat.le_of_ble_eq_true rfl) dX10_deed_96 (fun H locs hw => ?_)
          have h := Option.some.inj h
          subst h
          rw [kr]
          exact r_ri E hw dX10_deed_99
  · rw [if_neg c25] at h
    refine lv_iconst (v := (0 : Int32)) hx hb dX10_deed_41 (by decide) ?_
    have h := Option.some.inj h
    subst h
    rw [kr]
    exact r_ri E hw dX10_deed_42
set_option maxHeartbeats 4000000 in
set_option maxRecDepth 100000 in
theorem kX10_deed {l : Launch} {G : GT} {B : BGt} (hB : BGok B) {V : VT} {x1 : Int32} {x2 : Int32} {r : (Int32 × VT)} (h : fX10_deed V x1 x2 = some r) : CI l G B yX10_deed (.code yX10_deed cX10_deed 3 (some .int)) 6 [.ref (G.2.2 22), .int x1, .int x2] V r.1 r.2 := by
  intro sz
  refine met_of (Qs := fun sz => QI G sz (r.1) (r.2)) hB (by decide) (Nat.le_of_ble_eq_true rfl) ?_ sz
  intro p e s m args below meth c ls E hw hl
  have hx := en_x E
  have hb := en_b E
  generalize hQ : MQ _ _ _ _ _ _ _ = Q
  have kr : Q = MQ below (QI G s.heap.size r.1 r.2) args s 0 0 (gA G s.heap.size) := hQ.symm
  have hl : lv_has ls 3 [(0, .ref (G.2.2 22)), (1, .int x1), (2, .int x2)] := hl
  obtain ⟨H, eH⟩ : ∃ H, H = s.heap := ⟨_, rfl⟩
  obtain ⟨locs, elocs⟩ : ∃ z : List Loc, z = [] := ⟨_, rfl⟩
  have hw : HW G s.heap V H locs := by rw [eH, elocs]; exact hw
  show W p l e _ s m args below meth c s.heap [] 0 0 Q (F0 m 0 ls [])
  rw [← eH, ← elocs]
  unfold fX10_deed at h
  refine lv_aload_n hx hb dX10_deed_0 rfl (lv_at hl 0 rfl) ?_
  refine lv_iconst (v := (0 : Int32)) hx hb dX10_deed_1 (by decide) ?_
  obtain ⟨V1, eV1, h⟩ := lt_some h
  refine r_pi E hw 22 0 (N := 29) (C := RX10) (T := TX10) (ty0 := tyX10) (ty := .int) (by decide) rfl rfl (by decide) rfl iw_10 rfl tyX10_ok nmX10 rfl rfl (vp_nar_int _) rfl lf_RX10_3 eV1 dX10_deed_2 (fun H locs hw => ?_)
  refine lv_aload_n hx hb dX10_deed_5 rfl (lv_at hl 0 rfl) ?_
  refine lv_aload_n hx hb dX10_deed_6 rfl (lv_at hl 0 rfl) ?_
  refine lv_iload_n hx hb dX10_deed_7 rfl (lv_at hl 1 rfl) ?_
  obtain ⟨y3, h2, h⟩ := ob_R_some h
  refine c_VI E hw (kX10_noDeed (l := l) (G := G) hB  h2) yy_X10_noDeed lm_RX10_349 rfl (by decide) rfl rfl hl.1 (by decide) (by decide) rfl (Nat.le_of_ble_eq_true rfl) dX10_deed_8 (fun H locs hw => ?_)
  refine lv_iconst (v := (1 : Int32)) hx hb dX10_deed_11 (by decide) ?_
  obtain ⟨y5, V6, h4, h⟩ := ob_I_some h
  refine c_VI E hw (kX10_throwsIf (l := l) (G := G) hB  h4) yy_X10_throwsIf lm_RX10_233 rfl (by decide) rfl rfl hl.1 (by decide) (by decide) rfl (Nat.le_of_ble_eq_true rfl) dX10_deed_12 (fun H locs hw => ?_)
  refine lv_if_ne (tgt := 41) hx hb dX10_deed_15 (by decide) (fun c27 => ?_) (fun c27 => ?_)
  · rw [if_neg c27] at h
    refine lv_iconst (v := (0 : Int32)) hx hb dX10_deed_41 (by decide) ?_
    have h := Option.some.inj h
    subst h
    rw [kr]
    exact r_ri E hw dX10_deed_42
  · rw [if_pos c27] at h
    refine lv_aload_n hx hb dX10_deed_18 rfl (lv_at hl 0 rfl) ?_
    refine lv_iload_n hx hb dX10_deed_19 rfl (lv_at hl 2 rfl) ?_
    refine lv_iconst (v := (0 : Int32)) hx hb dX10_deed_20 (by decide) ?_
    refine lv_bipush (v := (8 : Int32)) hx hb dX10_deed_21 (by decide) ?_
    obtain ⟨y8, h7, h⟩ := ob_R_some h
    refine c_SI E hw (kX10_in (l := l) (G := G) hB  h7) yy_X10_in lm_RX10_76 rfl hl.1 (by decide) (by decide) rfl (Nat.le_of_ble_eq_true rfl) dX10_deed_23 (fun H locs hw => ?_)
    refine lv_if_ne (tgt := 33) hx hb dX10_deed_26 (by decide) (fun c26 => ?_) (fun c26 => ?_)
    · rw [if_neg c26] at h
      refine lv_iconst (v := (0 : Int32)) hx hb dX10_deed_33 (by decide) ?_
      exact wX10_deed_j34 E h kr hw (lv_sub hl [0, 1, 2] rfl)
    · rw [if_pos c26] at h
      refine lv_iconst (v := (1 : Int32)) hx hb dX10_deed_29 (by decide) ?_
      refine lv_goto (tgt := 34) hx hb dX10_deed_30 (by decide) ?_
      exact wX10_deed_j34 E h kr hw (lv_sub hl [0, 1, 2] rfl)
/-! ===== AllSawItModel.owesOf(I)I ===== -/
theorem dX10_owesOf_0 : decode cX10_owesOf 0 = .ok (.iconst 0, 1) := by decide +kernel
theorem dX10_owesOf_1 : decode cX10_owesOf 1 = .ok (.istore_n 2, 1) := by decide +kernel
theorem dX10_owesOf_2 : decode cX10_owesOf 2 = .ok (.iconst 0, 1) := by decide +kernel
theorem dX10_owesOf_3 : decode cX10_owesOf 3 = .ok (.istore_n 3, 1) := by decide +kernel
theorem dX10_owesOf_4 : decode cX10_owesOf 4 = .ok (.iload_n 3, 1) := by decide +kernel
theorem dX10_owesOf_5 : decode cX10_owesOf 5 = .ok (.aload_n 0, 1) := by decide +kernel
theorem dX10_owesOf_6 : decode cX10_owesOf 6 = .ok (.invokevirtual 80, 3) := by decide +kernel
theorem dX10_owesOf_9 : decode cX10_owesOf 9 = .ok (.if_icmp .ge 53, 3) := by decide +kernel
theorem dX10_owesOf_12 : decode cX10_owesOf 12 = .ok (.iload_n 2, 1) := by decide +kernel
theorem dX10_owesOf_13 : decode cX10_owesOf 13 = .ok (.aload_n 0, 1) := by decide +kernel
theorem dX10_owesOf_14 : decode cX10_owesOf 14 = .ok (.iload_n 3, 1) := by decide +kernel
theorem dX10_owesOf_15 : decode cX10_owesOf 15 = .ok (.invokevirtual 340, 3) := by decide +kernel
theorem dX10_owesOf_18 : decode cX10_owesOf 18 = .ok (.ifCond .ne 35, 3) := by decide +kernel
theorem dX10_owesOf_21 : decode cX10_owesOf 21 = .ok (.aload_n 0, 1) := by decide +kernel
theorem dX10_owesOf_22 : decode cX10_owesOf 22 = .ok (.iload_n 3, 1) := by decide +kernel
theorem dX10_owesOf_23 : decode cX10_owesOf 23 = .ok (.iconst 3, 1) := by decide +kernel
theorem dX10_owesOf_24 : decode cX10_owesOf 24 = .ok (.invokevirtual 73, 3) := by decide +kernel
theorem dX10_owesOf_27 : decode cX10_owesOf 27 = .ok (.iload_n 1, 1) := by decide +kernel
theorem dX10_owesOf_28 : decode cX10_owesOf 28 = .ok (.invokestatic 346, 3) := by decide +kernel
theorem dX10_owesOf_31 : decode cX10_owesOf 31 = .ok (.ifCond .eq 22, 3) := by decide +kernel
theorem dX10_owesOf_34 : decode cX10_owesOf 34 = .ok (.aload_n 0, 1) := by decide +kernel
theorem dX10_owesOf_35 : decode cX10_owesOf 35 = .ok (.iload_n 3, 1) := by decide +kernel
theorem dX10_owesOf_36 : decode cX10_owesOf 36 = .ok (.iconst 4, 1) := by decide +kernel
theorem dX10_owesOf_37 : decode cX10_owesOf 37 = .ok (.invokevirtual 73, 3) := by decide +kernel
theorem dX10_owesOf_40 : decode cX10_owesOf 40 = .ok (.iload_n 1, 1) := by decide +kernel
theorem dX10_owesOf_41 : decode cX10_owesOf 41 = .ok (.invokestatic 346, 3) := by decide +kernel
theorem dX10_owesOf_44 : decode cX10_owesOf 44 = .ok (.ifCond .ne 9, 3) := by decide +kernel
theorem dX10_owesOf_47 : decode cX10_owesOf 47 = .ok (.iconst 1, 1) := by decide +kernel
theorem dX10_owesOf_48 : decode cX10_owesOf 48 = .ok (.iload_n 3, 1) := by decide +kernel
theorem dX10_owesOf_49 : decode cX10_owesOf 49 = .ok (.ishl, 1) := by decide +kernel
theorem dX10_owesOf_50 : decode cX10_owesOf 50 = .ok (.goto 4, 3) := by decide +kernel
theorem dX10_owesOf_53 : decode cX10_owesOf 53 = .ok (.iconst 0, 1) := by decide +kernel
theorem dX10_owesOf_54 : decode cX10_owesOf 54 = .ok (.ior, 1) := by decide +kernel
theorem dX10_owesOf_55 : decode cX10_owesOf 55 = .ok (.istore_n 2, 1) := by decide +kernel
theorem dX10_owesOf_56 : decode cX10_owesOf 56 = .ok (.iinc 3 1, 3) := by decide +kernel
theorem dX10_owesOf_59 : decode cX10_owesOf 59 = .ok (.goto (-55), 3) := by decide +kernel
theorem dX10_owesOf_62 : decode cX10_owesOf 62 = .ok (.iload_n 2, 1) := by decide +kernel
theorem dX10_owesOf_63 : decode cX10_owesOf 63 = .ok (.ireturn, 1) := by decide +kernel
noncomputable def fX10_owesOf_L4 (V : VT) (u1 : Int32) (u2 : Int32) (u3 : Int32) : Option ((Int32 × Int32 × Int32) ⊕ Int32) := ob_R (fX10_deeds V ) fun y2 => if y2 ≤ u3 then (some (.inr (u2))) else (ob_R (fX10_isSo V u3) fun y4 => if y4 = 0 then (ob_R (fX10_ofDeed V u3 (3 : Int32)) fun y8 => ob_R (fX10_has V y8 u1) fun y10 => if y10 = 0 then (lt_ (u2 ||| (0 : Int32)) fun y11 => lt_ (u3 + (1 : Int32)) fun y12 => some (.inl (u1, y11, y12))) else (ob_R (fX10_ofDeed V u3 (4 : Int32)) fun y14 => ob_R (fX10_has V y14 u1) fun y16 => if y16 = 0 then (lt_ (u2 ||| ((1 : Int32) <<< (u3 &&& 31))) fun y19 => lt_ (u3 + (1 : Int32)) fun y20 => some (.inl (u1, y19, y20))) else (lt_ (u2 ||| (0 : Int32)) fun y17 => lt_ (u3 + (1 : Int32)) fun y18 => some (.inl (u1, y17, y18))))) else (lt_ (u2 ||| (0 : Int32)) fun y5 => lt_ (u3 + (1 : Int32)) fun y6 => some (.inl (u1, y5, y6))))
noncomputable def iX10_owesOf_L4 (V : VT) : (Int32 × Int32 × Int32) → Option ((Int32 × Int32 × Int32) ⊕ Int32) := fun q => fX10_owesOf_L4 V (q.1) (q.2.1) (q.2.2)
noncomputable def fX10_owesOf (V : VT) (x1 : Int32) : Option Int32 := ob_R (it_ (iX10_owesOf_L4 V) FV (x1, (0 : Int32), (0 : Int32))) fun x26 => some x26
set_option maxHeartbeats 4000000 in
set_option maxRecDepth 100000 in
theorem wX10_owesOf_L4 {p : Program} {l : Launch} {e : Env} {s : State} {m : MethodId} {args : Array Value} {below : List Frame} {meth : Method} {c : Code} {G : GT} {B : BGt} {Q : State → Prop} (E : En p s m args c meth cX10_owesOf 4 RX10 (some .int) G B) {V : VT} {x : Int32} (kr : ∀ q : Int32, x = q → Q = MQ below (QI G s.heap.size q V) args s 0 0 (gA G s.heap.size)) : ∀ (n : Nat) (q : (Int32 × Int32 × Int32)), it_ (iX10_owesOf_L4 V) n q = some x → ∀ (H : Heap) (locs : List Loc) (ls : Array Slot), HW G s.heap V H locs → lv_has ls 4 [(0, .ref (G.2.2 22)), (1, .int (q.1)), (2, .int (q.2.1)), (3, .int (q.2.2))] → W p l e (rmD 5) s m args below meth c H locs 0 0 Q (F0 m 4 ls []) := by
  have hx := en_x E
  have hb := en_b E
  have hB := en_B E
  refine it_W (fun q : (Int32 × Int32 × Int32) => ∀ (H : Heap) (locs : List Loc) (ls : Array Slot), HW G s.heap V H locs → lv_has ls 4 [(0, .ref (G.2.2 22)), (1, .int (q.1)), (2, .int (q.2.1)), (3, .int (q.2.2))] → W p l e (rmD 5) s m args below meth c H locs 0 0 Q (F0 m 4 ls [])) x ?_
  intro q r h kc kx
  obtain ⟨u1, u2, u3⟩ := q
  intro H locs ls hw hl
  have h : fX10_owesOf_L4 V u1 u2 u3 = some r := h
  have hw : HW G s.heap V H locs := hw
  have hl : lv_has ls 4 [(0, .ref (G.2.2 22)), (1, .int u1), (2, .int u2), (3, .int u3)] := hl
  have kr : ∀ q : Int32, r = .inr (q) → Q = MQ below (QI G s.heap.size q V) args s 0 0 (gA G s.heap.size) := fun q e => kr q (kx _ e).symm
  unfold fX10_owesOf_L4 at h
  refine lv_iload_n hx hb dX10_owesOf_4 rfl (lv_at hl 3 rfl) ?_
  refine lv_aload_n hx hb dX10_owesOf_5 rfl (lv_at hl 0 rfl) ?_
  obtain ⟨y2, h1, h⟩ := ob_R_some h
  refine c_VI E hw (kX10_deeds (l := l) (G := G) hB  h1) yy_X10_deeds lm_RX10_80 rfl (by decide) rfl rfl hl.1 (by decide) (by decide) rfl (Nat.le_of_ble_eq_true rfl) dX10_owesOf_6 (fun H locs hw => ?_)
  refine lv_icmp_ge (tgt := 62) hx hb dX10_owesOf_9 (by decide) (fun c24 => ?_) (fun c24 => ?_)
  · rw [if_pos c24] at h
    refine lv_iload_n hx hb dX10_owesOf_62 rfl (lv_at hl 2 rfl) ?_
    rw [kr u2 (Option.some.inj h).symm]
    exact r_ri E hw dX10_owesOf_63
  · rw [if_neg c24] at h
    refine lv_iload_n hx hb dX10_owesOf_12 rfl (lv_at hl 2 rfl) ?_
    refine lv_aload_n hx hb dX10_owesOf_13 rfl (lv_at hl 0 rfl) ?_
    refine lv_iload_n hx hb dX10_owesOf_14 rfl (lv_at hl 3 rfl) ?_
    obtain ⟨y4, h3, h⟩ := ob_R_some h
    refine c_VI E hw (kX10_isSo (l := l) (G := G) hB  h3) yy_X10_isSo lm_RX10_340 rfl (by decide) rfl rfl hl.1 (by decide) (by decide) rfl (Nat.le_of_ble_eq_true rfl) dX10_owesOf_15 (fun H locs hw => ?_)
    refine lv_if_ne (tgt := 53) hx hb dX10_owesOf_18 (by decide) (fun c23 => ?_) (fun c23 => ?_)
    · rw [if_neg c23] at h
      refine lv_iconst (v := (0 : Int32)) hx hb dX10_owesOf_53 (by decide) ?_
      refine lv_ior hx hb dX10_owesOf_54 ?_
      obtain ⟨y5, ey5, h⟩ := lt_some h
      refine lv_eqi ey5 ?_
      refine lv_istore_n (lv' := [(2, .int y5), (0, .ref (G.2.2 22)), (1, .int u1), (3, .int u3)]) hx hb dX10_owesOf_55 rfl hl (by decide) rfl (fun ls hl => ?_)
      obtain ⟨y6, ey6, h⟩ := lt_some h
      refine lv_iinc (v := y6) (lv' := [(3, .int y6), (2, .int y5), (0, .ref (G.2.2 22)), (1, .int u1)]) hx hb dX10_owesOf_56 hl (k := 3) rfl (by rw [ey6]; rfl) (by decide) rfl (fun ls hl => ?_)
      refine lv_goto (tgt := 4) hx hb dX10_owesOf_59 (by decide) ?_
      exact kc (u1, y5, y6) (Option.some.inj h).symm H locs ls hw (lv_sub hl [2, 3, 1, 0] rfl)
    · rw [if_pos c23] at h
      refine lv_aload_n hx hb dX10_owesOf_21 rfl (lv_at hl 0 rfl) ?_
      refine lv_iload_n hx hb dX10_owesOf_22 rfl (lv_at hl 3 rfl) ?_
      refine lv_iconst (v := (3 : Int32)) hx hb dX10_owesOf_23 (by decide) ?_
      obtain ⟨y8, h7, h⟩ := ob_R_some h
      refine c_VI E hw (kX10_ofDeed (l := l) (G := G) hB  h7) yy_X10_ofDeed lm_RX10_73 rfl (by decide) rfl rfl hl.1 (by decide) (by decide) rfl (Nat.le_of_ble_eq_true rfl) dX10_owesOf_24 (fun H locs hw => ?_)
      refine lv_iload_n hx hb dX10_owesOf_27 rfl (lv_at hl 1 rfl) ?_
      obtain ⟨y10, h9, h⟩ := ob_R_some h
      refine c_SI E hw (kX10_has (l := l) (G := G) hB  h9) yy_X10_has lm_RX10_346 rfl hl.1 (by decide) (by decide) rfl (Nat.le_of_ble_eq_true rfl) dX10_owesOf_28 (fun H locs hw => ?_)
      refine lv_if_eq (tgt := 53) hx hb dX10_owesOf_31 (by decide) (fun c22 => ?_) (fun c22 => ?_)
      · rw [if_pos c22] at h
        refine lv_iconst (v := (0 : Int32)) hx hb dX10_owesOf_53 (by decide) ?_
        refine lv_ior hx hb dX10_owesOf_54 ?_
        obtain ⟨y11, ey11, h⟩ := lt_some h
        refine lv_eqi ey11 ?_
        refine lv_istore_n (lv' := [(2, .int y11), (0, .ref (G.2.2 22)), (1, .int u1), (3, .int u3)]) hx hb dX10_owesOf_55 rfl hl (by decide) rfl (fun ls hl => ?_)
        obtain ⟨y12, ey12, h⟩ := lt_some h
        refine lv_iinc (v := y12) (lv' := [(3, .int y12), (2, .int y11), (0, .ref (G.2.2 22)), (1, .int u1)]) hx hb dX10_owesOf_56 hl (k := 3) rfl (by rw [ey12]; rfl) (by decide) rfl (fun ls hl => ?_)
        refine lv_goto (tgt := 4) hx hb dX10_owesOf_59 (by decide) ?_
        exact kc (u1, y11, y12) (Option.some.inj h).symm H locs ls hw (lv_sub hl [2, 3, 1, 0] rfl)
      · rw [if_neg c22] at h
        refine lv_aload_n hx hb dX10_owesOf_34 rfl (lv_at hl 0 rfl) ?_
        refine lv_iload_n hx hb dX10_owesOf_35 rfl (lv_at hl 3 rfl) ?_
        refine lv_iconst (v := (4 : Int32)) hx hb dX10_owesOf_36 (by decide) ?_
        obtain ⟨y14, h13, h⟩ := ob_R_some h
        refine c_VI E hw (kX10_ofDeed (l := l) (G := G) hB  h13) yy_X10_ofDeed lm_RX10_73 rfl (by decide) rfl rfl hl.1 (by decide) (by decide) rfl (Nat.le_of_ble_eq_true rfl) dX10_owesOf_37 (fun H locs hw => ?_)
        refine lv_iload_n hx hb dX10_owesOf_40 rfl (lv_at hl 1 rfl) ?_
        obtain ⟨y16, h15, h⟩ := ob_R_some h
        refine c_SI E hw (kX10_has (l := l) (G := G) hB  h15) yy_X10_has lm_RX10_346 rfl hl.1 (by decide) (by decide) rfl (Nat.le_of_ble_eq_true rfl) dX10_owesOf_41 (fun H locs hw => ?_)
        refine lv_if_ne (tgt := 53) hx hb dX10_owesOf_44 (by decide) (fun c21 => ?_) (fun c21 => ?_)
        · rw [if_neg c21] at h
          refine lv_iconst (v := (0 : Int32)) hx hb dX10_owesOf_53 (by decide) ?_
          refine lv_ior hx hb dX10_owesOf_54 ?_
          obtain ⟨y17, ey17, h⟩ := lt_some h
          refine lv_eqi ey17 ?_
          refine lv_istore_n (lv' := [(2, .int y17), (0, .ref (G.2.2 22)), (1, .int u1), (3, .int u3)]) hx hb dX10_owesOf_55 rfl hl (by decide) rfl (fun ls hl => ?_)
          obtain ⟨y18, ey18, h⟩ := lt_some h
          refine lv_iinc (v := y18) (lv' := [(3, .int y18), (2, .int y17), (0, .ref (G.2.2 22)), (1, .int u1)]) hx hb dX10_owesOf_56 hl (k := 3) rfl (by rw [ey18]; rfl) (by decide) rfl (fun ls hl => ?_)
          refine lv_goto (tgt := 4) hx hb dX10_owesOf_59 (by decide) ?_
          exact kc (u1, y17, y18) (Option.some.inj h).symm H locs ls hw (lv_sub hl [2, 3, 1, 0] rfl)
        · rw [if_pos c21] at h
          refine lv_iconst (v := (1 : Int32)) hx hb dX10_owesOf_47 (by decide) ?_
          refine lv_iload_n hx hb dX10_owesOf_48 rfl (lv_at hl 3 rfl) ?_
          refine lv_ishl hx hb dX10_owesOf_49 ?_
          refine lv_goto (tgt := 54) hx hb dX10_owesOf_50 (by decide) ?_
          refine lv_ior hx hb dX10_owesOf_54 ?_
          obtain ⟨y19, ey19, h⟩ := lt_some h
          refine lv_eqi ey19 ?_
          refine lv_istore_n (lv' := [(2, .int y19), (0, .ref (G.2.2 22)), (1, .int u1), (3, .int u3)]) hx hb dX10_owesOf_55 rfl hl (by decide) rfl (fun ls hl => ?_)
          obtain ⟨y20, ey20, h⟩ := lt_some h
          refine lv_iinc (v := y20) (lv' := [(3, .int y20), (2, .int y19), (0, .ref (G.2.2 22)), (1, .int u1)]) hx hb dX10_owesOf_56 hl (k := 3) rfl (by rw [ey20]; rfl) (by decide) rfl (fun ls hl => ?_)
          refine lv_goto (tgt := 4) hx hb dX10_owesOf_59 (by decide) ?_
          exact kc (u1, y19, y20) (Option.some.inj h).symm H locs ls hw (lv_sub hl [2, 3, 1, 0] rfl)
set_option maxHeartbeats 4000000 in
set_option maxRecDepth 100000 in
theorem kX10_owesOf {l : Launch} {G : GT} {B : BGt} (hB : BGok B) {V : VT} {x1 : Int32} {r : Int32} (h : fX10_owesOf V x1 = some r) : CI l G B yX10_owesOf (.code yX10_owesOf cX10_owesOf 4 (some .int)) 5 [.ref (G.2.2 22), .int x1] V r V := by
  intro sz
  refine met_of (Qs := fun sz => QI G sz r V) hB (by decide) (Nat.le_of_ble_eq_true rfl) ?_ sz
  intro p e s m args below meth c ls E hw hl
  have hx := en_x E
  have hb := en_b E
  generalize hQ : MQ _ _ _ _ _ _ _ = Q
  have kr : Q = MQ below (QI G s.heap.size r V) args s 0 0 (gA G s.heap.size) := hQ.symm
  have hl : lv_has ls 4 [(0, .ref (G.2.2 22)), (1, .int x1)] := hl
  obtain ⟨H, eH⟩ : ∃ H, H = s.heap := ⟨_, rfl⟩
  obtain ⟨locs, elocs⟩ : ∃ z : List Loc, z = [] := ⟨_, rfl⟩
  have hw : HW G s.heap V H locs := by rw [eH, elocs]; exact hw
  show W p l e _ s m args below meth c s.heap [] 0 0 Q (F0 m 0 ls [])
  rw [← eH, ← elocs]
  unfold fX10_owesOf at h
  refine lv_iconst (v := (0 : Int32)) hx hb dX10_owesOf_0 (by decide) ?_
  refine lv_istore_n (lv' := [(2, .int (0 : Int32)), (0, .ref (G.2.2 22)), (1, .int x1)]) hx hb dX10_owesOf_1 rfl hl (by decide) rfl (fun ls hl => ?_)
  refine lv_iconst (v := (0 : Int32)) hx hb dX10_owesOf_2 (by decide) ?_
  refine lv_istore_n (lv' := [(3, .int (0 : Int32)), (2, .int (0 : Int32)), (0, .ref (G.2.2 22)), (1, .int x1)]) hx hb dX10_owesOf_3 rfl hl (by decide) rfl (fun ls hl => ?_)
  obtain ⟨x26, h25, h⟩ := ob_R_some h
  have h := Option.some.inj h
  subst h
  exact wX10_owesOf_L4 E (fun q e => by subst e; exact kr) FV (x1, (0 : Int32), (0 : Int32)) h25 H locs ls hw (lv_sub hl [2, 3, 1, 0] rfl)
/-! ===== AllSawItModel.lacksOf(I)I ===== -/
theorem dX10_lacksOf_0 : decode cX10_lacksOf 0 = .ok (.iconst 0, 1) := by decide +kernel
theorem dX10_lacksOf_1 : decode cX10_lacksOf 1 = .ok (.istore_n 2, 1) := by decide +kernel
theorem dX10_lacksOf_2 : decode cX10_lacksOf 2 = .ok (.iconst 0, 1) := by decide +kernel
theorem dX10_lacksOf_3 : decode cX10_lacksOf 3 = .ok (.istore_n 3, 1) := by decide +kernel
theorem dX10_lacksOf_4 : decode cX10_lacksOf 4 = .ok (.iload_n 3, 1) := by decide +kernel
theorem dX10_lacksOf_5 : decode cX10_lacksOf 5 = .ok (.aload_n 0, 1) := by decide +kernel
theorem dX10_lacksOf_6 : decode cX10_lacksOf 6 = .ok (.invokevirtual 80, 3) := by decide +kernel
theorem dX10_lacksOf_9 : decode cX10_lacksOf 9 = .ok (.if_icmp .ge 40, 3) := by decide +kernel
theorem dX10_lacksOf_12 : decode cX10_lacksOf 12 = .ok (.iload_n 2, 1) := by decide +kernel
theorem dX10_lacksOf_13 : decode cX10_lacksOf 13 = .ok (.aload_n 0, 1) := by decide +kernel
theorem dX10_lacksOf_14 : decode cX10_lacksOf 14 = .ok (.iload_n 3, 1) := by decide +kernel
theorem dX10_lacksOf_15 : decode cX10_lacksOf 15 = .ok (.invokevirtual 340, 3) := by decide +kernel
theorem dX10_lacksOf_18 : decode cX10_lacksOf 18 = .ok (.ifCond .ne 22, 3) := by decide +kernel
theorem dX10_lacksOf_21 : decode cX10_lacksOf 21 = .ok (.aload_n 0, 1) := by decide +kernel
theorem dX10_lacksOf_22 : decode cX10_lacksOf 22 = .ok (.iload_n 3, 1) := by decide +kernel
theorem dX10_lacksOf_23 : decode cX10_lacksOf 23 = .ok (.iconst 3, 1) := by decide +kernel
theorem dX10_lacksOf_24 : decode cX10_lacksOf 24 = .ok (.invokevirtual 73, 3) := by decide +kernel
theorem dX10_lacksOf_27 : decode cX10_lacksOf 27 = .ok (.iload_n 1, 1) := by decide +kernel
theorem dX10_lacksOf_28 : decode cX10_lacksOf 28 = .ok (.invokestatic 346, 3) := by decide +kernel
theorem dX10_lacksOf_31 : decode cX10_lacksOf 31 = .ok (.ifCond .ne 9, 3) := by decide +kernel
theorem dX10_lacksOf_34 : decode cX10_lacksOf 34 = .ok (.iconst 1, 1) := by decide +kernel
theorem dX10_lacksOf_35 : decode cX10_lacksOf 35 = .ok (.iload_n 3, 1) := by decide +kernel
theorem dX10_lacksOf_36 : decode cX10_lacksOf 36 = .ok (.ishl, 1) := by decide +kernel
theorem dX10_lacksOf_37 : decode cX10_lacksOf 37 = .ok (.goto 4, 3) := by decide +kernel
theorem dX10_lacksOf_40 : decode cX10_lacksOf 40 = .ok (.iconst 0, 1) := by decide +kernel
theorem dX10_lacksOf_41 : decode cX10_lacksOf 41 = .ok (.ior, 1) := by decide +kernel
theorem dX10_lacksOf_42 : decode cX10_lacksOf 42 = .ok (.istore_n 2, 1) := by decide +kernel
theorem dX10_lacksOf_43 : decode cX10_lacksOf 43 = .ok (.iinc 3 1, 3) := by decide +kernel
theorem dX10_lacksOf_46 : decode cX10_lacksOf 46 = .ok (.goto (-42), 3) := by decide +kernel
theorem dX10_lacksOf_49 : decode cX10_lacksOf 49 = .ok (.iload_n 2, 1) := by decide +kernel
theorem dX10_lacksOf_50 : decode cX10_lacksOf 50 = .ok (.ireturn, 1) := by decide +kernel
noncomputable def fX10_lacksOf_L4 (V : VT) (u1 : Int32) (u2 : Int32) (u3 : Int32) : Option ((Int32 × Int32 × Int32) ⊕ Int32) := ob_R (fX10_deeds V ) fun y2 => if y2 ≤ u3 then (some (.inr (u2))) else (ob_R (fX10_isSo V u3) fun y4 => if y4 = 0 then (ob_R (fX10_ofDeed V u3 (3 : Int32)) fun y8 => ob_R (fX10_has V y8 u1) fun y10 => if y10 = 0 then (lt_ (u2 ||| ((1 : Int32) <<< (u3 &&& 31))) fun y13 => lt_ (u3 + (1 : Int32)) fun y14 => some (.inl (u1, y13, y14))) else (lt_ (u2 ||| (0 : Int32)) fun y11 => lt_ (u3 + (1 : Int32)) fun y12 => some (.inl (u1, y11, y12)))) else (lt_ (u2 ||| (0 : Int32)) fun y5 => lt_ (u3 + (1 : Int32)) fun y6 => some (.inl (u1, y5, y6))))
noncomputable def iX10_lacksOf_L4 (V : VT) : (Int32 × Int32 × Int32) → Option ((Int32 × Int32 × Int32) ⊕ Int32) := fun q => fX10_lacksOf_L4 V (q.1) (q.2.1) (q.2.2)
noncomputable def fX10_lacksOf (V : VT) (x1 : Int32) : Option Int32 := ob_R (it_ (iX10_lacksOf_L4 V) FV (x1, (0 : Int32), (0 : Int32))) fun x19 => some x19
set_option maxHeartbeats 4000000 in
set_option maxRecDepth 100000 in
theorem wX10_lacksOf_L4 {p : Program} {l : Launch} {e : Env} {s : State} {m : MethodId} {args : Array Value} {below : List Frame} {meth : Method} {c : Code} {G : GT} {B : BGt} {Q : State → Prop} (E : En p s m args c meth cX10_lacksOf 4 RX10 (some .int) G B) {V : VT} {x : Int32} (kr : ∀ q : Int32, x = q → Q = MQ below (QI G s.heap.size q V) args s 0 0 (gA G s.heap.size)) : ∀ (n : Nat) (q : (Int32 × Int32 × Int32)), it_ (iX10_lacksOf_L4 V) n q = some x → ∀ (H : Heap) (locs : List Loc) (ls : Array Slot), HW G s.heap V H locs → lv_has ls 4 [(0, .ref (G.2.2 22)), (1, .int (q.1)), (2, .int (q.2.1)), (3, .int (q.2.2))] → W p l e (rmD 5) s m args below meth c H locs 0 0 Q (F0 m 4 ls []) := by
  have hx := en_x E
  have hb := en_b E
  have hB := en_B E
  refine it_W (fun q : (Int32 × Int32 × Int32) => ∀ (H : Heap) (locs : List Loc) (ls : Array Slot), HW G s.heap V H locs → lv_has ls 4 [(0, .ref (G.2.2 22)), (1, .int (q.1)), (2, .int (q.2.1)), (3, .int (q.2.2))] → W p l e (rmD 5) s m args below meth c H locs 0 0 Q (F0 m 4 ls [])) x ?_
  intro q r h kc kx
  obtain ⟨u1, u2, u3⟩ := q
  intro H locs ls hw hl
  have h : fX10_lacksOf_L4 V u1 u2 u3 = some r := h
  have hw : HW G s.heap V H locs := hw
  have hl : lv_has ls 4 [(0, .ref (G.2.2 22)), (1, .int u1), (2, .int u2), (3, .int u3)] := hl
  have kr : ∀ q : Int32, r = .inr (q) → Q = MQ below (QI G s.heap.size q V) args s 0 0 (gA G s.heap.size) := fun q e => kr q (kx _ e).symm
  unfold fX10_lacksOf_L4 at h
  refine lv_iload_n hx hb dX10_lacksOf_4 rfl (lv_at hl 3 rfl) ?_
  refine lv_aload_n hx hb dX10_lacksOf_5 rfl (lv_at hl 0 rfl) ?_
  obtain ⟨y2, h1, h⟩ := ob_R_some h
  refine c_VI E hw (kX10_deeds (l := l) (G := G) hB  h1) yy_X10_deeds lm_RX10_80 rfl (by decide) rfl rfl hl.1 (by decide) (by decide) rfl (Nat.le_of_ble_eq_true rfl) dX10_lacksOf_6 (fun H locs hw => ?_)
  refine lv_icmp_ge (tgt := 49) hx hb dX10_lacksOf_9 (by decide) (fun c17 => ?_) (fun c17 => ?_)
  · rw [if_pos c17] at h
    refine lv_iload_n hx hb dX10_lacksOf_49 rfl (lv_at hl 2 rfl) ?_
    rw [kr u2 (Option.some.inj h).symm]
    exact r_ri E hw dX10_lacksOf_50
  · rw [if_neg c17] at h
    refine lv_iload_n hx hb dX10_lacksOf_12 rfl (lv_at hl 2 rfl) ?_
    refine lv_aload_n hx hb dX10_lacksOf_13 rfl (lv_at hl 0 rfl) ?_
    refine lv_iload_n hx hb dX10_lacksOf_14 rfl (lv_at hl 3 rfl) ?_
    obtain ⟨y4, h3, h⟩ := ob_R_some h
    refine c_VI E hw (kX10_isSo (l := l) (G := G) hB  h3) yy_X10_isSo lm_RX10_340 rfl (by decide) rfl rfl hl.1 (by decide) (by decide) rfl (Nat.le_of_ble_eq_true rfl) dX10_lacksOf_15 (fun H locs hw => ?_)
    refine lv_if_ne (tgt := 40) hx hb dX10_lacksOf_18 (by decide) (fun c16 => ?_) (fun c16 => ?_)
    · rw [if_neg c16] at h
      refine lv_iconst (v := (0 : Int32)) hx hb dX10_lacksOf_40 (by decide) ?_
      refine lv_ior hx hb dX10_lacksOf_41 ?_
      obtain ⟨y5, ey5, h⟩ := lt_some h
      refine lv_eqi ey5 ?_
      refine lv_istore_n (lv' := [(2, .int y5), (0, .ref (G.2.2 22)), (1, .int u1), (3, .int u3)]) hx hb dX10_lacksOf_42 rfl hl (by decide) rfl (fun ls hl => ?_)
      obtain ⟨y6, ey6, h⟩ := lt_some h
      refine lv_iinc (v := y6) (lv' := [(3, .int y6), (2, .int y5), (0, .ref (G.2.2 22)), (1, .int u1)]) hx hb dX10_lacksOf_43 hl (k := 3) rfl (by rw [ey6]; rfl) (by decide) rfl (fun ls hl => ?_)
      refine lv_goto (tgt := 4) hx hb dX10_lacksOf_46 (by decide) ?_
      exact kc (u1, y5, y6) (Option.some.inj h).symm H locs ls hw (lv_sub hl [2, 3, 1, 0] rfl)
    · rw [if_pos c16] at h
      refine lv_aload_n hx hb dX10_lacksOf_21 rfl (lv_at hl 0 rfl) ?_
      refine lv_iload_n hx hb dX10_lacksOf_22 rfl (lv_at hl 3 rfl) ?_
      refine lv_iconst (v := (3 : Int32)) hx hb dX10_lacksOf_23 (by decide) ?_
      obtain ⟨y8, h7, h⟩ := ob_R_some h
      refine c_VI E hw (kX10_ofDeed (l := l) (G := G) hB  h7) yy_X10_ofDeed lm_RX10_73 rfl (by decide) rfl rfl hl.1 (by decide) (by decide) rfl (Nat.le_of_ble_eq_true rfl) dX10_lacksOf_24 (fun H locs hw => ?_)
      refine lv_iload_n hx hb dX10_lacksOf_27 rfl (lv_at hl 1 rfl) ?_
      obtain ⟨y10, h9, h⟩ := ob_R_some h
      refine c_SI E hw (kX10_has (l := l) (G := G) hB  h9) yy_X10_has lm_RX10_346 rfl hl.1 (by decide) (by decide) rfl (Nat.le_of_ble_eq_true rfl) dX10_lacksOf_28 (fun H locs hw => ?_)
      refine lv_if_ne (tgt := 40) hx hb dX10_lacksOf_31 (by decide) (fun c15 => ?_) (fun c15 => ?_)
      · rw [if_neg c15] at h
        refine lv_iconst (v := (0 : Int32)) hx hb dX10_lacksOf_40 (by decide) ?_
        refine lv_ior hx hb dX10_lacksOf_41 ?_
        obtain ⟨y11, ey11, h⟩ := lt_some h
        refine lv_eqi ey11 ?_
        refine lv_istore_n (lv' := [(2, .int y11), (0, .ref (G.2.2 22)), (1, .int u1), (3, .int u3)]) hx hb dX10_lacksOf_42 rfl hl (by decide) rfl (fun ls hl => ?_)
        obtain ⟨y12, ey12, h⟩ := lt_some h
        refine lv_iinc (v := y12) (lv' := [(3, .int y12), (2, .int y11), (0, .ref (G.2.2 22)), (1, .int u1)]) hx hb dX10_lacksOf_43 hl (k := 3) rfl (by rw [ey12]; rfl) (by decide) rfl (fun ls hl => ?_)
        refine lv_goto (tgt := 4) hx hb dX10_lacksOf_46 (by decide) ?_
        exact kc (u1, y11, y12) (Option.some.inj h).symm H locs ls hw (lv_sub hl [2, 3, 1, 0] rfl)
      · rw [if_pos c15] at h
        refine lv_iconst (v := (1 : Int32)) hx hb dX10_lacksOf_34 (by decide) ?_
        refine lv_iload_n hx hb dX10_lacksOf_35 rfl (lv_at hl 3 rfl) ?_
        refine lv_ishl hx hb dX10_lacksOf_36 ?_
        refine lv_goto (tgt := 41) hx hb dX10_lacksOf_37 (by decide) ?_
        refine lv_ior hx hb dX10_lacksOf_41 ?_
        obtain ⟨y13, ey13, h⟩ := lt_some h
        refine lv_eqi ey13 ?_
        refine lv_istore_n (lv' := [(2, .int y13), (0, .ref (G.2.2 22)), (1, .int u1), (3, .int u3)]) hx hb dX10_lacksOf_42 rfl hl (by decide) rfl (fun ls hl => ?_)
        obtain ⟨y14, ey14, h⟩ := lt_some h
        refine lv_iinc (v := y14) (lv' := [(3, .int y14), (2, .int y13), (0, .ref (G.2.2 22)), (1, .int u1)]) hx hb dX10_lacksOf_43 hl (k := 3) rfl (by rw [ey14]; rfl) (by decide) rfl (fun ls hl => ?_)
        refine lv_goto (tgt := 4) hx hb dX10_lacksOf_46 (by decide) ?_
        exact kc (u1, y13, y14) (Option.some.inj h).symm H locs ls hw (lv_sub hl [2, 3, 1, 0] rfl)
set_option maxHeartbeats 4000000 in
set_option maxRecDepth 100000 in
theorem kX10_lacksOf {l : Launch} {G : GT} {B : BGt} (hB : BGok B) {V : VT} {x1 : Int32} {r : Int32} (h : fX10_lacksOf V x1 = some r) : CI l G B yX10_lacksOf (.code yX10_lacksOf cX10_lacksOf 4 (some .int)) 5 [.ref (G.2.2 22), .int x1] V r V := by
  intro sz
  refine met_of (Qs := fun sz => QI G sz r V) hB (by decide) (Nat.le_of_ble_eq_true rfl) ?_ sz
  intro p e s m args below meth c ls E hw hl
  have hx := en_x E
  have hb := en_b E
  generalize hQ : MQ _ _ _ _ _ _ _ = Q
  have kr : Q = MQ below (QI G s.heap.size r V) args s 0 0 (gA G s.heap.size) := hQ.symm
  have hl : lv_has ls 4 [(0, .ref (G.2.2 22)), (1, .int x1)] := hl
  obtain ⟨H, eH⟩ : ∃ H, H = s.heap := ⟨_, rfl⟩
  obtain ⟨locs, elocs⟩ : ∃ z : List Loc, z = [] := ⟨_, rfl⟩
  have hw : HW G s.heap V H locs := by rw [eH, elocs]; exact hw
  show W p l e _ s m args below meth c s.heap [] 0 0 Q (F0 m 0 ls [])
  rw [← eH, ← elocs]
  unfold fX10_lacksOf at h
  refine lv_iconst (v := (0 : Int32)) hx hb dX10_lacksOf_0 (by decide) ?_
  refine lv_istore_n (lv' := [(2, .int (0 : Int32)), (0, .ref (G.2.2 22)), (1, .int x1)]) hx hb dX10_lacksOf_1 rfl hl (by decide) rfl (fun ls hl => ?_)
  refine lv_iconst (v := (0 : Int32)) hx hb dX10_lacksOf_2 (by decide) ?_
  refine lv_istore_n (lv' := [(3, .int (0 : Int32)), (2, .int (0 : Int32)), (0, .ref (G.2.2 22)), (1, .int x1)]) hx hb dX10_lacksOf_3 rfl hl (by decide) rfl (fun ls hl => ?_)
  obtain ⟨x19, h18, h⟩ := ob_R_some h
  have h := Option.some.inj h
  subst h
  exact wX10_lacksOf_L4 E (fun q e => by subst e; exact kr) FV (x1, (0 : Int32), (0 : Int32)) h18 H locs ls hw (lv_sub hl [2, 3, 1, 0] rfl)
/-! ===== AllSawItModel.shareOf(I)I ===== -/
theorem dX10_shareOf_0 : decode cX10_shareOf 0 = .ok (.iconst 0, 1) := by decide +kernel
theorem dX10_shareOf_1 : decode cX10_shareOf 1 = .ok (.istore_n 2, 1) := by decide +kernel
theorem dX10_shareOf_2 : decode cX10_shareOf 2 = .ok (.iconst 0, 1) := by decide +kernel
theorem dX10_shareOf_3 : decode cX10_shareOf 3 = .ok (.istore_n 3, 1) := by decide +kernel
theorem dX10_shareOf_4 : decode cX10_shareOf 4 = .ok (.iload_n 3, 1) := by decide +kernel
theorem dX10_shareOf_5 : decode cX10_shareOf 5 = .ok (.bipush 24, 2) := by decide +kernel
theorem dX10_shareOf_7 : decode cX10_shareOf 7 = .ok (.if_icmp .ge 50, 3) := by decide +kernel
theorem dX10_shareOf_10 : decode cX10_shareOf 10 = .ok (.iconst 0, 1) := by decide +kernel
theorem dX10_shareOf_11 : decode cX10_shareOf 11 = .ok (.istore 4, 2) := by decide +kernel
theorem dX10_shareOf_13 : decode cX10_shareOf 13 = .ok (.iload 4, 2) := by decide +kernel
theorem dX10_shareOf_15 : decode cX10_shareOf 15 = .ok (.bipush 24, 2) := by decide +kernel
theorem dX10_shareOf_17 : decode cX10_shareOf 17 = .ok (.if_icmp .ge 34, 3) := by decide +kernel
theorem dX10_shareOf_20 : decode cX10_shareOf 20 = .ok (.iload_n 2, 1) := by decide +kernel
theorem dX10_shareOf_21 : decode cX10_shareOf 21 = .ok (.aload_n 0, 1) := by decide +kernel
theorem dX10_shareOf_22 : decode cX10_shareOf 22 = .ok (.iload_n 1, 1) := by decide +kernel
theorem dX10_shareOf_23 : decode cX10_shareOf 23 = .ok (.iload_n 3, 1) := by decide +kernel
theorem dX10_shareOf_24 : decode cX10_shareOf 24 = .ok (.iload 4, 2) := by decide +kernel
theorem dX10_shareOf_26 : decode cX10_shareOf 26 = .ok (.aload_n 0, 1) := by decide +kernel
theorem dX10_shareOf_27 : decode cX10_shareOf 27 = .ok (.getfield 13, 3) := by decide +kernel
theorem dX10_shareOf_30 : decode cX10_shareOf 30 = .ok (.iconst 5, 1) := by decide +kernel
theorem dX10_shareOf_31 : decode cX10_shareOf 31 = .ok (.iaload, 1) := by decide +kernel
theorem dX10_shareOf_32 : decode cX10_shareOf 32 = .ok (.invokevirtual 301, 3) := by decide +kernel
theorem dX10_shareOf_35 : decode cX10_shareOf 35 = .ok (.ifCond .eq 7, 3) := by decide +kernel
theorem dX10_shareOf_38 : decode cX10_shareOf 38 = .ok (.iconst 1, 1) := by decide +kernel
theorem dX10_shareOf_39 : decode cX10_shareOf 39 = .ok (.goto 4, 3) := by decide +kernel
theorem dX10_shareOf_42 : decode cX10_shareOf 42 = .ok (.iconst 0, 1) := by decide +kernel
theorem dX10_shareOf_43 : decode cX10_shareOf 43 = .ok (.iadd, 1) := by decide +kernel
theorem dX10_shareOf_44 : decode cX10_shareOf 44 = .ok (.istore_n 2, 1) := by decide +kernel
theorem dX10_shareOf_45 : decode cX10_shareOf 45 = .ok (.iinc 4 1, 3) := by decide +kernel
theorem dX10_shareOf_48 : decode cX10_shareOf 48 = .ok (.goto (-35), 3) := by decide +kernel
theorem dX10_shareOf_51 : decode cX10_shareOf 51 = .ok (.iinc 3 1, 3) := by decide +kernel
theorem dX10_shareOf_54 : decode cX10_shareOf 54 = .ok (.goto (-50), 3) := by decide +kernel
theorem dX10_shareOf_57 : decode cX10_shareOf 57 = .ok (.bipush 100, 2) := by decide +kernel
theorem dX10_shareOf_59 : decode cX10_shareOf 59 = .ok (.iload_n 2, 1) := by decide +kernel
theorem dX10_shareOf_60 : decode cX10_shareOf 60 = .ok (.imul, 1) := by decide +kernel
theorem dX10_shareOf_61 : decode cX10_shareOf 61 = .ok (.sipush 576, 3) := by decide +kernel
theorem dX10_shareOf_64 : decode cX10_shareOf 64 = .ok (.idiv, 1) := by decide +kernel
theorem dX10_shareOf_65 : decode cX10_shareOf 65 = .ok (.ireturn, 1) := by decide +kernel
noncomputable def fX10_shareOf_L13 (V : VT) (u1 : Int32) (u2 : Int32) (u3 : Int32) (u4 : Int32) : Option ((VT × Int32 × Int32 × Int32 × Int32) ⊕ (VT × Int32 × Int32 × Int32)) := if (24 : Int32) ≤ u4 then (some (.inr ((V, u1, u2, u3)))) else (rd_ (5 : Int32) 1988 (ob_I (fX10_doesSee V u1 u3 u4 (V 76 (5 : Int32).toNatClampNeg)) fun y3 V4 => if y3 = 0 then (lt_ (u2 + (0 : Int32)) fun y5 => lt_ (u4 + (1 : Int32)) fun y6 => some (.inl (V4, u1, y5, u3, y6))) else (lt_ (u2 + (1 : Int32)) fun y7 => lt_ (u4 + (1 : Int32)) fun y8 => some (.inl (V4, u1, y7, u3, y8)))))
noncomputable def iX10_shareOf_L13 : (VT × Int32 × Int32 × Int32 × Int32) → Option ((VT × Int32 × Int32 × Int32 × Int32) ⊕ (VT × Int32 × Int32 × Int32)) := fun q => fX10_shareOf_L13 (q.1) (q.2.1) (q.2.2.1) (q.2.2.2.1) (q.2.2.2.2)
noncomputable def fX10_shareOf_L4 (V : VT) (u1 : Int32) (u2 : Int32) (u3 : Int32) : Option ((VT × Int32 × Int32 × Int32) ⊕ (Int32 × VT)) := if (24 : Int32) ≤ u3 then (some (.inr (((((100 : Int32) * u2) / (576 : Int32)), V)))) else (ob_R (it_ (iX10_shareOf_L13) FV (V, u1, u2, u3, (0 : Int32))) fun x12 => (dt4_ x12 fun V16 y13 y14 y15 => lt_ (y15 + (1 : Int32)) fun y17 => some (.inl (V16, y13, y14, y17))))
noncomputable def iX10_shareOf_L4 : (VT × Int32 × Int32 × Int32) → Option ((VT × Int32 × Int32 × Int32) ⊕ (Int32 × VT)) := fun q => fX10_shareOf_L4 (q.1) (q.2.1) (q.2.2.1) (q.2.2.2)
noncomputable def fX10_shareOf (V : VT) (x1 : Int32) : Option (Int32 × VT) := ob_R (it_ (iX10_shareOf_L4) FV (V, x1, (0 : Int32), (0 : Int32))) fun x20 => some x20
set_option maxHeartbeats 4000000 in
set_option maxRecDepth 100000 in
theorem wX10_shareOf_L13 {p : Program} {l : Launch} {e : Env} {s : State} {m : MethodId} {args : Array Value} {below : List Frame} {meth : Method} {c : Code} {G : GT} {B : BGt} {Q : State → Prop} (E : En p s m args c meth cX10_shareOf 5 RX10 (some .int) G B) {x : (VT × Int32 × Int32 × Int32)} (ke : ∀ q : (VT × Int32 × Int32 × Int32), x = q → ∀ (H : Heap) (locs : List Loc) (ls : Array Slot), HW G s.heap (q.1) H locs → lv_has ls 5 [(0, .ref (G.2.2 22)), (1, .int (q.2.1)), (2, .int (q.2.2.1)), (3, .int (q.2.2.2))] → W p l e (rmD 11) s m args below meth c H locs 0 0 Q (F0 m 51 ls [])) : ∀ (n : Nat) (q : (VT × Int32 × Int32 × Int32 × Int32)), it_ (iX10_shareOf_L13) n q = some x → ∀ (H : Heap) (locs : List Loc) (ls : Array Slot), HW G s.heap (q.1) H locs → lv_has ls 5 [(0, .ref (G.2.2 22)), (1, .int (q.2.1)), (2, .int (q.2.2.1)), (3, .int (q.2.2.2.1)), (4, .int (q.2.2.2.2))] → W p l e (rmD 11) s m args below meth c H locs 0 0 Q (F0 m 13 ls []) := by
  have hx := en_x E
  have hb := en_b E
  have hB := en_B E
  refine it_W (fun q : (VT × Int32 × Int32 × Int32 × Int32) => ∀ (H : Heap) (locs : List Loc) (ls : Array Slot), HW G s.heap (q.1) H locs → lv_has ls 5 [(0, .ref (G.2.2 22)), (1, .int (q.2.1)), (2, .int (q.2.2.1)), (3, .int (q.2.2.2.1)), (4, .int (q.2.2.2.2))] → W p l e (rmD 11) s m args below meth c H locs 0 0 Q (F0 m 13 ls [])) x ?_
  intro q r h kc kx
  obtain ⟨V, u1, u2, u3, u4⟩ := q
  intro H locs ls hw hl
  have h : fX10_shareOf_L13 V u1 u2 u3 u4 = some r := h
  have hw : HW G s.heap V H locs := hw
  have hl : lv_has ls 5 [(0, .ref (G.2.2 22)), (1, .int u1), (2, .int u2), (3, .int u3), (4, .int u4)] := hl
  have ke : ∀ q : (VT × Int32 × Int32 × Int32), r = .inr (q) → ∀ (H : Heap) (locs : List Loc) (ls : Array Slot), HW G s.heap (q.1) H locs → lv_has ls 5 [(0, .ref (G.2.2 22)), (1, .int (q.2.1)), (2, .int (q.2.2.1)), (3, .int (q.2.2.2))] → W p l e (rmD 11) s m args below meth c H locs 0 0 Q (F0 m 51 ls []) := fun q e => ke q (kx _ e).symm
  unfold fX10_shareOf_L13 at h
  refine lv_iload hx hb dX10_shareOf_13 (lv_at hl 4 rfl) ?_
  refine lv_bipush (v := (24 : Int32)) hx hb dX10_shareOf_15 (by decide) ?_
  refine lv_icmp_ge (tgt := 51) hx hb dX10_shareOf_17 (by decide) (fun c10 => ?_) (fun c10 => ?_)
  · rw [if_pos c10] at h
    exact ke (V, u1, u2, u3) (Option.some.inj h).symm H locs ls hw (lv_sub hl [0, 1, 2, 3] rfl)
  · rw [if_neg c10] at h
    refine lv_iload_n hx hb dX10_shareOf_20 rfl (lv_at hl 2 rfl) ?_
    refine lv_aload_n hx hb dX10_shareOf_21 rfl (lv_at hl 0 rfl) ?_
    refine lv_iload_n hx hb dX10_shareOf_22 rfl (lv_at hl 1 rfl) ?_
    refine lv_iload_n hx hb dX10_shareOf_23 rfl (lv_at hl 3 rfl) ?_
    refine lv_iload hx hb dX10_shareOf_24 (lv_at hl 4 rfl) ?_
    refine lv_aload_n hx hb dX10_shareOf_26 rfl (lv_at hl 0 rfl) ?_
    refine r_gr E hw 22 1 76 (N := 29) (C := RX10) (T := TX10) (by decide) rfl rfl (by decide) rfl iw_10 rfl lf_RX10_13 dX10_shareOf_27 ?_
    refine lv_iconst (v := (5 : Int32)) hx hb dX10_shareOf_30 (by decide) ?_
    obtain ⟨b1, h⟩ := rd_some h
    refine r_ia E hw 76 1988 (by decide) (by decide) (by decide) rfl rfl b1 dX10_shareOf_31 ?_
    obtain ⟨y3, V4, h2, h⟩ := ob_I_some h
    refine c_VI E hw (kX10_doesSee (l := l) (G := G) hB  h2) yy_X10_doesSee lm_RX10_301 rfl (by decide) rfl rfl hl.1 (by decide) (by decide) rfl (Nat.le_of_ble_eq_true rfl) dX10_shareOf_32 (fun H locs hw => ?_)
    refine lv_if_eq (tgt := 42) hx hb dX10_shareOf_35 (by decide) (fun c9 => ?_) (fun c9 => ?_)
    · rw [if_pos c9] at h
      refine lv_iconst (v := (0 : Int32)) hx hb dX10_shareOf_42 (by decide) ?_
      refine lv_iadd hx hb dX10_shareOf_43 ?_
      obtain ⟨y5, ey5, h⟩ := lt_some h
      refine lv_eqi ey5 ?_
      refine lv_istore_n (lv' := [(2, .int y5), (0, .ref (G.2.2 22)), (1, .int u1), (3, .int u3), (4, .int u4)]) hx hb dX10_shareOf_44 rfl hl (by decide) rfl (fun ls hl => ?_)
      obtain ⟨y6, ey6, h⟩ := lt_some h
      refine lv_iinc (v := y6) (lv' := [(4, .int y6), (2, .int y5), (0, .ref (G.2.2 22)), (1, .int u1), (3, .int u3)]) hx hb dX10_shareOf_45 hl (k := 4) rfl (by rw [ey6]; rfl) (by decide) rfl (fun ls hl => ?_)
      refine lv_goto (tgt := 13) hx hb dX10_shareOf_48 (by decide) ?_
      exact kc (V4, u1, y5, u3, y6) (Option.some.inj h).symm H locs ls hw (lv_sub hl [2, 3, 1, 4, 0] rfl)
    · rw [if_neg c9] at h
      refine lv_iconst (v := (1 : Int32)) hx hb dX10_shareOf_38 (by decide) ?_
      refine lv_goto (tgt := 43) hx hb dX10_shareOf_39 (by decide) ?_
      refine lv_iadd hx hb dX10_shareOf_43 ?_
      obtain ⟨y7, ey7, h⟩ := lt_some h
      refine lv_eqi ey7 ?_
      refine lv_istore_n (lv' := [(2, .int y7), (0, .ref (G.2.2 22)), (1, .int u1), (3, .int u3), (4, .int u4)]) hx hb dX10_shareOf_44 rfl hl (by decide) rfl (fun ls hl => ?_)
      obtain ⟨y8, ey8, h⟩ := lt_some h
      refine lv_iinc (v := y8) (lv' := [(4, .int y8), (2, .int y7), (0, .ref (G.2.2 22)), (1, .int u1), (3, .int u3)]) hx hb dX10_shareOf_45 hl (k := 4) rfl (by rw [ey8]; rfl) (by decide) rfl (fun ls hl => ?_)
      refine lv_goto (tgt := 13) hx hb dX10_shareOf_48 (by decide) ?_
      exact kc (V4, u1, y7, u3, y8) (Option.some.inj h).symm H locs ls hw (lv_sub hl [2, 3, 1, 4, 0] rfl)
set_option maxHeartbeats 4000000 in
set_option maxRecDepth 100000 in
theorem wX10_shareOf_L4 {p : Program} {l : Launch} {e : Env} {s : State} {m : MethodId} {args : Array Value} {below : List Frame} {meth : Method} {c : Code} {G : GT} {B : BGt} {Q : State → Prop} (E : En p s m args c meth cX10_shareOf 5 RX10 (some .int) G B) {x : (Int32 × VT)} (kr : ∀ q : (Int32 × VT), x = q → Q = MQ below (QI G s.heap.size q.1 q.2) args s 0 0 (gA G s.heap.size)) : ∀ (n : Nat) (q : (VT × Int32 × Int32 × Int32)), it_ (iX10_shareOf_L4) n q = some x → ∀ (H : Heap) (locs : List Loc) (ls : Array Slot), HW G s.heap (q.1) H locs → lv_has ls 5 [(0, .ref (G.2.2 22)), (1, .int (q.2.1)), (2, .int (q.2.2.1)), (3, .int (q.2.2.2))] → W p l e (rmD 11) s m args below meth c H locs 0 0 Q (F0 m 4 ls []) := by
  have hx := en_x E
  have hb := en_b E
  have hB := en_B E
  refine it_W (fun q : (VT × Int32 × Int32 × Int32) => ∀ (H : Heap) (locs : List Loc) (ls : Array Slot), HW G s.heap (q.1) H locs → lv_has ls 5 [(0, .ref (G.2.2 22)), (1, .int (q.2.1)), (2, .int (q.2.2.1)), (3, .int (q.2.2.2))] → W p l e (rmD 11) s m args below meth c H locs 0 0 Q (F0 m 4 ls [])) x ?_
  intro q r h kc kx
  obtain ⟨V, u1, u2, u3⟩ := q
  intro H locs ls hw hl
  have h : fX10_shareOf_L4 V u1 u2 u3 = some r := h
  have hw : HW G s.heap V H locs := hw
  have hl : lv_has ls 5 [(0, .ref (G.2.2 22)), (1, .int u1), (2, .int u2), (3, .int u3)] := hl
  have kr : ∀ q : (Int32 × VT), r = .inr (q) → Q = MQ below (QI G s.heap.size q.1 q.2) args s 0 0 (gA G s.heap.size) := fun q e => kr q (kx _ e).symm
  unfold fX10_shareOf_L4 at h
  refine lv_iload_n hx hb dX10_shareOf_4 rfl (lv_at hl 3 rfl) ?_
  refine lv_bipush (v := (24 : Int32)) hx hb dX10_shareOf_5 (by decide) ?_
  refine lv_icmp_ge (tgt := 57) hx hb dX10_shareOf_7 (by decide) (fun c18 => ?_) (fun c18 => ?_)
  · rw [if_pos c18] at h
    refine lv_bipush (v := (100 : Int32)) hx hb dX10_shareOf_57 (by decide) ?_
    refine lv_iload_n hx hb dX10_shareOf_59 rfl (lv_at hl 2 rfl) ?_
    refine lv_imul hx hb dX10_shareOf_60 ?_
    refine lv_sipush (v := (576 : Int32)) hx hb dX10_shareOf_61 (by decide) ?_
    refine lv_idiv hx hb dX10_shareOf_64 (by decide) ?_
    rw [kr ((((100 : Int32) * u2) / (576 : Int32)), V) (Option.some.inj h).symm]
    exact r_ri E hw dX10_shareOf_65
  · rw [if_neg c18] at h
    refine lv_iconst (v := (0 : Int32)) hx hb dX10_shareOf_10 (by decide) ?_
    refine lv_istore (lv' := [(4, .int (0 : Int32)), (0, .ref (G.2.2 22)), (1, .int u1), (2, .int u2), (3, .int u3)]) hx hb dX10_shareOf_11 hl (by decide) rfl (fun ls hl => ?_)
    obtain ⟨x12, h11, h⟩ := ob_R_some h
    obtain ⟨V16, y13, y14, y15⟩ := x12
    refine wX10_shareOf_L13 E (fun q e H locs ls hw hl => ?_) FV (V, u1, u2, u3, (0 : Int32)) h11 H locs ls hw (lv_sub hl [1, 2, 3, 4, 0] rfl)
    subst e
    have hw : HW G s.heap V16 H locs := hw
    have hl : lv_has ls 5 [(0, .ref (G.2.2 22)), (1, .int y13), (2, .int y14), (3, .int y15)] := hl
    have h := dt4_eq h
    obtain ⟨y17, ey17, h⟩ := lt_some h
    refine lv_iinc (v := y17) (lv' := [(3, .int y17), (0, .ref (G.2.2 22)), (1, .int y13), (2, .int y14)]) hx hb dX10_shareOf_51 hl (k := 3) rfl (by rw [ey17]; rfl) (by decide) rfl (fun ls hl => ?_)
    refine lv_goto (tgt := 4) hx hb dX10_shareOf_54 (by decide) ?_
    exact kc (V16, y13, y14, y17) (Option.some.inj h).symm H locs ls hw (lv_sub hl [1, 2, 3, 0] rfl)
set_option maxHeartbeats 4000000 in
set_option maxRecDepth 100000 in
theorem kX10_shareOf {l : Launch} {G : GT} {B : BGt} (hB : BGok B) {V : VT} {x1 : Int32} {r : (Int32 × VT)} (h : fX10_shareOf V x1 = some r) : CI l G B yX10_shareOf (.code yX10_shareOf cX10_shareOf 5 (some .int)) 11 [.ref (G.2.2 22), .int x1] V r.1 r.2 := by
  intro sz
  refine met_of (Qs := fun sz => QI G sz (r.1) (r.2)) hB (by decide) (Nat.le_of_ble_eq_true rfl) ?_ sz
  intro p e s m args below meth c ls E hw hl
  have hx := en_x E
  have hb := en_b E
  generalize hQ : MQ _ _ _ _ _ _ _ = Q
  have kr : Q = MQ below (QI G s.heap.size r.1 r.2) args s 0 0 (gA G s.heap.size) := hQ.symm
  have hl : lv_has ls 5 [(0, .ref (G.2.2 22)), (1, .int x1)] := hl
  obtain ⟨H, eH⟩ : ∃ H, H = s.heap := ⟨_, rfl⟩
  obtain ⟨locs, elocs⟩ : ∃ z : List Loc, z = [] := ⟨_, rfl⟩
  have hw : HW G s.heap V H locs := by rw [eH, elocs]; exact hw
  show W p l e _ s m args below meth c s.heap [] 0 0 Q (F0 m 0 ls [])
  rw [← eH, ← elocs]
  unfold fX10_shareOf at h
  refine lv_iconst (v := (0 : Int32)) hx hb dX10_shareOf_0 (by decide) ?_
  refine lv_istore_n (lv' := [(2, .int (0 : Int32)), (0, .ref (G.2.2 22)), (1, .int x1)]) hx hb dX10_shareOf_1 rfl hl (by decide) rfl (fun ls hl => ?_)
  refine lv_iconst (v := (0 : Int32)) hx hb dX10_shareOf_2 (by decide) ?_
  refine lv_istore_n (lv' := [(3, .int (0 : Int32)), (2, .int (0 : Int32)), (0, .ref (G.2.2 22)), (1, .int x1)]) hx hb dX10_shareOf_3 rfl hl (by decide) rfl (fun ls hl => ?_)
  obtain ⟨x20, h19, h⟩ := ob_R_some h
  have h := Option.some.inj h
  subst h
  exact wX10_shareOf_L4 E (fun q e => by subst e; exact kr) FV (V, x1, (0 : Int32), (0 : Int32)) h19 H locs ls hw (lv_sub hl [2, 3, 1, 0] rfl)
/-! ===== AllSawItModel.house(II)I ===== -/
theorem dX10_house_0 : decode cX10_house 0 = .ok (.aload_n 0, 1) := by decide +kernel
theorem dX10_house_1 : decode cX10_house 1 = .ok (.iconst 0, 1) := by decide +kernel
theorem dX10_house_2 : decode cX10_house 2 = .ok (.putfield 3, 3) := by decide +kernel
theorem dX10_house_5 : decode cX10_house 5 = .ok (.aload_n 0, 1) := by decide +kernel
theorem dX10_house_6 : decode cX10_house 6 = .ok (.aload_n 0, 1) := by decide +kernel
theorem dX10_house_7 : decode cX10_house 7 = .ok (.iload_n 1, 1) := by decide +kernel
theorem dX10_house_8 : decode cX10_house 8 = .ok (.invokevirtual 309, 3) := by decide +kernel
theorem dX10_house_11 : decode cX10_house 11 = .ok (.iconst 1, 1) := by decide +kernel
theorem dX10_house_12 : decode cX10_house 12 = .ok (.invokevirtual 233, 3) := by decide +kernel
theorem dX10_house_15 : decode cX10_house 15 = .ok (.ifCond .ne 26, 3) := by decide +kernel
theorem dX10_house_18 : decode cX10_house 18 = .ok (.aload_n 0, 1) := by decide +kernel
theorem dX10_house_19 : decode cX10_house 19 = .ok (.iload_n 2, 1) := by decide +kernel
theorem dX10_house_20 : decode cX10_house 20 = .ok (.iconst 0, 1) := by decide +kernel
theorem dX10_house_21 : decode cX10_house 21 = .ok (.bipush 10, 2) := by decide +kernel
theorem dX10_house_23 : decode cX10_house 23 = .ok (.invokestatic 76, 3) := by decide +kernel
theorem dX10_house_26 : decode cX10_house 26 = .ok (.ifCond .ne 7, 3) := by decide +kernel
theorem dX10_house_29 : decode cX10_house 29 = .ok (.iconst 1, 1) := by decide +kernel
theorem dX10_house_30 : decode cX10_house 30 = .ok (.goto 4, 3) := by decide +kernel
theorem dX10_house_33 : decode cX10_house 33 = .ok (.iconst 0, 1) := by decide +kernel
theorem dX10_house_34 : decode cX10_house 34 = .ok (.iconst 2, 1) := by decide +kernel
theorem dX10_house_35 : decode cX10_house 35 = .ok (.invokevirtual 233, 3) := by decide +kernel
theorem dX10_house_38 : decode cX10_house 38 = .ok (.ifCond .eq 5, 3) := by decide +kernel
theorem dX10_house_41 : decode cX10_house 41 = .ok (.iconst 0, 1) := by decide +kernel
theorem dX10_house_42 : decode cX10_house 42 = .ok (.ireturn, 1) := by decide +kernel
theorem dX10_house_43 : decode cX10_house 43 = .ok (.iload_n 2, 1) := by decide +kernel
theorem dX10_house_44 : decode cX10_house 44 = .ok (.tableswitch 100 1 10 #[56, 69, 100, 100, 100, 100, 100, 82, 88, 94], 56) := by decide +kernel
theorem dX10_house_100 : decode cX10_house 100 = .ok (.aload_n 0, 1) := by decide +kernel
theorem dX10_house_101 : decode cX10_house 101 = .ok (.iload_n 1, 1) := by decide +kernel
theorem dX10_house_102 : decode cX10_house 102 = .ok (.aload_n 0, 1) := by decide +kernel
theorem dX10_house_103 : decode cX10_house 103 = .ok (.iload_n 1, 1) := by decide +kernel
theorem dX10_house_104 : decode cX10_house 104 = .ok (.bipush 6, 2) := by decide +kernel
theorem dX10_house_106 : decode cX10_house 106 = .ok (.invokevirtual 236, 3) := by decide +kernel
theorem dX10_house_109 : decode cX10_house 109 = .ok (.invokevirtual 256, 3) := by decide +kernel
theorem dX10_house_112 : decode cX10_house 112 = .ok (.ireturn, 1) := by decide +kernel
theorem dX10_house_113 : decode cX10_house 113 = .ok (.aload_n 0, 1) := by decide +kernel
theorem dX10_house_114 : decode cX10_house 114 = .ok (.iload_n 1, 1) := by decide +kernel
theorem dX10_house_115 : decode cX10_house 115 = .ok (.aload_n 0, 1) := by decide +kernel
theorem dX10_house_116 : decode cX10_house 116 = .ok (.iload_n 1, 1) := by decide +kernel
theorem dX10_house_117 : decode cX10_house 117 = .ok (.bipush 6, 2) := by decide +kernel
theorem dX10_house_119 : decode cX10_house 119 = .ok (.invokevirtual 236, 3) := by decide +kernel
theorem dX10_house_122 : decode cX10_house 122 = .ok (.invokevirtual 259, 3) := by decide +kernel
theorem dX10_house_125 : decode cX10_house 125 = .ok (.ireturn, 1) := by decide +kernel
theorem dX10_house_126 : decode cX10_house 126 = .ok (.aload_n 0, 1) := by decide +kernel
theorem dX10_house_127 : decode cX10_house 127 = .ok (.iload_n 1, 1) := by decide +kernel
theorem dX10_house_128 : decode cX10_house 128 = .ok (.invokevirtual 358, 3) := by decide +kernel
theorem dX10_house_131 : decode cX10_house 131 = .ok (.ireturn, 1) := by decide +kernel
theorem dX10_house_132 : decode cX10_house 132 = .ok (.aload_n 0, 1) := by decide +kernel
theorem dX10_house_133 : decode cX10_house 133 = .ok (.iload_n 1, 1) := by decide +kernel
theorem dX10_house_134 : decode cX10_house 134 = .ok (.invokevirtual 361, 3) := by decide +kernel
theorem dX10_house_137 : decode cX10_house 137 = .ok (.ireturn, 1) := by decide +kernel
theorem dX10_house_138 : decode cX10_house 138 = .ok (.aload_n 0, 1) := by decide +kernel
theorem dX10_house_139 : decode cX10_house 139 = .ok (.iload_n 1, 1) := by decide +kernel
theorem dX10_house_140 : decode cX10_house 140 = .ok (.invokevirtual 364, 3) := by decide +kernel
theorem dX10_house_143 : decode cX10_house 143 = .ok (.ireturn, 1) := by decide +kernel
theorem dX10_house_144 : decode cX10_house 144 = .ok (.aload_n 0, 1) := by decide +kernel
theorem dX10_house_145 : decode cX10_house 145 = .ok (.iload_n 1, 1) := by decide +kernel
theorem dX10_house_146 : decode cX10_house 146 = .ok (.iload_n 2, 1) := by decide +kernel
theorem dX10_house_147 : decode cX10_house 147 = .ok (.invokevirtual 236, 3) := by decide +kernel
theorem dX10_house_150 : decode cX10_house 150 = .ok (.ireturn, 1) := by decide +kernel
noncomputable def fX10_house_j34 (V : VT) (u1 : Int32) (u2 : Int32) (t0 : Int32) : Option (Int32 × VT) := ob_I (fX10_throwsIf V t0 (2 : Int32)) fun y10 V11 => if y10 = 0 then (if u2 = (1 : Int32) then (ob_R (fX10_of V11 u1 (6 : Int32)) fun y13 => ob_R (fX10_lowOf V11 u1 y13) fun y15 => some (y15, V11)) else if u2 = (2 : Int32) then (ob_R (fX10_of V11 u1 (6 : Int32)) fun y18 => ob_R (fX10_highOf V11 u1 y18) fun y20 => some (y20, V11)) else if u2 = (8 : Int32) then (ob_R (fX10_owesOf V11 u1) fun y23 => some (y23, V11)) else if u2 = (9 : Int32) then (ob_R (fX10_lacksOf V11 u1) fun y26 => some (y26, V11)) else if u2 = (10 : Int32) then (ob_I (fX10_shareOf V11 u1) fun y29 V30 => some (y29, V30)) else (ob_R (fX10_of V11 u1 u2) fun y33 => some (y33, V11))) else (some ((0 : Int32), V11))
noncomputable def fX10_house (V : VT) (x1 : Int32) (x2 : Int32) : Option (Int32 × VT) := lt_ (va_up V 22 (upd (V 22) 0 (0 : Int32))) fun V1 => ob_R (fX10_noHouse V1 x1) fun y3 => ob_I (fX10_throwsIf V1 y3 (1 : Int32)) fun y5 V6 => if y5 = 0 then (ob_R (fX10_in V6 x2 (0 : Int32) (10 : Int32)) fun y8 => if y8 = 0 then (fX10_house_j34 V6 x1 x2 (1 : Int32)) else (fX10_house_j34 V6 x1 x2 (0 : Int32))) else (some ((0 : Int32), V6))
set_option maxHeartbeats 4000000 in
set_option maxRecDepth 100000 in
theorem wX10_house_j34 {p : Program} {l : Launch} {e : Env} {s : State} {m : MethodId} {args : Array Value} {below : List Frame} {meth : Method} {c : Code} {G : GT} {B : BGt} {Q : State → Prop} (E : En p s m args c meth cX10_house 3 RX10 (some .int) G B) {V : VT} {u1 : Int32} {u2 : Int32} {t0 : Int32} {r : (Int32 × VT)} (h : fX10_house_j34 V u1 u2 t0 = some r) (kr : Q = MQ below (QI G s.heap.size r.1 r.2) args s 0 0 (gA G s.heap.size)) {H : Heap} {locs : List Loc} {ls : Array Slot} (hw : HW G s.heap V H locs) (hl : lv_has ls 3 [(0, .ref (G.2.2 22)), (1, .int u1), (2, .int u2)]) : W p l e (rmD 12) s m args below meth c H locs 0 0 Q (F0 m 34 ls [.int t0, .ref (G.2.2 22)]) := by
  have hx := en_x E
  have hb := en_b E
  have hB := en_B E
  unfold fX10_house_j34 at h
  refine lv_iconst (v := (2 : Int32)) hx hb dX10_house_34 (by decide) ?_
  obtain ⟨y10, V11, h9, h⟩ := ob_I_some h
  refine c_VI E hw (kX10_throwsIf (l := l) (G := G) hB  h9) yy_X10_throwsIf lm_RX10_233 rfl (by decide) rfl rfl hl.1 (by decide) (by decide) rfl (Nat.le_of_ble_eq_true rfl) dX10_house_35 (fun H locs hw => ?_)
  refine lv_if_eq (tgt := 43) hx hb dX10_house_38 (by decide) (fun c39 => ?_) (fun c39 => ?_)
  · rw [if_pos c39] at h
    refine lv_iload_n hx hb dX10_house_43 rfl (lv_at hl 2 rfl) ?_
    by_cases c16 : u2 = (1 : Int32)
    · rw [if_pos c16] at h
      refine lv_tableIn (tgt := 100) hx hb dX10_house_44 (by rw [c16]; decide) (by rw [c16]; decide) (by rw [c16]; rfl) (by decide) ?_
      refine lv_aload_n hx hb dX10_house_100 rfl (lv_at hl 0 rfl) ?_
      refine lv_iload_n hx hb dX10_house_101 rfl (lv_at hl 1 rfl) ?_
      refine lv_aload_n hx hb dX10_house_102 rfl (lv_at hl 0 rfl) ?_
      refine lv_iload_n hx hb dX10_house_103 rfl (lv_at hl 1 rfl) ?_
      refine lv_bipush (v := (6 : Int32)) hx hb dX10_house_104 (by decide) ?_
      obtain ⟨y13, h12, h⟩ := ob_R_some h
      refine c_VI E hw (kX10_of (l := l) (G := G) hB  h12) yy_X10_of lm_RX10_236 rfl (by decide) rfl rfl hl.1 (by decide) (by decide) rfl (Nat.le_of_ble_eq_true rfl) dX10_house_106 (fun H locs hw => ?_)
      obtain ⟨y15, h14, h⟩ := ob_R_some h
      refine c_VI E hw (kX10_lowOf (l := l) (G := G) hB  h14) yy_X10_lowOf lm_RX10_256 rfl (by decide) rfl rfl hl.1 (by decide) (by decide) rfl (Nat.le_of_ble_eq_true rfl) dX10_house_109 (fun H locs hw => ?_)
      have h := Option.some.inj h
      subst h
      rw [kr]
      exact r_ri E hw dX10_house_112
    · rw [if_neg c16] at h
      by_cases c21 : u2 = (2 : Int32)
      · rw [if_pos c21] at h
        refine lv_tableIn (tgt := 113) hx hb dX10_house_44 (by rw [c21]; decide) (by rw [c21]; decide) (by rw [c21]; rfl) (by decide) ?_
        refine lv_aload_n hx hb dX10_house_113 rfl (lv_at hl 0 rfl) ?_
        refine lv_iload_n hx hb dX10_house_114 rfl (lv_at hl 1 rfl) ?_
        refine lv_aload_n hx hb dX10_house_115 rfl (lv_at hl 0 rfl) ?_
        refine lv_iload_n hx hb dX10_house_116 rfl (lv_at hl 1 rfl) ?_
        refine lv_bipush (v := (6 : Int32)) hx hb dX10_house_117 (by decide) ?_
        obtain ⟨y18, h17, h⟩ := ob_R_some h
        refine c_VI E hw (kX10_of (l := l) (G := G) hB  h17) yy_X10_of lm_RX10_236 rfl (by decide) rfl rfl hl.1 (by decide) (by decide) rfl (Nat.le_of_ble_eq_true rfl) dX10_house_119 (fun H locs hw => ?_)
        obtain ⟨y20, h19, h⟩ := ob_R_some h
        refine c_VI E hw (kX10_highOf (l := l) (G := G) hB  h19) yy_X10_highOf lm_RX10_259 rfl (by decide) rfl rfl hl.1 (by decide) (by decide) rfl (Nat.le_of_ble_eq_true rfl) dX10_house_122 (fun H locs hw => ?_)
        have h := Option.some.inj h
        subst h
        rw [kr]
        exact r_ri E hw dX10_house_125
      · rw [if_neg c21] at h
        by_cases c24 : u2 = (8 : Int32)
        · rw [if_pos c24] at h
          refine lv_tableIn (tgt := 126) hx hb dX10_house_44 (by rw [c24]; decide) (by rw [c24]; decide) (by rw [c24]; rfl) (by decide) ?_
          refine lv_aload_n hx hb dX10_house_126 rfl (lv_at hl 0 rfl) ?_
          refine lv_iload_n hx hb dX10_house_127 rfl (lv_at hl 1 rfl) ?_
          obtain ⟨y23, h22, h⟩ := ob_R_some h
          refine c_VI E hw (kX10_owesOf (l := l) (G := G) hB  h22) yy_X10_owesOf lm_RX10_358 rfl (by decide) rfl rfl hl.1 (by decide) (by decide) rfl (Nat.le_of_ble_eq_true rfl) dX10_house_128 (fun H locs hw => ?_)
          have h := Option.some.inj h
          subst h
          rw [kr]
          exact r_ri E hw dX10_house_131
        · rw [if_neg c24] at h
          by_cases c27 : u2 = (9 : Int32)
          · rw [if_pos c27] at h
            refine lv_tableIn (tgt := 132) hx hb dX10_house_44 (by rw [c27]; decide) (by rw [c27]; decide) (by rw [c27]; rfl) (by decide) ?_
            refine lv_aload_n hx hb dX10_house_132 rfl (lv_at hl 0 rfl) ?_
            refine lv_iload_n hx hb dX10_house_133 rfl (lv_at hl 1 rfl) ?_
            obtain ⟨y26, h25, h⟩ := ob_R_some h
            refine c_VI E hw (kX10_lacksOf (l := l) (G := G) hB  h25) yy_X10_lacksOf lm_RX10_361 rfl (by decide) rfl rfl hl.1 (by decide) (by decide) rfl (Nat.le_of_ble_eq_true rfl) dX10_house_134 (fun H locs hw => ?_)
            have h := Option.some.inj h
            subst h
            rw [kr]
            exact r_ri E hw dX10_house_137
          · rw [if_neg c27] at h
            by_cases c31 : u2 = (10 : Int32)
            · rw [if_pos c31] at h
              refine lv_tableIn (tgt := 138) hx hb dX10_house_44 (by rw [c31]; decide) (by rw [c31]; decide) (by rw [c31]; rfl) (by decide) ?_
              refine lv_aload_n hx hb dX10_house_138 rfl (lv_at hl 0 rfl) ?_
              refine lv_iload_n hx hb dX10_house_139 rfl (lv_at hl 1 rfl) ?_
              obtain ⟨y29, V30, h28, h⟩ := ob_I_some h
              refine c_VI E hw (kX10_shareOf (l := l) (G := G) hB  h28) yy_X10_shareOf lm_RX10_364 rfl (by decide) rfl rfl hl.1 (by decide) (by decide) rfl (Nat.le_of_ble_eq_true rfl) dX10_house_140 (fun H locs hw => ?_)
              have h := Option.some.inj h
              subst h
              rw [kr]
              exact r_ri E hw dX10_house_143
            · rw [if_neg c31] at h
              by_cases c34 : u2 = (3 : Int32)
              · refine lv_tableIn (tgt := 144) hx hb dX10_house_44 (by rw [c34]; decide) (by rw [c34]; decide) (by rw [c34]; rfl) (by decide) ?_
                refine lv_aload_n hx hb dX10_house_144 rfl (lv_at hl 0 rfl) ?_
                refine lv_iload_n hx hb dX10_house_145 rfl (lv_at hl 1 rfl) ?_
                refine lv_iload_n hx hb dX10_house_146 rfl (lv_at hl 2 rfl) ?_
                obtain ⟨y33, h32, h⟩ := ob_R_some h
                refine c_VI E hw (kX10_of (l := l) (G := G) hB  h32) yy_X10_of lm_RX10_236 rfl (by decide) rfl rfl hl.1 (by decide) (by decide) rfl (Nat.le_of_ble_eq_true rfl) dX10_house_147 (fun H locs hw => ?_)
                have h := Option.some.inj h
                subst h
                rw [kr]
                exact r_ri E hw dX10_house_150
              · skip
                by_cases c35 : u2 = (4 : Int32)
                · refine lv_tableIn (tgt := 144) hx hb dX10_house_44 (by rw [c35]; decide) (by rw [c35]; decide) (by rw [c35]; rfl) (by decide) ?_
                  refine lv_aload_n hx hb dX10_house_144 rfl (lv_at hl 0 rfl) ?_
                  refine lv_iload_n hx hb dX10_house_145 rfl (lv_at hl 1 rfl) ?_
                  refine lv_iload_n hx hb dX10_house_146 rfl (lv_at hl 2 rfl) ?_
                  obtain ⟨y33, h32, h⟩ := ob_R_some h
                  refine c_VI E hw (kX10_of (l := l) (G := G) hB  h32) yy_X10_of lm_RX10_236 rfl (by decide) rfl rfl hl.1 (by decide) (by decide) rfl (Nat.le_of_ble_eq_true rfl) dX10_house_147 (fun H locs hw => ?_)
                  have h := Option.some.inj h
                  subst h
                  rw [kr]
                  exact r_ri E hw dX10_house_150
                · skip
                  by_cases c36 : u2 = (5 : Int32)
                  · refine lv_tableIn (tgt := 144) hx hb dX10_house_44 (by rw [c36]; decide) (by rw [c36]; decide) (by rw [c36]; rfl) (by decide) ?_
                    refine lv_aload_n hx hb dX10_house_144 rfl (lv_at hl 0 rfl) ?_
                    refine lv_iload_n hx hb dX10_house_145 rfl (lv_at hl 1 rfl) ?_
                    refine lv_iload_n hx hb dX10_house_146 rfl (lv_at hl 2 rfl) ?_
                    obtain ⟨y33, h32, h⟩ := ob_R_some h
                    refine c_VI E hw (kX10_of (l := l) (G := G) hB  h32) yy_X10_of lm_RX10_236 rfl (by decide) rfl rfl hl.1 (by decide) (by decide) rfl (Nat.le_of_ble_eq_true rfl) dX10_house_147 (fun H locs hw => ?_)
                    have h := Option.some.inj h
                    subst h
                    rw [kr]
                    exact r_ri E hw dX10_house_150
                  · skip
                    by_cases c37 : u2 = (6 : Int32)
                    · refine lv_tableIn (tgt := 144) hx hb dX10_house_44 (by rw [c37]; decide) (by rw [c37]; decide) (by rw [c37]; rfl) (by decide) ?_
                      refine lv_aload_n hx hb dX10_house_144 rfl (lv_at hl 0 rfl) ?_
                      refine lv_iload_n hx hb dX10_house_145 rfl (lv_at hl 1 rfl) ?_
                      refine lv_iload_n hx hb dX10_house_146 rfl (lv_at hl 2 rfl) ?_
                      obtain ⟨y33, h32, h⟩ := ob_R_some h
                      refine c_VI E hw (kX10_of (l := l) (G := G) hB  h32) yy_X10_of lm_RX10_236 rfl (by decide) rfl rfl hl.1 (by decide) (by decide) rfl (Nat.le_of_ble_eq_true rfl) dX10_house_147 (fun H locs hw => ?_)
                      have h := Option.some.inj h
                      subst h
                      rw [kr]
                      exact r_ri E hw dX10_house_150
                    · skip
                      by_cases c38 : u2 = (7 : Int32)
                      · refine lv_tableIn (tgt := 144) hx hb dX10_house_44 (by rw [c38]; decide) (by rw [c38]; decide) (by rw [c38]; rfl) (by decide) ?_
                        refine lv_aload_n hx hb dX10_house_144 rfl (lv_at hl 0 rfl) ?_
                        refine lv_iload_n hx hb dX10_house_145 rfl (lv_at hl 1 rfl) ?_
                        refine lv_iload_n hx hb dX10_house_146 rfl (lv_at hl 2 rfl) ?_
                        obtain ⟨y33, h32, h⟩ := ob_R_some h
                        refine c_VI E hw (kX10_of (l := l) (G := G) hB  h32) yy_X10_of lm_RX10_236 rfl (by decide) rfl rfl hl.1 (by decide) (by decide) rfl (Nat.le_of_ble_eq_true rfl) dX10_house_147 (fun H locs hw => ?_)
                        have h := Option.some.inj h
                        subst h
                        rw [kr]
                        exact r_ri E hw dX10_house_150
                      · skip
                        have nc16 := lv_neT (a := 1) c16 (by decide)
                        have nc21 := lv_neT (a := 2) c21 (by decide)
                        have nc24 := lv_neT (a := 8) c24 (by decide)
                        have nc27 := lv_neT (a := 9) c27 (by decide)
                        have nc31 := lv_neT (a := 10) c31 (by decide)
                        have nc34 := lv_neT (a := 3) c34 (by decide)
                        have nc35 := lv_neT (a := 4) c35 (by decide)
                        have nc36 := lv_neT (a := 5) c36 (by decide)
                        have nc37 := lv_neT (a := 6) c37 (by decide)
                        have nc38 := lv_neT (a := 7) c38 (by decide)
                        refine lv_tableOut (tgt := 144) hx hb dX10_house_44 (by omega) (by decide) ?_
                        refine lv_aload_n hx hb dX10_house_144 rfl (lv_at hl 0 rfl) ?_
                        refine lv_iload_n hx hb dX10_house_145 rfl (lv_at hl 1 rfl) ?_
                        refine lv_iload_n hx hb dX10_house_146 rfl (lv_at hl 2 rfl) ?_
                        obtain ⟨y33, h32, h⟩ := ob_R_some h
                        refine c_VI E hw (kX10_of (l := l) (G := G) hB  h32) yy_X10_of lm_RX10_236 rfl (by decide) rfl rfl hl.1 (by decide) (by decide) rfl (Nat.le_of_ble_eq_true rfl) dX10_house_147 (fun H locs hw => ?_)
                        have h := Option.some.inj h
                        subst h
                        rw [kr]
                        exact r_ri E hw dX10_house_150
  · rw [if_neg c39] at h
    refine lv_iconst (v := (0 : Int32)) hx hb dX10_house_41 (by decide) ?_
    have h := Option.some.inj h
    subst h
    rw [kr]
    exact r_ri E hw dX10_house_42
set_option maxHeartbeats 4000000 in
set_option maxRecDepth 100000 in
theorem kX10_house {l : Launch} {G : GT} {B : BGt} (hB : BGok B) {V : VT} {x1 : Int32} {x2 : Int32} {r : (Int32 × VT)} (h : fX10_house V x1 x2 = some r) : CI l G B yX10_house (.code yX10_house cX10_house 3 (some .int)) 12 [.ref (G.2.2 22), .int x1, .int x2] V r.1 r.2 := by
  intro sz
  refine met_of (Qs := fun sz => QI G sz (r.1) (r.2)) hB (by decide) (Nat.le_of_ble_eq_true rfl) ?_ sz
  intro p e s m args below meth c ls E hw hl
  have hx := en_x E
  have hb := en_b E
  generalize hQ : MQ _ _ _ _ _ _ _ = Q
  have kr : Q = MQ below (QI G s.heap.size r.1 r.2) args s 0 0 (gA G s.heap.size) := hQ.symm
  have hl : lv_has ls 3 [(0, .ref (G.2.2 22)), (1, .int x1), (2, .int x2)] := hl
  obtain ⟨H, eH⟩ : ∃ H, H = s.heap := ⟨_, rfl⟩
  obtain ⟨locs, elocs⟩ : ∃ z : List Loc, z = [] := ⟨_, rfl⟩
  have hw : HW G s.heap V H locs := by rw [eH, elocs]; exact hw
  show W p l e _ s m args below meth c s.heap [] 0 0 Q (F0 m 0 ls [])
  rw [← eH, ← elocs]
  unfold fX10_house at h
  refine lv_aload_n hx hb dX10_house_0 rfl (lv_at hl 0 rfl) ?_
  refine lv_iconst (v := (0 : Int32)) hx hb dX10_house_1 (by decide) ?_
  obtain ⟨V1, eV1, h⟩ := lt_some h
  refine r_pi E hw 22 0 (N := 29) (C := RX10) (T := TX10) (ty0 := tyX10) (ty := .int) (by decide) rfl rfl (by decide) rfl iw_10 rfl tyX10_ok nmX10 rfl rfl (vp_nar_int _) rfl lf_RX10_3 eV1 dX10_house_2 (fun H locs hw => ?_)
  refine lv_aload_n hx hb dX10_house_5 rfl (lv_at hl 0 rfl) ?_
  refine lv_aload_n hx hb dX10_house_6 rfl (lv_at hl 0 rfl) ?_
  refine lv_iload_n hx hb dX10_house_7 rfl (lv_at hl 1 rfl) ?_
  obtain ⟨y3, h2, h⟩ := ob_R_some h
  refine c_VI E hw (kX10_noHouse (l := l) (G := G) hB  h2) yy_X10_noHouse lm_RX10_309 rfl (by decide) rfl rfl hl.1 (by decide) (by decide) rfl (Nat.le_of_ble_eq_true rfl) dX10_house_8 (fun H locs hw => ?_)
  refine lv_iconst (v := (1 : Int32)) hx hb dX10_house_11 (by decide) ?_
  obtain ⟨y5, V6, h4, h⟩ := ob_I_some h
  refine c_VI E hw (kX10_throwsIf (l := l) (G := G) hB  h4) yy_X10_throwsIf lm_RX10_233 rfl (by decide) rfl rfl hl.1 (by decide) (by decide) rfl (Nat.le_of_ble_eq_true rfl) dX10_house_12 (fun H locs hw => ?_)
  refine lv_if_ne (tgt := 41) hx hb dX10_house_15 (by decide) (fun c41 => ?_) (fun c41 => ?_)
  · rw [if_neg c41] at h
    refine lv_iconst (v := (0 : Int32)) hx hb dX10_house_41 (by decide) ?_
    have h := Option.some.inj h
    subst h
    rw [kr]
    exact r_ri E hw dX10_house_42
  · rw [if_pos c41] at h
    refine lv_aload_n hx hb dX10_house_18 rfl (lv_at hl 0 rfl) ?_
    refine lv_iload_n hx hb dX10_house_19 rfl (lv_at hl 2 rfl) ?_
    refine lv_iconst (v := (0 : Int32)) hx hb dX10_house_20 (by decide) ?_
    refine lv_bipush (v := (10 : Int32)) hx hb dX10_house_21 (by decide) ?_
    obtain ⟨y8, h7, h⟩ := ob_R_some h
    refine c_SI E hw (kX10_in (l := l) (G := G) hB  h7) yy_X10_in lm_RX10_76 rfl hl.1 (by decide) (by decide) rfl (Nat.le_of_ble_eq_true rfl) dX10_house_23 (fun H locs hw => ?_)
    refine lv_if_ne (tgt := 33) hx hb dX10_house_26 (by decide) (fun c40 => ?_) (fun c40 => ?_)
    · rw [if_neg c40] at h
      refine lv_iconst (v := (0 : Int32)) hx hb dX10_house_33 (by decide) ?_
      exact wX10_house_j34 E h kr hw (lv_sub hl [0, 1, 2] rfl)
    · rw [if_pos c40] at h
      refine lv_iconst (v := (1 : Int32)) hx hb dX10_house_29 (by decide) ?_
      refine lv_goto (tgt := 34) hx hb dX10_house_30 (by decide) ?_
      exact wX10_house_j34 E h kr hw (lv_sub hl [0, 1, 2] rfl)
/-! ===== AllSawItModel.says(II)V ===== -/
theorem dX10_says_0 : decode cX10_says 0 = .ok (.aload_n 0, 1) := by decide +kernel
theorem dX10_says_1 : decode cX10_says 1 = .ok (.getfield 13, 3) := by decide +kernel
theorem dX10_says_4 : decode cX10_says 4 = .ok (.iload_n 2, 1) := by decide +kernel
theorem dX10_says_5 : decode cX10_says 5 = .ok (.iconst 4, 1) := by decide +kernel
theorem dX10_says_6 : decode cX10_says 6 = .ok (.invokestatic 70, 3) := by decide +kernel
theorem dX10_says_9 : decode cX10_says 9 = .ok (.dup2, 1) := by decide +kernel
theorem dX10_says_10 : decode cX10_says 10 = .ok (.iaload, 1) := by decide +kernel
theorem dX10_says_11 : decode cX10_says 11 = .ok (.iconst 1, 1) := by decide +kernel
theorem dX10_says_12 : decode cX10_says 12 = .ok (.iload_n 1, 1) := by decide +kernel
theorem dX10_says_13 : decode cX10_says 13 = .ok (.ishl, 1) := by decide +kernel
theorem dX10_says_14 : decode cX10_says 14 = .ok (.ior, 1) := by decide +kernel
theorem dX10_says_15 : decode cX10_says 15 = .ok (.iastore, 1) := by decide +kernel
theorem dX10_says_16 : decode cX10_says 16 = .ok (.sipush 179, 3) := by decide +kernel
theorem dX10_says_19 : decode cX10_says 19 = .ok (.istore_n 3, 1) := by decide +kernel
theorem dX10_says_20 : decode cX10_says 20 = .ok (.iload_n 3, 1) := by decide +kernel
theorem dX10_says_21 : decode cX10_says 21 = .ok (.iconst 3, 1) := by decide +kernel
theorem dX10_says_22 : decode cX10_says 22 = .ok (.if_icmp .lt 31, 3) := by decide +kernel
theorem dX10_says_25 : decode cX10_says 25 = .ok (.aload_n 0, 1) := by decide +kernel
theorem dX10_says_26 : decode cX10_says 26 = .ok (.getfield 13, 3) := by decide +kernel
theorem dX10_says_29 : decode cX10_says 29 = .ok (.sipush 134, 3) := by decide +kernel
theorem dX10_says_32 : decode cX10_says 32 = .ok (.iload_n 3, 1) := by decide +kernel
theorem dX10_says_33 : decode cX10_says 33 = .ok (.iadd, 1) := by decide +kernel
theorem dX10_says_34 : decode cX10_says 34 = .ok (.aload_n 0, 1) := by decide +kernel
theorem dX10_says_35 : decode cX10_says 35 = .ok (.getfield 13, 3) := by decide +kernel
theorem dX10_says_38 : decode cX10_says 38 = .ok (.sipush 134, 3) := by decide +kernel
theorem dX10_says_41 : decode cX10_says 41 = .ok (.iload_n 3, 1) := by decide +kernel
theorem dX10_says_42 : decode cX10_says 42 = .ok (.iadd, 1) := by decide +kernel
theorem dX10_says_43 : decode cX10_says 43 = .ok (.iconst 3, 1) := by decide +kernel
theorem dX10_says_44 : decode cX10_says 44 = .ok (.isub, 1) := by decide +kernel
theorem dX10_says_45 : decode cX10_says 45 = .ok (.iaload, 1) := by decide +kernel
theorem dX10_says_46 : decode cX10_says 46 = .ok (.iastore, 1) := by decide +kernel
theorem dX10_says_47 : decode cX10_says 47 = .ok (.iinc 3 (-1), 3) := by decide +kernel
theorem dX10_says_50 : decode cX10_says 50 = .ok (.goto (-30), 3) := by decide +kernel
theorem dX10_says_53 : decode cX10_says 53 = .ok (.aload_n 0, 1) := by decide +kernel
theorem dX10_says_54 : decode cX10_says 54 = .ok (.getfield 13, 3) := by decide +kernel
theorem dX10_says_57 : decode cX10_says 57 = .ok (.sipush 134, 3) := by decide +kernel
theorem dX10_says_60 : decode cX10_says 60 = .ok (.aload_n 0, 1) := by decide +kernel
theorem dX10_says_61 : decode cX10_says 61 = .ok (.getfield 13, 3) := by decide +kernel
theorem dX10_says_64 : decode cX10_says 64 = .ok (.iconst 4, 1) := by decide +kernel
theorem dX10_says_65 : decode cX10_says 65 = .ok (.iaload, 1) := by decide +kernel
theorem dX10_says_66 : decode cX10_says 66 = .ok (.iastore, 1) := by decide +kernel
theorem dX10_says_67 : decode cX10_says 67 = .ok (.aload_n 0, 1) := by decide +kernel
theorem dX10_says_68 : decode cX10_says 68 = .ok (.getfield 13, 3) := by decide +kernel
theorem dX10_says_71 : decode cX10_says 71 = .ok (.sipush 135, 3) := by decide +kernel
theorem dX10_says_74 : decode cX10_says 74 = .ok (.iload_n 1, 1) := by decide +kernel
theorem dX10_says_75 : decode cX10_says 75 = .ok (.iastore, 1) := by decide +kernel
theorem dX10_says_76 : decode cX10_says 76 = .ok (.aload_n 0, 1) := by decide +kernel
theorem dX10_says_77 : decode cX10_says 77 = .ok (.getfield 13, 3) := by decide +kernel
theorem dX10_says_80 : decode cX10_says 80 = .ok (.sipush 136, 3) := by decide +kernel
theorem dX10_says_83 : decode cX10_says 83 = .ok (.iload_n 2, 1) := by decide +kernel
theorem dX10_says_84 : decode cX10_says 84 = .ok (.iastore, 1) := by decide +kernel
theorem dX10_says_85 : decode cX10_says 85 = .ok (.aload_n 0, 1) := by decide +kernel
theorem dX10_says_86 : decode cX10_says 86 = .ok (.getfield 13, 3) := by decide +kernel
theorem dX10_says_89 : decode cX10_says 89 = .ok (.bipush 8, 2) := by decide +kernel
theorem dX10_says_91 : decode cX10_says 91 = .ok (.bipush 60, 2) := by decide +kernel
theorem dX10_says_93 : decode cX10_says 93 = .ok (.aload_n 0, 1) := by decide +kernel
theorem dX10_says_94 : decode cX10_says 94 = .ok (.getfield 13, 3) := by decide +kernel
theorem dX10_says_97 : decode cX10_says 97 = .ok (.bipush 8, 2) := by decide +kernel
theorem dX10_says_99 : decode cX10_says 99 = .ok (.iaload, 1) := by decide +kernel
theorem dX10_says_100 : decode cX10_says 100 = .ok (.iconst 1, 1) := by decide +kernel
theorem dX10_says_101 : decode cX10_says 101 = .ok (.iadd, 1) := by decide +kernel
theorem dX10_says_102 : decode cX10_says 102 = .ok (.invokestatic 244, 3) := by decide +kernel
theorem dX10_says_105 : decode cX10_says 105 = .ok (.iastore, 1) := by decide +kernel
theorem dX10_says_106 : decode cX10_says 106 = .ok (.aload_n 0, 1) := by decide +kernel
theorem dX10_says_107 : decode cX10_says 107 = .ok (.getfield 13, 3) := by decide +kernel
theorem dX10_says_110 : decode cX10_says 110 = .ok (.bipush 7, 2) := by decide +kernel
theorem dX10_says_112 : decode cX10_says 112 = .ok (.dup2, 1) := by decide +kernel
theorem dX10_says_113 : decode cX10_says 113 = .ok (.iaload, 1) := by decide +kernel
theorem dX10_says_114 : decode cX10_says 114 = .ok (.iconst 1, 1) := by decide +kernel
theorem dX10_says_115 : decode cX10_says 115 = .ok (.iadd, 1) := by decide +kernel
theorem dX10_says_116 : decode cX10_says 116 = .ok (.iastore, 1) := by decide +kernel
theorem dX10_says_117 : decode cX10_says 117 = .ok (.return_, 1) := by decide +kernel
noncomputable def fX10_says_L20 (V : VT) (u1 : Int32) (u2 : Int32) (u3 : Int32) : Option ((VT × Int32 × Int32 × Int32) ⊕ (VT × Int32 × Int32)) := if u3 < (3 : Int32) then (some (.inr ((V, u1, u2)))) else (rd_ (((134 : Int32) + u3) - (3 : Int32)) 1988 (rd_ ((134 : Int32) + u3) 1988 (lt_ (va_up V 76 (upd (V 76) ((134 : Int32) + u3).toNatClampNeg (V 76 (((134 : Int32) + u3) - (3 : Int32)).toNatClampNeg))) fun V8 => lt_ (u3 + (-1 : Int32)) fun y9 => some (.inl (V8, u1, u2, y9)))))
noncomputable def iX10_says_L20 : (VT × Int32 × Int32 × Int32) → Option ((VT × Int32 × Int32 × Int32) ⊕ (VT × Int32 × Int32)) := fun q => fX10_says_L20 (q.1) (q.2.1) (q.2.2.1) (q.2.2.2)
noncomputable def fX10_says (V : VT) (x1 : Int32) (x2 : Int32) : Option VT := ob_R (fX10_deedAt V x2 (4 : Int32)) fun y2 => rd_ y2 1988 (rd_ y2 1988 (lt_ (va_up V 76 (upd (V 76) y2.toNatClampNeg ((V 76 y2.toNatClampNeg) ||| ((1 : Int32) <<< (x1 &&& 31))))) fun V5 => ob_R (it_ (iX10_says_L20) FV (V5, x1, x2, (179 : Int32))) fun x12 => (dt3_ x12 fun V15 y13 y14 => rd_ (4 : Int32) 1988 (rd_ (134 : Int32) 1988 (lt_ (va_up V15 76 (upd (V15 76) (134 : Int32).toNatClampNeg (V15 76 (4 : Int32).toNatClampNeg))) fun V18 => rd_ (135 : Int32) 1988 (lt_ (va_up V18 76 (upd (V18 76) (135 : Int32).toNatClampNeg y13)) fun V20 => rd_ (136 : Int32) 1988 (lt_ (va_up V20 76 (upd (V20 76) (136 : Int32).toNatClampNeg y14)) fun V22 => rd_ (8 : Int32) 1988 (rd_ (8 : Int32) 1988 (lt_ (va_up V22 76 (upd (V22 76) (8 : Int32).toNatClampNeg (if ((V22 76 (8 : Int32).toNatClampNeg) + (1 : Int32)) < (60 : Int32) then ((V22 76 (8 : Int32).toNatClampNeg) + (1 : Int32)) else (60 : Int32)))) fun V25 => rd_ (7 : Int32) 1988 (rd_ (7 : Int32) 1988 (lt_ (va_up V25 76 (upd (V25 76) (7 : Int32).toNatClampNeg ((V25 76 (7 : Int32).toNatClampNeg) + (1 : Int32)))) fun V28 => some V28)))))))))))
set_option maxHeartbeats 4000000 in
set_option maxRecDepth 100000 in
theorem wX10_says_L20 {p : Program} {l : Launch} {e : Env} {s : State} {m : MethodId} {args : Array Value} {below : List Frame} {meth : Method} {c : Code} {G : GT} {B : BGt} {Q : State → Prop} (E : En p s m args c meth cX10_says 4 RX10 none G B) {x : (VT × Int32 × Int32)} (ke : ∀ q : (VT × Int32 × Int32), x = q → ∀ (H : Heap) (locs : List Loc) (ls : Array Slot), HW G s.heap (q.1) H locs → lv_has ls 4 [(0, .ref (G.2.2 22)), (1, .int (q.2.1)), (2, .int (q.2.2))] → W p l e (rmD 3) s m args below meth c H locs 0 0 Q (F0 m 53 ls [])) : ∀ (n : Nat) (q : (VT × Int32 × Int32 × Int32)), it_ (iX10_says_L20) n q = some x → ∀ (H : Heap) (locs : List Loc) (ls : Array Slot), HW G s.heap (q.1) H locs → lv_has ls 4 [(0, .ref (G.2.2 22)), (1, .int (q.2.1)), (2, .int (q.2.2.1)), (3, .int (q.2.2.2))] → W p l e (rmD 3) s m args below meth c H locs 0 0 Q (F0 m 20 ls []) := by
  have hx := en_x E
  have hb := en_b E
  have hB := en_B E
  refine it_W (fun q : (VT × Int32 × Int32 × Int32) => ∀ (H : Heap) (locs : List Loc) (ls : Array Slot), HW G s.heap (q.1) H locs → lv_has ls 4 [(0, .ref (G.2.2 22)), (1, .int (q.2.1)), (2, .int (q.2.2.1)), (3, .int (q.2.2.2))] → W p l e (rmD 3) s m args below meth c H locs 0 0 Q (F0 m 20 ls [])) x ?_
  intro q r h kc kx
  obtain ⟨V, u1, u2, u3⟩ := q
  intro H locs ls hw hl
  have h : fX10_says_L20 V u1 u2 u3 = some r := h
  have hw : HW G s.heap V H locs := hw
  have hl : lv_has ls 4 [(0, .ref (G.2.2 22)), (1, .int u1), (2, .int u2), (3, .int u3)] := hl
  have ke : ∀ q : (VT × Int32 × Int32), r = .inr (q) → ∀ (H : Heap) (locs : List Loc) (ls : Array Slot), HW G s.heap (q.1) H locs → lv_has ls 4 [(0, .ref (G.2.2 22)), (1, .int (q.2.1)), (2, .int (q.2.2))] → W p l e (rmD 3) s m args below meth c H locs 0 0 Q (F0 m 53 ls []) := fun q e => ke q (kx _ e).symm
  unfold fX10_says_L20 at h
  refine lv_iload_n hx hb dX10_says_20 rfl (lv_at hl 3 rfl) ?_
  refine lv_iconst (v := (3 : Int32)) hx hb dX10_says_21 (by decide) ?_
  refine lv_icmp_lt (tgt := 53) hx hb dX10_says_22 (by decide) (fun c10 => ?_) (fun c10 => ?_)
  · rw [if_pos c10] at h
    exact ke (V, u1, u2) (Option.some.inj h).symm H locs ls hw (lv_sub hl [0, 1, 2] rfl)
  · rw [if_neg c10] at h
    refine lv_aload_n hx hb dX10_says_25 rfl (lv_at hl 0 rfl) ?_
    refine r_gr E hw 22 1 76 (N := 29) (C := RX10) (T := TX10) (by decide) rfl rfl (by decide) rfl iw_10 rfl lf_RX10_13 dX10_says_26 ?_
    refine lv_sipush (v := (134 : Int32)) hx hb dX10_says_29 (by decide) ?_
    refine lv_iload_n hx hb dX10_says_32 rfl (lv_at hl 3 rfl) ?_
    refine lv_iadd hx hb dX10_says_33 ?_
    refine lv_aload_n hx hb dX10_says_34 rfl (lv_at hl 0 rfl) ?_
    refine r_gr E hw 22 1 76 (N := 29) (C := RX10) (T := TX10) (by decide) rfl rfl (by decide) rfl iw_10 rfl lf_RX10_13 dX10_says_35 ?_
    refine lv_sipush (v := (134 : Int32)) hx hb dX10_says_38 (by decide) ?_
    refine lv_iload_n hx hb dX10_says_41 rfl (lv_at hl 3 rfl) ?_
    refine lv_iadd hx hb dX10_says_42 ?_
    refine lv_iconst (v := (3 : Int32)) hx hb dX10_says_43 (by decide) ?_
    refine lv_isub hx hb dX10_says_44 ?_
    obtain ⟨b6, h⟩ := rd_some h
    refine r_ia E hw 76 1988 (by decide) (by decide) (by decide) rfl rfl b6 dX10_says_45 ?_
    obtain ⟨b7, h⟩ := rd_some h
    obtain ⟨V8, eV8, h⟩ := lt_some h
    refine r_is E hw 76 1988 (by decide) (by decide) (by decide) rfl rfl b7 eV8 dX10_says_46 (fun H locs hw => ?_)
    obtain ⟨y9, ey9, h⟩ := lt_some h
    refine lv_iinc (v := y9) (lv' := [(3, .int y9), (0, .ref (G.2.2 22)), (1, .int u1), (2, .int u2)]) hx hb dX10_says_47 hl (k := 3) rfl (by rw [ey9]; rfl) (by decide) rfl (fun ls hl => ?_)
    refine lv_goto (tgt := 20) hx hb dX10_says_50 (by decide) ?_
    exact kc (V8, u1, u2, y9) (Option.some.inj h).symm H locs ls hw (lv_sub hl [1, 2, 3, 0] rfl)
set_option maxHeartbeats 4000000 in
set_option maxRecDepth 100000 in
theorem kX10_says {l : Launch} {G : GT} {B : BGt} (hB : BGok B) {V : VT} {x1 : Int32} {x2 : Int32} {r : VT} (h : fX10_says V x1 x2 = some r) : CV l G B yX10_says (.code yX10_says cX10_says 4 none) 3 [.ref (G.2.2 22), .int x1, .int x2] V r := by
  intro sz
  refine met_of (Qs := fun sz => QV G sz r) hB (by decide) (Nat.le_of_ble_eq_true rfl) ?_ sz
  intro p e s m args below meth c ls E hw hl
  have hx := en_x E
  have hb := en_b E
  generalize hQ : MQ _ _ _ _ _ _ _ = Q
  have kr : Q = MQ below (QV G s.heap.size r) args s 0 0 (gA G s.heap.size) := hQ.symm
  have hl : lv_has ls 4 [(0, .ref (G.2.2 22)), (1, .int x1), (2, .int x2)] := hl
  obtain ⟨H, eH⟩ : ∃ H, H = s.heap := ⟨_, rfl⟩
  obtain ⟨locs, elocs⟩ : ∃ z : List Loc, z = [] := ⟨_, rfl⟩
  have hw : HW G s.heap V H locs := by rw [eH, elocs]; exact hw
  show W p l e _ s m args below meth c s.heap [] 0 0 Q (F0 m 0 ls [])
  rw [← eH, ← elocs]
  unfold fX10_says at h
  refine lv_aload_n hx hb dX10_says_0 rfl (lv_at hl 0 rfl) ?_
  refine r_gr E hw 22 1 76 (N := 29) (C := RX10) (T := TX10) (by decide) rfl rfl (by decide) rfl iw_10 rfl lf_RX10_13 dX10_says_1 ?_
  refine lv_iload_n hx hb dX10_says_4 rfl (lv_at hl 2 rfl) ?_
  refine lv_iconst (v := (4 : Int32)) hx hb dX10_says_5 (by decide) ?_
  obtain ⟨y2, h1, h⟩ := ob_R_some h
  refine c_SI E hw (kX10_deedAt (l := l) (G := G) hB  h1) yy_X10_deedAt lm_RX10_70 rfl hl.1 (by decide) (by decide) rfl (Nat.le_of_ble_eq_true rfl) dX10_says_6 (fun H locs hw => ?_)
  refine lv_dup2_11 hx hb dX10_says_9 rfl rfl ?_
  obtain ⟨b3, h⟩ := rd_some h
  refine r_ia E hw 76 1988 (by decide) (by decide) (by decide) rfl rfl b3 dX10_says_10 ?_
  refine lv_iconst (v := (1 : Int32)) hx hb dX10_says_11 (by decide) ?_
  refine lv_iload_n hx hb dX10_says_12 rfl (lv_at hl 1 rfl) ?_
  refine lv_ishl hx hb dX10_says_13 ?_
  refine lv_ior hx hb dX10_says_14 ?_
  obtain ⟨b4, h⟩ := rd_some h
  obtain ⟨V5, eV5, h⟩ := lt_some h
  refine r_is E hw 76 1988 (by decide) (by decide) (by decide) rfl rfl b4 eV5 dX10_says_15 (fun H locs hw => ?_)
  refine lv_sipush (v := (179 : Int32)) hx hb dX10_says_16 (by decide) ?_
  refine lv_istore_n (lv' := [(3, .int (179 : Int32)), (0, .ref (G.2.2 22)), (1, .int x1), (2, .int x2)]) hx hb dX10_says_19 rfl hl (by decide) rfl (fun ls hl => ?_)
  obtain ⟨x12, h11, h⟩ := ob_R_some h
  obtain ⟨V15, y13, y14⟩ := x12
  refine wX10_says_L20 E (fun q e H locs ls hw hl => ?_) FV (V5, x1, x2, (179 : Int32)) h11 H locs ls hw (lv_sub hl [1, 2, 3, 0] rfl)
  subst e
  have hw : HW G s.heap V15 H locs := hw
  have hl : lv_has ls 4 [(0, .ref (G.2.2 22)), (1, .int y13), (2, .int y14)] := hl
  have h := dt3_eq h
  refine lv_aload_n hx hb dX10_says_53 rfl (lv_at hl 0 rfl) ?_
  refine r_gr E hw 22 1 76 (N := 29) (C := RX10) (T := TX10) (by decide) rfl rfl (by decide) rfl iw_10 rfl lf_RX10_13 dX10_says_54 ?_
  refine lv_sipush (v := (134 : Int32)) hx hb dX10_says_57 (by decide) ?_
  refine lv_aload_n hx hb dX10_says_60 rfl (lv_at hl 0 rfl) ?_
  refine r_gr E hw 22 1 76 (N := 29) (C := RX10) (T := TX10) (by decide) rfl rfl (by decide) rfl iw_10 rfl lf_RX10_13 dX10_says_61 ?_
  refine lv_iconst (v := (4 : Int32)) hx hb dX10_says_64 (by decide) ?_
  obtain ⟨b16, h⟩ := rd_some h
  refine r_ia E hw 76 1988 (by decide) (by decide) (by decide) rfl rfl b16 dX10_says_65 ?_
  obtain ⟨b17, h⟩ := rd_some h
  obtain ⟨V18, eV18, h⟩ := lt_some h
  refine r_is E hw 76 1988 (by decide) (by decide) (by decide) rfl rfl b17 eV18 dX10_says_66 (fun H locs hw => ?_)
  refine lv_aload_n hx hb dX10_says_67 rfl (lv_at hl 0 rfl) ?_
  refine r_gr E hw 22 1 76 (N := 29) (C := RX10) (T := TX10) (by decide) rfl rfl (by decide) rfl iw_10 rfl lf_RX10_13 dX10_says_68 ?_
  refine lv_sipush (v := (135 : Int32)) hx hb dX10_says_71 (by decide) ?_
  refine lv_iload_n hx hb dX10_says_74 rfl (lv_at hl 1 rfl) ?_
  obtain ⟨b19, h⟩ := rd_some h
  obtain ⟨V20, eV20, h⟩ := lt_some h
  refine r_is E hw 76 1988 (by decide) (by decide) (by decide) rfl rfl b19 eV20 dX10_says_75 (fun H locs hw => ?_)
  refine lv_aload_n hx hb dX10_says_76 rfl (lv_at hl 0 rfl) ?_
  refine r_gr E hw 22 1 76 (N := 29) (C := RX10) (T := TX10) (by decide) rfl rfl (by decide) rfl iw_10 rfl lf_RX10_13 dX10_says_77 ?_
  refine lv_sipush (v := (136 : Int32)) hx hb dX10_says_80 (by decide) ?_
  refine lv_iload_n hx hb dX10_says_83 rfl (lv_at hl 2 rfl) ?_
  obtain ⟨b21, h⟩ := rd_some h
  obtain ⟨V22, eV22, h⟩ := lt_some h
  refine r_is E hw 76 1988 (by decide) (by decide) (by decide) rfl rfl b21 eV22 dX10_says_84 (fun H locs hw => ?_)
  refine lv_aload_n hx hb dX10_says_85 rfl (lv_at hl 0 rfl) ?_
  refine r_gr E hw 22 1 76 (N := 29) (C := RX10) (T := TX10) (by decide) rfl rfl (by decide) rfl iw_10 rfl lf_RX10_13 dX10_says_86 ?_
  refine lv_bipush (v := (8 : Int32)) hx hb dX10_says_89 (by decide) ?_
  refine lv_bipush (v := (60 : Int32)) hx hb dX10_says_91 (by decide) ?_
  refine lv_aload_n hx hb dX10_says_93 rfl (lv_at hl 0 rfl) ?_
  refine r_gr E hw 22 1 76 (N := 29) (C := RX10) (T := TX10) (by decide) rfl rfl (by decide) rfl iw_10 rfl lf_RX10_13 dX10_says_94 ?_
  refine lv_bipush (v := (8 : Int32)) hx hb dX10_says_97 (by decide) ?_
  obtain ⟨b23, h⟩ := rd_some h
  refine r_ia E hw 76 1988 (by decide) (by decide) (by decide) rfl rfl b23 dX10_says_99 ?_
  refine lv_iconst (v := (1 : Int32)) hx hb dX10_says_100 (by decide) ?_
  refine lv_iadd hx hb dX10_says_101 ?_
  refine r_min E hl.1 lm_RX10_244 (by decide) (Nat.le_of_ble_eq_true rfl) dX10_says_102 ?_
  obtain ⟨b24, h⟩ := rd_some h
  obtain ⟨V25, eV25, h⟩ := lt_some h
  refine r_is E hw 76 1988 (by decide) (by decide) (by decide) rfl rfl b24 eV25 dX10_says_105 (fun H locs hw => ?_)
  refine lv_aload_n hx hb dX10_says_106 rfl (lv_at hl 0 rfl) ?_
  refine r_gr E hw 22 1 76 (N := 29) (C := RX10) (T := TX10) (by decide) rfl rfl (by decide) rfl iw_10 rfl lf_RX10_13 dX10_says_107 ?_
  refine lv_bipush (v := (7 : Int32)) hx hb dX10_says_110 (by decide) ?_
  refine lv_dup2_11 hx hb dX10_says_112 rfl rfl ?_
  obtain ⟨b26, h⟩ := rd_some h
  refine r_ia E hw 76 1988 (by decide) (by decide) (by decide) rfl rfl b26 dX10_says_113 ?_
  refine lv_iconst (v := (1 : Int32)) hx hb dX10_says_114 (by decide) ?_
  refine lv_iadd hx hb dX10_says_115 ?_
  obtain ⟨b27, h⟩ := rd_some h
  obtain ⟨V28, eV28, h⟩ := lt_some h
  refine r_is E hw 76 1988 (by decide) (by decide) (by decide) rfl rfl b27 eV28 dX10_says_116 (fun H locs hw => ?_)
  have h := Option.some.inj h
  subst h
  rw [kr]
  exact r_rv E hw dX10_says_117
/-! ===== AllSawItModel.asks()V ===== -/
theorem dX10_asks_0 : decode cX10_asks 0 = .ok (.iconst 0, 1) := by decide +kernel
theorem dX10_asks_1 : decode cX10_asks 1 = .ok (.istore_n 1, 1) := by decide +kernel
theorem dX10_asks_2 : decode cX10_asks 2 = .ok (.iload_n 1, 1) := by decide +kernel
theorem dX10_asks_3 : decode cX10_asks 3 = .ok (.aload_n 0, 1) := by decide +kernel
theorem dX10_asks_4 : decode cX10_asks 4 = .ok (.invokevirtual 80, 3) := by decide +kernel
theorem dX10_asks_7 : decode cX10_asks 7 = .ok (.if_icmp .ge 53, 3) := by decide +kernel
theorem dX10_asks_10 : decode cX10_asks 10 = .ok (.aload_n 0, 1) := by decide +kernel
theorem dX10_asks_11 : decode cX10_asks 11 = .ok (.invokevirtual 62, 3) := by decide +kernel
theorem dX10_asks_14 : decode cX10_asks 14 = .ok (.ifCond .le 40, 3) := by decide +kernel
theorem dX10_asks_17 : decode cX10_asks 17 = .ok (.aload_n 0, 1) := by decide +kernel
theorem dX10_asks_18 : decode cX10_asks 18 = .ok (.iload_n 1, 1) := by decide +kernel
theorem dX10_asks_19 : decode cX10_asks 19 = .ok (.iconst 4, 1) := by decide +kernel
theorem dX10_asks_20 : decode cX10_asks 20 = .ok (.invokevirtual 73, 3) := by decide +kernel
theorem dX10_asks_23 : decode cX10_asks 23 = .ok (.aload_n 0, 1) := by decide +kernel
theorem dX10_asks_24 : decode cX10_asks 24 = .ok (.invokevirtual 321, 3) := by decide +kernel
theorem dX10_asks_27 : decode cX10_asks 27 = .ok (.iand, 1) := by decide +kernel
theorem dX10_asks_28 : decode cX10_asks 28 = .ok (.aload_n 0, 1) := by decide +kernel
theorem dX10_asks_29 : decode cX10_asks 29 = .ok (.invokevirtual 321, 3) := by decide +kernel
theorem dX10_asks_32 : decode cX10_asks 32 = .ok (.if_icmp .ne 22, 3) := by decide +kernel
theorem dX10_asks_35 : decode cX10_asks 35 = .ok (.aload_n 0, 1) := by decide +kernel
theorem dX10_asks_36 : decode cX10_asks 36 = .ok (.iload_n 1, 1) := by decide +kernel
theorem dX10_asks_37 : decode cX10_asks 37 = .ok (.invokevirtual 367, 3) := by decide +kernel
theorem dX10_asks_40 : decode cX10_asks 40 = .ok (.ifCond .eq 14, 3) := by decide +kernel
theorem dX10_asks_43 : decode cX10_asks 43 = .ok (.aload_n 0, 1) := by decide +kernel
theorem dX10_asks_44 : decode cX10_asks 44 = .ok (.getfield 13, 3) := by decide +kernel
theorem dX10_asks_47 : decode cX10_asks 47 = .ok (.iload_n 1, 1) := by decide +kernel
theorem dX10_asks_48 : decode cX10_asks 48 = .ok (.iconst 5, 1) := by decide +kernel
theorem dX10_asks_49 : decode cX10_asks 49 = .ok (.invokestatic 70, 3) := by decide +kernel
theorem dX10_asks_52 : decode cX10_asks 52 = .ok (.iconst 1, 1) := by decide +kernel
theorem dX10_asks_53 : decode cX10_asks 53 = .ok (.iastore, 1) := by decide +kernel
theorem dX10_asks_54 : decode cX10_asks 54 = .ok (.iinc 1 1, 3) := by decide +kernel
theorem dX10_asks_57 : decode cX10_asks 57 = .ok (.goto (-55), 3) := by decide +kernel
theorem dX10_asks_60 : decode cX10_asks 60 = .ok (.return_, 1) := by decide +kernel
noncomputable def fX10_asks_L2 (V : VT) (u1 : Int32) : Option ((VT × Int32) ⊕ VT) := ob_R (fX10_deeds V ) fun y2 => if y2 ≤ u1 then (some (.inr (V))) else (ob_R (fX10_houses V ) fun y4 => if y4 ≤ 0 then (lt_ (u1 + (1 : Int32)) fun y5 => some (.inl (V, y5))) else (ob_R (fX10_ofDeed V u1 (4 : Int32)) fun y7 => ob_R (fX10_allHouses V ) fun y9 => ob_R (fX10_allHouses V ) fun y11 => if (y7 &&& y9) = y11 then (ob_R (fX10_isFree V u1) fun y14 => if y14 = 0 then (lt_ (u1 + (1 : Int32)) fun y15 => some (.inl (V, y15))) else (ob_R (fX10_deedAt V u1 (5 : Int32)) fun y17 => rd_ y17 1988 (lt_ (va_up V 76 (upd (V 76) y17.toNatClampNeg (1 : Int32))) fun V19 => lt_ (u1 + (1 : Int32)) fun y20 => some (.inl (V19, y20))))) else (lt_ (u1 + (1 : Int32)) fun y12 => some (.inl (V, y12)))))
noncomputable def iX10_asks_L2 : (VT × Int32) → Option ((VT × Int32) ⊕ VT) := fun q => fX10_asks_L2 (q.1) (q.2)
noncomputable def fX10_asks (V : VT) : Option VT := ob_R (it_ (iX10_asks_L2) FV (V, (0 : Int32))) fun x26 => some x26
set_option maxHeartbeats 4000000 in
set_option maxRecDepth 100000 in
theorem wX10_asks_L2 {p : Program} {l : Launch} {e : Env} {s : State} {m : MethodId} {args : Array Value} {below : List Frame} {meth : Method} {c : Code} {G : GT} {B : BGt} {Q : State → Prop} (E : En p s m args c meth cX10_asks 2 RX10 none G B) {x : VT} (kr : ∀ q : VT, x = q → Q = MQ below (QV G s.heap.size q) args s 0 0 (gA G s.heap.size)) : ∀ (n : Nat) (q : (VT × Int32)), it_ (iX10_asks_L2) n q = some x → ∀ (H : Heap) (locs : List Loc) (ls : Array Slot), HW G s.heap (q.1) H locs → lv_has ls 2 [(0, .ref (G.2.2 22)), (1, .int (q.2))] → W p l e (rmD 6) s m args below meth c H locs 0 0 Q (F0 m 2 ls []) := by
  have hx := en_x E
  have hb := en_b E
  have hB := en_B E
  refine it_W (fun q : (VT × Int32) => ∀ (H : Heap) (locs : List Loc) (ls : Array Slot), HW G s.heap (q.1) H locs → lv_has ls 2 [(0, .ref (G.2.2 22)), (1, .int (q.2))] → W p l e (rmD 6) s m args below meth c H locs 0 0 Q (F0 m 2 ls [])) x ?_
  intro q r h kc kx
  obtain ⟨V, u1⟩ := q
  intro H locs ls hw hl
  have h : fX10_asks_L2 V u1 = some r := h
  have hw : HW G s.heap V H locs := hw
  have hl : lv_has ls 2 [(0, .ref (G.2.2 22)), (1, .int u1)] := hl
  have kr : ∀ q : VT, r = .inr (q) → Q = MQ below (QV G s.heap.size q) args s 0 0 (gA G s.heap.size) := fun q e => kr q (kx _ e).symm
  unfold fX10_asks_L2 at h
  refine lv_iload_n hx hb dX10_asks_2 rfl (lv_at hl 1 rfl) ?_
  refine lv_aload_n hx hb dX10_asks_3 rfl (lv_at hl 0 rfl) ?_
  obtain ⟨y2, h1, h⟩ := ob_R_some h
  refine c_VI E hw (kX10_deeds (l := l) (G := G) hB  h1) yy_X10_deeds lm_RX10_80 rfl (by decide) rfl rfl hl.1 (by decide) (by decide) rfl (Nat.le_of_ble_eq_true rfl) dX10_asks_4 (fun H locs hw => ?_)
  refine lv_icmp_ge (tgt := 60) hx hb dX10_asks_7 (by decide) (fun c24 => ?_) (fun c24 => ?_)
  · rw [if_pos c24] at h
    rw [kr V (Option.some.inj h).symm]
    exact r_rv E hw dX10_asks_60
  · rw [if_neg c24] at h
    refine lv_aload_n hx hb dX10_asks_10 rfl (lv_at hl 0 rfl) ?_
    obtain ⟨y4, h3, h⟩ := ob_R_some h
    refine c_VI E hw (kX10_houses (l := l) (G := G) hB  h3) yy_X10_houses lm_RX10_62 rfl (by decide) rfl rfl hl.1 (by decide) (by decide) rfl (Nat.le_of_ble_eq_true rfl) dX10_asks_11 (fun H locs hw => ?_)
    refine lv_if_le (tgt := 54) hx hb dX10_asks_14 (by decide) (fun c23 => ?_) (fun c23 => ?_)
    · rw [if_pos c23] at h
      obtain ⟨y5, ey5, h⟩ := lt_some h
      refine lv_iinc (v := y5) (lv' := [(1, .int y5), (0, .ref (G.2.2 22))]) hx hb dX10_asks_54 hl (k := 1) rfl (by rw [ey5]; rfl) (by decide) rfl (fun ls hl => ?_)
      refine lv_goto (tgt := 2) hx hb dX10_asks_57 (by decide) ?_
      exact kc (V, y5) (Option.some.inj h).symm H locs ls hw (lv_sub hl [1, 0] rfl)
    · rw [if_neg c23] at h
      refine lv_aload_n hx hb dX10_asks_17 rfl (lv_at hl 0 rfl) ?_
      refine lv_iload_n hx hb dX10_asks_18 rfl (lv_at hl 1 rfl) ?_
      refine lv_iconst (v := (4 : Int32)) hx hb dX10_asks_19 (by decide) ?_
      obtain ⟨y7, h6, h⟩ := ob_R_some h
      refine c_VI E hw (kX10_ofDeed (l := l) (G := G) hB  h6) yy_X10_ofDeed lm_RX10_73 rfl (by decide) rfl rfl hl.1 (by decide) (by decide) rfl (Nat.le_of_ble_eq_true rfl) dX10_asks_20 (fun H locs hw => ?_)
      refine lv_aload_n hx hb dX10_asks_23 rfl (lv_at hl 0 rfl) ?_
      obtain ⟨y9, h8, h⟩ := ob_R_some h
      refine c_VI E hw (kX10_allHouses (l := l) (G := G) hB  h8) yy_X10_allHouses lm_RX10_321 rfl (by decide) rfl rfl hl.1 (by decide) (by decide) rfl (Nat.le_of_ble_eq_true rfl) dX10_asks_24 (fun H locs hw => ?_)
      refine lv_iand hx hb dX10_asks_27 ?_
      refine lv_aload_n hx hb dX10_asks_28 rfl (lv_at hl 0 rfl) ?_
      obtain ⟨y11, h10, h⟩ := ob_R_some h
      refine c_VI E hw (kX10_allHouses (l := l) (G := G) hB  h10) yy_X10_allHouses lm_RX10_321 rfl (by decide) rfl rfl hl.1 (by decide) (by decide) rfl (Nat.le_of_ble_eq_true rfl) dX10_asks_29 (fun H locs hw => ?_)
      refine lv_icmp_ne (tgt := 54) hx hb dX10_asks_32 (by decide) (fun c22 => ?_) (fun c22 => ?_)
      · rw [if_neg c22] at h
        obtain ⟨y12, ey12, h⟩ := lt_some h
        refine lv_iinc (v := y12) (lv' := [(1, .int y12), (0, .ref (G.2.2 22))]) hx hb dX10_asks_54 hl (k := 1) rfl (by rw [ey12]; rfl) (by decide) rfl (fun ls hl => ?_)
        refine lv_goto (tgt := 2) hx hb dX10_asks_57 (by decide) ?_
        exact kc (V, y12) (Option.some.inj h).symm H locs ls hw (lv_sub hl [1, 0] rfl)
      · rw [if_pos c22] at h
        refine lv_aload_n hx hb dX10_asks_35 rfl (lv_at hl 0 rfl) ?_
        refine lv_iload_n hx hb dX10_asks_36 rfl (lv_at hl 1 rfl) ?_
        obtain ⟨y14, h13, h⟩ := ob_R_some h
        refine c_VI E hw (kX10_isFree (l := l) (G := G) hB  h13) yy_X10_isFree lm_RX10_367 rfl (by decide) rfl rfl hl.1 (by decide) (by decide) rfl (Nat.le_of_ble_eq_true rfl) dX10_asks_37 (fun H locs hw => ?_)
        refine lv_if_eq (tgt := 54) hx hb dX10_asks_40 (by decide) (fun c21 => ?_) (fun c21 => ?_)
        · rw [if_pos c21] at h
          obtain ⟨y15, ey15, h⟩ := lt_some h
          refine lv_iinc (v := y15) (lv' := [(1, .int y15), (0, .ref (G.2.2 22))]) hx hb dX10_asks_54 hl (k := 1) rfl (by rw [ey15]; rfl) (by decide) rfl (fun ls hl => ?_)
          refine lv_goto (tgt := 2) hx hb dX10_asks_57 (by decide) ?_
          exact kc (V, y15) (Option.some.inj h).symm H locs ls hw (lv_sub hl [1, 0] rfl)
        · rw [if_neg c21] at h
          refine lv_aload_n hx hb dX10_asks_43 rfl (lv_at hl 0 rfl) ?_
          refine r_gr E hw 22 1 76 (N := 29) (C := RX10) (T := TX10) (by decide) rfl rfl (by decide) rfl iw_10 rfl lf_RX10_13 dX10_asks_44 ?_
          refine lv_iload_n hx hb dX10_asks_47 rfl (lv_at hl 1 rfl) ?_
          refine lv_iconst (v := (5 : Int32)) hx hb dX10_asks_48 (by decide) ?_
          obtain ⟨y17, h16, h⟩ := ob_R_some h
          refine c_SI E hw (kX10_deedAt (l := l) (G := G) hB  h16) yy_X10_deedAt lm_RX10_70 rfl hl.1 (by decide) (by decide) rfl (Nat.le_of_ble_eq_true rfl) dX10_asks_49 (fun H locs hw => ?_)
          refine lv_iconst (v := (1 : Int32)) hx hb dX10_asks_52 (by decide) ?_
          obtain ⟨b18, h⟩ := rd_some h
          obtain ⟨V19, eV19, h⟩ := lt_some h
          refine r_is E hw 76 1988 (by decide) (by decide) (by decide) rfl rfl b18 eV19 dX10_asks_53 (fun H locs hw => ?_)
          obtain ⟨y20, ey20, h⟩ := lt_some h
          refine lv_iinc (v := y20) (lv' := [(1, .int y20), (0, .ref (G.2.2 22))]) hx hb dX10_asks_54 hl (k := 1) rfl (by rw [ey20]; rfl) (by decide) rfl (fun ls hl => ?_)
          refine lv_goto (tgt := 2) hx hb dX10_asks_57 (by decide) ?_
          exact kc (V19, y20) (Option.some.inj h).symm H locs ls hw (lv_sub hl [1, 0] rfl)
set_option maxHeartbeats 4000000 in
set_option maxRecDepth 100000 in
theorem kX10_asks {l : Launch} {G : GT} {B : BGt} (hB : BGok B) {V : VT} {r : VT} (h : fX10_asks V = some r) : CV l G B yX10_asks (.code yX10_asks cX10_asks 2 none) 6 [.ref (G.2.2 22)] V r := by
  intro sz
  refine met_of (Qs := fun sz => QV G sz r) hB (by decide) (Nat.le_of_ble_eq_true rfl) ?_ sz
  intro p e s m args below meth c ls E hw hl
  have hx := en_x E
  have hb := en_b E
  generalize hQ : MQ _ _ _ _ _ _ _ = Q
  have kr : Q = MQ below (QV G s.heap.size r) args s 0 0 (gA G s.heap.size) := hQ.symm
  have hl : lv_has ls 2 [(0, .ref (G.2.2 22))] := hl
  obtain ⟨H, eH⟩ : ∃ H, H = s.heap := ⟨_, rfl⟩
  obtain ⟨locs, elocs⟩ : ∃ z : List Loc, z = [] := ⟨_, rfl⟩
  have hw : HW G s.heap V H locs := by rw [eH, elocs]; exact hw
  show W p l e _ s m args below meth c s.heap [] 0 0 Q (F0 m 0 ls [])
  rw [← eH, ← elocs]
  unfold fX10_asks at h
  refine lv_iconst (v := (0 : Int32)) hx hb dX10_asks_0 (by decide) ?_
  refine lv_istore_n (lv' := [(1, .int (0 : Int32)), (0, .ref (G.2.2 22))]) hx hb dX10_asks_1 rfl hl (by decide) rfl (fun ls hl => ?_)
  obtain ⟨x26, h25, h⟩ := ob_R_some h
  have h := Option.some.inj h
  subst h
  exact wX10_asks_L2 E (fun q e => by subst e; exact kr) FV (V, (0 : Int32)) h25 H locs ls hw (lv_sub hl [1, 0] rfl)
/-! ===== AllSawItModel.isDone(I)V ===== -/
theorem dX10_isDone_0 : decode cX10_isDone 0 = .ok (.aload_n 0, 1) := by decide +kernel
theorem dX10_isDone_1 : decode cX10_isDone 1 = .ok (.getfield 13, 3) := by decide +kernel
theorem dX10_isDone_4 : decode cX10_isDone 4 = .ok (.iload_n 1, 1) := by decide +kernel
theorem dX10_isDone_5 : decode cX10_isDone 5 = .ok (.iconst 3, 1) := by decide +kernel
theorem dX10_isDone_6 : decode cX10_isDone 6 = .ok (.invokestatic 70, 3) := by decide +kernel
theorem dX10_isDone_9 : decode cX10_isDone 9 = .ok (.dup2, 1) := by decide +kernel
theorem dX10_isDone_10 : decode cX10_isDone 10 = .ok (.iaload, 1) := by decide +kernel
theorem dX10_isDone_11 : decode cX10_isDone 11 = .ok (.aload_n 0, 1) := by decide +kernel
theorem dX10_isDone_12 : decode cX10_isDone 12 = .ok (.aload_n 0, 1) := by decide +kernel
theorem dX10_isDone_13 : decode cX10_isDone 13 = .ok (.iload_n 1, 1) := by decide +kernel
theorem dX10_isDone_14 : decode cX10_isDone 14 = .ok (.iconst 0, 1) := by decide +kernel
theorem dX10_isDone_15 : decode cX10_isDone 15 = .ok (.invokevirtual 73, 3) := by decide +kernel
theorem dX10_isDone_18 : decode cX10_isDone 18 = .ok (.aload_n 0, 1) := by decide +kernel
theorem dX10_isDone_19 : decode cX10_isDone 19 = .ok (.iload_n 1, 1) := by decide +kernel
theorem dX10_isDone_20 : decode cX10_isDone 20 = .ok (.iconst 1, 1) := by decide +kernel
theorem dX10_isDone_21 : decode cX10_isDone 21 = .ok (.invokevirtual 73, 3) := by decide +kernel
theorem dX10_isDone_24 : decode cX10_isDone 24 = .ok (.invokevirtual 318, 3) := by decide +kernel
theorem dX10_isDone_27 : decode cX10_isDone 27 = .ok (.ior, 1) := by decide +kernel
theorem dX10_isDone_28 : decode cX10_isDone 28 = .ok (.iastore, 1) := by decide +kernel
theorem dX10_isDone_29 : decode cX10_isDone 29 = .ok (.return_, 1) := by decide +kernel
noncomputable def fX10_isDone (V : VT) (x1 : Int32) : Option VT := ob_R (fX10_deedAt V x1 (3 : Int32)) fun y2 => rd_ y2 1988 (ob_R (fX10_ofDeed V x1 (0 : Int32)) fun y5 => ob_R (fX10_ofDeed V x1 (1 : Int32)) fun y7 => ob_I (fX10_seersNow V y5 y7) fun y9 V10 => rd_ y2 1988 (lt_ (va_up V10 76 (upd (V10 76) y2.toNatClampNeg ((V 76 y2.toNatClampNeg) ||| y9))) fun V12 => some V12))
set_option maxHeartbeats 4000000 in
set_option maxRecDepth 100000 in
theorem kX10_isDone {l : Launch} {G : GT} {B : BGt} (hB : BGok B) {V : VT} {x1 : Int32} {r : VT} (h : fX10_isDone V x1 = some r) : CV l G B yX10_isDone (.code yX10_isDone cX10_isDone 2 none) 13 [.ref (G.2.2 22), .int x1] V r := by
  intro sz
  refine met_of (Qs := fun sz => QV G sz r) hB (by decide) (Nat.le_of_ble_eq_true rfl) ?_ sz
  intro p e s m args below meth c ls E hw hl
  have hx := en_x E
  have hb := en_b E
  generalize hQ : MQ _ _ _ _ _ _ _ = Q
  have kr : Q = MQ below (QV G s.heap.size r) args s 0 0 (gA G s.heap.size) := hQ.symm
  have hl : lv_has ls 2 [(0, .ref (G.2.2 22)), (1, .int x1)] := hl
  obtain ⟨H, eH⟩ : ∃ H, H = s.heap := ⟨_, rfl⟩
  obtain ⟨locs, elocs⟩ : ∃ z : List Loc, z = [] := ⟨_, rfl⟩
  have hw : HW G s.heap V H locs := by rw [eH, elocs]; exact hw
  show W p l e _ s m args below meth c s.heap [] 0 0 Q (F0 m 0 ls [])
  rw [← eH, ← elocs]
  unfold fX10_isDone at h
  refine lv_aload_n hx hb dX10_isDone_0 rfl (lv_at hl 0 rfl) ?_
  refine r_gr E hw 22 1 76 (N := 29) (C := RX10) (T := TX10) (by decide) rfl rfl (by decide) rfl iw_10 rfl lf_RX10_13 dX10_isDone_1 ?_
  refine lv_iload_n hx hb dX10_isDone_4 rfl (lv_at hl 1 rfl) ?_
  refine lv_iconst (v := (3 : Int32)) hx hb dX10_isDone_5 (by decide) ?_
  obtain ⟨y2, h1, h⟩ := ob_R_some h
  refine c_SI E hw (kX10_deedAt (l := l) (G := G) hB  h1) yy_X10_deedAt lm_RX10_70 rfl hl.1 (by decide) (by decide) rfl (Nat.le_of_ble_eq_true rfl) dX10_isDone_6 (fun H locs hw => ?_)
  refine lv_dup2_11 hx hb dX10_isDone_9 rfl rfl ?_
  obtain ⟨b3, h⟩ := rd_some h
  refine r_ia E hw 76 1988 (by decide) (by decide) (by decide) rfl rfl b3 dX10_isDone_10 ?_
  refine lv_aload_n hx hb dX10_isDone_11 rfl (lv_at hl 0 rfl) ?_
  refine lv_aload_n hx hb dX10_isDone_12 rfl (lv_at hl 0 rfl) ?_
  refine lv_iload_n hx hb dX10_isDone_13 rfl (lv_at hl 1 rfl) ?_
  refine lv_iconst (v := (0 : Int32)) hx hb dX10_isDone_14 (by decide) ?_
  obtain ⟨y5, h4, h⟩ := ob_R_some h
  refine c_VI E hw (kX10_ofDeed (l := l) (G := G) hB  h4) yy_X10_ofDeed lm_RX10_73 rfl (by decide) rfl rfl hl.1 (by decide) (by decide) rfl (Nat.le_of_ble_eq_true rfl) dX10_isDone_15 (fun H locs hw => ?_)
  refine lv_aload_n hx hb dX10_isDone_18 rfl (lv_at hl 0 rfl) ?_
  refine lv_iload_n hx hb dX10_isDone_19 rfl (lv_at hl 1 rfl) ?_
  refine lv_iconst (v := (1 : Int32)) hx hb dX10_isDone_20 (by decide) ?_
  obtain ⟨y7, h6, h⟩ := ob_R_some h
  refine c_VI E hw (kX10_ofDeed (l := l) (G := G) hB  h6) yy_X10_ofDeed lm_RX10_73 rfl (by decide) rfl rfl hl.1 (by decide) (by decide) rfl (Nat.le_of_ble_eq_true rfl) dX10_isDone_21 (fun H locs hw => ?_)
  obtain ⟨y9, V10, h8, h⟩ := ob_I_some h
  refine c_VI E hw (kX10_seersNow (l := l) (G := G) hB  h8) yy_X10_seersNow lm_RX10_318 rfl (by decide) rfl rfl hl.1 (by decide) (by decide) rfl (Nat.le_of_ble_eq_true rfl) dX10_isDone_24 (fun H locs hw => ?_)
  refine lv_ior hx hb dX10_isDone_27 ?_
  obtain ⟨b11, h⟩ := rd_some h
  obtain ⟨V12, eV12, h⟩ := lt_some h
  refine r_is E hw 76 1988 (by decide) (by decide) (by decide) rfl rfl b11 eV12 dX10_isDone_28 (fun H locs hw => ?_)
  have h := Option.some.inj h
  subst h
  rw [kr]
  exact r_rv E hw dX10_isDone_29
/-! ===== AllSawItModel.speaks(I)V ===== -/
theorem dX10_speaks_0 : decode cX10_speaks 0 = .ok (.iconst 0, 1) := by decide +kernel
theorem dX10_speaks_1 : decode cX10_speaks 1 = .ok (.istore_n 2, 1) := by decide +kernel
theorem dX10_speaks_2 : decode cX10_speaks 2 = .ok (.iload_n 2, 1) := by decide +kernel
theorem dX10_speaks_3 : decode cX10_speaks 3 = .ok (.aload_n 0, 1) := by decide +kernel
theorem dX10_speaks_4 : decode cX10_speaks 4 = .ok (.invokevirtual 80, 3) := by decide +kernel
theorem dX10_speaks_7 : decode cX10_speaks 7 = .ok (.if_icmp .ge 41, 3) := by decide +kernel
theorem dX10_speaks_10 : decode cX10_speaks 10 = .ok (.aload_n 0, 1) := by decide +kernel
theorem dX10_speaks_11 : decode cX10_speaks 11 = .ok (.iload_n 2, 1) := by decide +kernel
theorem dX10_speaks_12 : decode cX10_speaks 12 = .ok (.iconst 3, 1) := by decide +kernel
theorem dX10_speaks_13 : decode cX10_speaks 13 = .ok (.invokevirtual 73, 3) := by decide +kernel
theorem dX10_speaks_16 : decode cX10_speaks 16 = .ok (.iload_n 1, 1) := by decide +kernel
theorem dX10_speaks_17 : decode cX10_speaks 17 = .ok (.invokestatic 346, 3) := by decide +kernel
theorem dX10_speaks_20 : decode cX10_speaks 20 = .ok (.ifCond .eq 22, 3) := by decide +kernel
theorem dX10_speaks_23 : decode cX10_speaks 23 = .ok (.aload_n 0, 1) := by decide +kernel
theorem dX10_speaks_24 : decode cX10_speaks 24 = .ok (.iload_n 2, 1) := by decide +kernel
theorem dX10_speaks_25 : decode cX10_speaks 25 = .ok (.iconst 4, 1) := by decide +kernel
theorem dX10_speaks_26 : decode cX10_speaks 26 = .ok (.invokevirtual 73, 3) := by decide +kernel
theorem dX10_speaks_29 : decode cX10_speaks 29 = .ok (.iload_n 1, 1) := by decide +kernel
theorem dX10_speaks_30 : decode cX10_speaks 30 = .ok (.invokestatic 346, 3) := by decide +kernel
theorem dX10_speaks_33 : decode cX10_speaks 33 = .ok (.ifCond .ne 9, 3) := by decide +kernel
theorem dX10_speaks_36 : decode cX10_speaks 36 = .ok (.aload_n 0, 1) := by decide +kernel
theorem dX10_speaks_37 : decode cX10_speaks 37 = .ok (.iload_n 1, 1) := by decide +kernel
theorem dX10_speaks_38 : decode cX10_speaks 38 = .ok (.iload_n 2, 1) := by decide +kernel
theorem dX10_speaks_39 : decode cX10_speaks 39 = .ok (.invokevirtual 370, 3) := by decide +kernel
theorem dX10_speaks_42 : decode cX10_speaks 42 = .ok (.iinc 2 1, 3) := by decide +kernel
theorem dX10_speaks_45 : decode cX10_speaks 45 = .ok (.goto (-43), 3) := by decide +kernel
theorem dX10_speaks_48 : decode cX10_speaks 48 = .ok (.return_, 1) := by decide +kernel
noncomputable def fX10_speaks_L2 (V : VT) (u1 : Int32) (u2 : Int32) : Option ((VT × Int32 × Int32) ⊕ VT) := ob_R (fX10_deeds V ) fun y2 => if y2 ≤ u2 then (some (.inr (V))) else (ob_R (fX10_ofDeed V u2 (3 : Int32)) fun y4 => ob_R (fX10_has V y4 u1) fun y6 => if y6 = 0 then (lt_ (u2 + (1 : Int32)) fun y7 => some (.inl (V, u1, y7))) else (ob_R (fX10_ofDeed V u2 (4 : Int32)) fun y9 => ob_R (fX10_has V y9 u1) fun y11 => if y11 = 0 then (ob_R (fX10_says V u1 u2) fun V14 => lt_ (u2 + (1 : Int32)) fun y15 => some (.inl (V14, u1, y15))) else (lt_ (u2 + (1 : Int32)) fun y12 => some (.inl (V, u1, y12)))))
noncomputable def iX10_speaks_L2 : (VT × Int32 × Int32) → Option ((VT × Int32 × Int32) ⊕ VT) := fun q => fX10_speaks_L2 (q.1) (q.2.1) (q.2.2)
noncomputable def fX10_speaks (V : VT) (x1 : Int32) : Option VT := ob_R (it_ (iX10_speaks_L2) FV (V, x1, (0 : Int32))) fun x20 => some x20
set_option maxHeartbeats 4000000 in
set_option maxRecDepth 100000 in
theorem wX10_speaks_L2 {p : Program} {l : Launch} {e : Env} {s : State} {m : MethodId} {args : Array Value} {below : List Frame} {meth : Method} {c : Code} {G : GT} {B : BGt} {Q : State → Prop} (E : En p s m args c meth cX10_speaks 3 RX10 none G B) {x : VT} (kr : ∀ q : VT, x = q → Q = MQ below (QV G s.heap.size q) args s 0 0 (gA G s.heap.size)) : ∀ (n : Nat) (q : (VT × Int32 × Int32)), it_ (iX10_speaks_L2) n q = some x → ∀ (H : Heap) (locs : List Loc) (ls : Array Slot), HW G s.heap (q.1) H locs → lv_has ls 3 [(0, .ref (G.2.2 22)), (1, .int (q.2.1)), (2, .int (q.2.2))] → W p l e (rmD 4) s m args below meth c H locs 0 0 Q (F0 m 2 ls []) := by
  have hx := en_x E
  have hb := en_b E
  have hB := en_B E
  refine it_W (fun q : (VT × Int32 × Int32) => ∀ (H : Heap) (locs : List Loc) (ls : Array Slot), HW G s.heap (q.1) H locs → lv_has ls 3 [(0, .ref (G.2.2 22)), (1, .int (q.2.1)), (2, .int (q.2.2))] → W p l e (rmD 4) s m args below meth c H locs 0 0 Q (F0 m 2 ls [])) x ?_
  intro q r h kc kx
  obtain ⟨V, u1, u2⟩ := q
  intro H locs ls hw hl
  have h : fX10_speaks_L2 V u1 u2 = some r := h
  have hw : HW G s.heap V H locs := hw
  have hl : lv_has ls 3 [(0, .ref (G.2.2 22)), (1, .int u1), (2, .int u2)] := hl
  have kr : ∀ q : VT, r = .inr (q) → Q = MQ below (QV G s.heap.size q) args s 0 0 (gA G s.heap.size) := fun q e => kr q (kx _ e).symm
  unfold fX10_speaks_L2 at h
  refine lv_iload_n hx hb dX10_speaks_2 rfl (lv_at hl 2 rfl) ?_
  refine lv_aload_n hx hb dX10_speaks_3 rfl (lv_at hl 0 rfl) ?_
  obtain ⟨y2, h1, h⟩ := ob_R_some h
  refine c_VI E hw (kX10_deeds (l := l) (G := G) hB  h1) yy_X10_deeds lm_RX10_80 rfl (by decide) rfl rfl hl.1 (by decide) (by decide) rfl (Nat.le_of_ble_eq_true rfl) dX10_speaks_4 (fun H locs hw => ?_)
  refine lv_icmp_ge (tgt := 48) hx hb dX10_speaks_7 (by decide) (fun c18 => ?_) (fun c18 => ?_)
  · rw [if_pos c18] at h
    rw [kr V (Option.some.inj h).symm]
    exact r_rv E hw dX10_speaks_48
  · rw [if_neg c18] at h
    refine lv_aload_n hx hb dX10_speaks_10 rfl (lv_at hl 0 rfl) ?_
    refine lv_iload_n hx hb dX10_speaks_11 rfl (lv_at hl 2 rfl) ?_
    refine lv_iconst (v := (3 : Int32)) hx hb dX10_speaks_12 (by decide) ?_
    obtain ⟨y4, h3, h⟩ := ob_R_some h
    refine c_VI E hw (kX10_ofDeed (l := l) (G := G) hB  h3) yy_X10_ofDeed lm_RX10_73 rfl (by decide) rfl rfl hl.1 (by decide) (by decide) rfl (Nat.le_of_ble_eq_true rfl) dX10_speaks_13 (fun H locs hw => ?_)
    refine lv_iload_n hx hb dX10_speaks_16 rfl (lv_at hl 1 rfl) ?_
    obtain ⟨y6, h5, h⟩ := ob_R_some h
    refine c_SI E hw (kX10_has (l := l) (G := G) hB  h5) yy_X10_has lm_RX10_346 rfl hl.1 (by decide) (by decide) rfl (Nat.le_of_ble_eq_true rfl) dX10_speaks_17 (fun H locs hw => ?_)
    refine lv_if_eq (tgt := 42) hx hb dX10_speaks_20 (by decide) (fun c17 => ?_) (fun c17 => ?_)
    · rw [if_pos c17] at h
      obtain ⟨y7, ey7, h⟩ := lt_some h
      refine lv_iinc (v := y7) (lv' := [(2, .int y7), (0, .ref (G.2.2 22)), (1, .int u1)]) hx hb dX10_speaks_42 hl (k := 2) rfl (by rw [ey7]; rfl) (by decide) rfl (fun ls hl => ?_)
      refine lv_goto (tgt := 2) hx hb dX10_speaks_45 (by decide) ?_
      exact kc (V, u1, y7) (Option.some.inj h).symm H locs ls hw (lv_sub hl [1, 2, 0] rfl)
    · rw [if_neg c17] at h
      refine lv_aload_n hx hb dX10_speaks_23 rfl (lv_at hl 0 rfl) ?_
      refine lv_iload_n hx hb dX10_speaks_24 rfl (lv_at hl 2 rfl) ?_
      refine lv_iconst (v := (4 : Int32)) hx hb dX10_speaks_25 (by decide) ?_
      obtain ⟨y9, h8, h⟩ := ob_R_some h
      refine c_VI E hw (kX10_ofDeed (l := l) (G := G) hB  h8) yy_X10_ofDeed lm_RX10_73 rfl (by decide) rfl rfl hl.1 (by decide) (by decide) rfl (Nat.le_of_ble_eq_true rfl) dX10_speaks_26 (fun H locs hw => ?_)
      refine lv_iload_n hx hb dX10_speaks_29 rfl (lv_at hl 1 rfl) ?_
      obtain ⟨y11, h10, h⟩ := ob_R_some h
      refine c_SI E hw (kX10_has (l := l) (G := G) hB  h10) yy_X10_has lm_RX10_346 rfl hl.1 (by decide) (by decide) rfl (Nat.le_of_ble_eq_true rfl) dX10_speaks_30 (fun H locs hw => ?_)
      refine lv_if_ne (tgt := 42) hx hb dX10_speaks_33 (by decide) (fun c16 => ?_) (fun c16 => ?_)
      · rw [if_neg c16] at h
        obtain ⟨y12, ey12, h⟩ := lt_some h
        refine lv_iinc (v := y12) (lv' := [(2, .int y12), (0, .ref (G.2.2 22)), (1, .int u1)]) hx hb dX10_speaks_42 hl (k := 2) rfl (by rw [ey12]; rfl) (by decide) rfl (fun ls hl => ?_)
        refine lv_goto (tgt := 2) hx hb dX10_speaks_45 (by decide) ?_
        exact kc (V, u1, y12) (Option.some.inj h).symm H locs ls hw (lv_sub hl [1, 2, 0] rfl)
      · rw [if_pos c16] at h
        refine lv_aload_n hx hb dX10_speaks_36 rfl (lv_at hl 0 rfl) ?_
        refine lv_iload_n hx hb dX10_speaks_37 rfl (lv_at hl 1 rfl) ?_
        refine lv_iload_n hx hb dX10_speaks_38 rfl (lv_at hl 2 rfl) ?_
        obtain ⟨V14, h13, h⟩ := ob_R_some h
        refine c_VV E hw (kX10_says (l := l) (G := G) hB  h13) yy_X10_says lm_RX10_370 rfl (by decide) rfl rfl hl.1 (by decide) (by decide) rfl (Nat.le_of_ble_eq_true rfl) dX10_speaks_39 (fun H locs hw => ?_)
        obtain ⟨y15, ey15, h⟩ := lt_some h
        refine lv_iinc (v := y15) (lv' := [(2, .int y15), (0, .ref (G.2.2 22)), (1, .int u1)]) hx hb dX10_speaks_42 hl (k := 2) rfl (by rw [ey15]; rfl) (by decide) rfl (fun ls hl => ?_)
        refine lv_goto (tgt := 2) hx hb dX10_speaks_45 (by decide) ?_
        exact kc (V14, u1, y15) (Option.some.inj h).symm H locs ls hw (lv_sub hl [1, 2, 0] rfl)
set_option maxHeartbeats 4000000 in
set_option maxRecDepth 100000 in
theorem kX10_speaks {l : Launch} {G : GT} {B : BGt} (hB : BGok B) {V : VT} {x1 : Int32} {r : VT} (h : fX10_speaks V x1 = some r) : CV l G B yX10_speaks (.code yX10_speaks cX10_speaks 3 none) 4 [.ref (G.2.2 22), .int x1] V r := by
  intro sz
  refine met_of (Qs := fun sz => QV G sz r) hB (by decide) (Nat.le_of_ble_eq_true rfl) ?_ sz
  intro p e s m args below meth c ls E hw hl
  have hx := en_x E
  have hb := en_b E
  generalize hQ : MQ _ _ _ _ _ _ _ = Q
  have kr : Q = MQ below (QV G s.heap.size r) args s 0 0 (gA G s.heap.size) := hQ.symm
  have hl : lv_has ls 3 [(0, .ref (G.2.2 22)), (1, .int x1)] := hl
  obtain ⟨H, eH⟩ : ∃ H, H = s.heap := ⟨_, rfl⟩
  obtain ⟨locs, elocs⟩ : ∃ z : List Loc, z = [] := ⟨_, rfl⟩
  have hw : HW G s.heap V H locs := by rw [eH, elocs]; exact hw
  show W p l e _ s m args below meth c s.heap [] 0 0 Q (F0 m 0 ls [])
  rw [← eH, ← elocs]
  unfold fX10_speaks at h
  refine lv_iconst (v := (0 : Int32)) hx hb dX10_speaks_0 (by decide) ?_
  refine lv_istore_n (lv' := [(2, .int (0 : Int32)), (0, .ref (G.2.2 22)), (1, .int x1)]) hx hb dX10_speaks_1 rfl hl (by decide) rfl (fun ls hl => ?_)
  obtain ⟨x20, h19, h⟩ := ob_R_some h
  have h := Option.some.inj h
  subst h
  exact wX10_speaks_L2 E (fun q e => by subst e; exact kr) FV (V, x1, (0 : Int32)) h19 H locs ls hw (lv_sub hl [1, 2, 0] rfl)
/-! ===== AllSawItModel.oneDay(Z)V ===== -/
theorem dX10_oneDay_0 : decode cX10_oneDay 0 = .ok (.iconst 0, 1) := by decide +kernel
theorem dX10_oneDay_1 : decode cX10_oneDay 1 = .ok (.istore_n 2, 1) := by decide +kernel
theorem dX10_oneDay_2 : decode cX10_oneDay 2 = .ok (.iload_n 2, 1) := by decide +kernel
theorem dX10_oneDay_3 : decode cX10_oneDay 3 = .ok (.aload_n 0, 1) := by decide +kernel
theorem dX10_oneDay_4 : decode cX10_oneDay 4 = .ok (.invokevirtual 80, 3) := by decide +kernel
theorem dX10_oneDay_7 : decode cX10_oneDay 7 = .ok (.if_icmp .ge 30, 3) := by decide +kernel
theorem dX10_oneDay_10 : decode cX10_oneDay 10 = .ok (.aload_n 0, 1) := by decide +kernel
theorem dX10_oneDay_11 : decode cX10_oneDay 11 = .ok (.iload_n 2, 1) := by decide +kernel
theorem dX10_oneDay_12 : decode cX10_oneDay 12 = .ok (.invokevirtual 340, 3) := by decide +kernel
theorem dX10_oneDay_15 : decode cX10_oneDay 15 = .ok (.ifCond .ne 16, 3) := by decide +kernel
theorem dX10_oneDay_18 : decode cX10_oneDay 18 = .ok (.aload_n 0, 1) := by decide +kernel
theorem dX10_oneDay_19 : decode cX10_oneDay 19 = .ok (.iload_n 2, 1) := by decide +kernel
theorem dX10_oneDay_20 : decode cX10_oneDay 20 = .ok (.invokevirtual 367, 3) := by decide +kernel
theorem dX10_oneDay_23 : decode cX10_oneDay 23 = .ok (.ifCond .eq 8, 3) := by decide +kernel
theorem dX10_oneDay_26 : decode cX10_oneDay 26 = .ok (.aload_n 0, 1) := by decide +kernel
theorem dX10_oneDay_27 : decode cX10_oneDay 27 = .ok (.iload_n 2, 1) := by decide +kernel
theorem dX10_oneDay_28 : decode cX10_oneDay 28 = .ok (.invokevirtual 373, 3) := by decide +kernel
theorem dX10_oneDay_31 : decode cX10_oneDay 31 = .ok (.iinc 2 1, 3) := by decide +kernel
theorem dX10_oneDay_34 : decode cX10_oneDay 34 = .ok (.goto (-32), 3) := by decide +kernel
theorem dX10_oneDay_37 : decode cX10_oneDay 37 = .ok (.iconst 0, 1) := by decide +kernel
theorem dX10_oneDay_38 : decode cX10_oneDay 38 = .ok (.istore_n 2, 1) := by decide +kernel
theorem dX10_oneDay_39 : decode cX10_oneDay 39 = .ok (.iload_n 2, 1) := by decide +kernel
theorem dX10_oneDay_40 : decode cX10_oneDay 40 = .ok (.aload_n 0, 1) := by decide +kernel
theorem dX10_oneDay_41 : decode cX10_oneDay 41 = .ok (.invokevirtual 62, 3) := by decide +kernel
theorem dX10_oneDay_44 : decode cX10_oneDay 44 = .ok (.if_icmp .ge 43, 3) := by decide +kernel
theorem dX10_oneDay_47 : decode cX10_oneDay 47 = .ok (.aload_n 0, 1) := by decide +kernel
theorem dX10_oneDay_48 : decode cX10_oneDay 48 = .ok (.iload_n 2, 1) := by decide +kernel
theorem dX10_oneDay_49 : decode cX10_oneDay 49 = .ok (.bipush 7, 2) := by decide +kernel
theorem dX10_oneDay_51 : decode cX10_oneDay 51 = .ok (.invokevirtual 236, 3) := by decide +kernel
theorem dX10_oneDay_54 : decode cX10_oneDay 54 = .ok (.ifCond .ne 27, 3) := by decide +kernel
theorem dX10_oneDay_57 : decode cX10_oneDay 57 = .ok (.iload_n 1, 1) := by decide +kernel
theorem dX10_oneDay_58 : decode cX10_oneDay 58 = .ok (.ifCond .ne 18, 3) := by decide +kernel
theorem dX10_oneDay_61 : decode cX10_oneDay 61 = .ok (.aload_n 0, 1) := by decide +kernel
theorem dX10_oneDay_62 : decode cX10_oneDay 62 = .ok (.bipush 10, 2) := by decide +kernel
theorem dX10_oneDay_64 : decode cX10_oneDay 64 = .ok (.invokevirtual 376, 3) := by decide +kernel
theorem dX10_oneDay_67 : decode cX10_oneDay 67 = .ok (.aload_n 0, 1) := by decide +kernel
theorem dX10_oneDay_68 : decode cX10_oneDay 68 = .ok (.iload_n 2, 1) := by decide +kernel
theorem dX10_oneDay_69 : decode cX10_oneDay 69 = .ok (.iconst 5, 1) := by decide +kernel
theorem dX10_oneDay_70 : decode cX10_oneDay 70 = .ok (.invokevirtual 236, 3) := by decide +kernel
theorem dX10_oneDay_73 : decode cX10_oneDay 73 = .ok (.if_icmp .lt 8, 3) := by decide +kernel
theorem dX10_oneDay_76 : decode cX10_oneDay 76 = .ok (.aload_n 0, 1) := by decide +kernel
theorem dX10_oneDay_77 : decode cX10_oneDay 77 = .ok (.iload_n 2, 1) := by decide +kernel
theorem dX10_oneDay_78 : decode cX10_oneDay 78 = .ok (.invokevirtual 379, 3) := by decide +kernel
theorem dX10_oneDay_81 : decode cX10_oneDay 81 = .ok (.iinc 2 1, 3) := by decide +kernel
theorem dX10_oneDay_84 : decode cX10_oneDay 84 = .ok (.goto (-45), 3) := by decide +kernel
theorem dX10_oneDay_87 : decode cX10_oneDay 87 = .ok (.aload_n 0, 1) := by decide +kernel
theorem dX10_oneDay_88 : decode cX10_oneDay 88 = .ok (.invokevirtual 382, 3) := by decide +kernel
theorem dX10_oneDay_91 : decode cX10_oneDay 91 = .ok (.aload_n 0, 1) := by decide +kernel
theorem dX10_oneDay_92 : decode cX10_oneDay 92 = .ok (.getfield 13, 3) := by decide +kernel
theorem dX10_oneDay_95 : decode cX10_oneDay 95 = .ok (.iconst 4, 1) := by decide +kernel
theorem dX10_oneDay_96 : decode cX10_oneDay 96 = .ok (.sipush 9999, 3) := by decide +kernel
theorem dX10_oneDay_99 : decode cX10_oneDay 99 = .ok (.aload_n 0, 1) := by decide +kernel
theorem dX10_oneDay_100 : decode cX10_oneDay 100 = .ok (.getfield 13, 3) := by decide +kernel
theorem dX10_oneDay_103 : decode cX10_oneDay 103 = .ok (.iconst 4, 1) := by decide +kernel
theorem dX10_oneDay_104 : decode cX10_oneDay 104 = .ok (.iaload, 1) := by decide +kernel
theorem dX10_oneDay_105 : decode cX10_oneDay 105 = .ok (.iconst 1, 1) := by decide +kernel
theorem dX10_oneDay_106 : decode cX10_oneDay 106 = .ok (.iadd, 1) := by decide +kernel
theorem dX10_oneDay_107 : decode cX10_oneDay 107 = .ok (.invokestatic 244, 3) := by decide +kernel
theorem dX10_oneDay_110 : decode cX10_oneDay 110 = .ok (.iastore, 1) := by decide +kernel
theorem dX10_oneDay_111 : decode cX10_oneDay 111 = .ok (.return_, 1) := by decide +kernel
noncomputable def fX10_oneDay_L2 (V : VT) (u1 : Int32) (u2 : Int32) : Option ((VT × Int32 × Int32) ⊕ (VT × Int32)) := ob_R (fX10_deeds V ) fun y2 => if y2 ≤ u2 then (some (.inr ((V, u1)))) else (ob_R (fX10_isSo V u2) fun y4 => if y4 = 0 then (ob_R (fX10_isFree V u2) fun y7 => if y7 = 0 then (lt_ (u2 + (1 : Int32)) fun y8 => some (.inl (V, u1, y8))) else (ob_R (fX10_isDone V u2) fun V10 => lt_ (u2 + (1 : Int32)) fun y11 => some (.inl (V10, u1, y11)))) else (lt_ (u2 + (1 : Int32)) fun y5 => some (.inl (V, u1, y5))))
noncomputable def iX10_oneDay_L2 : (VT × Int32 × Int32) → Option ((VT × Int32 × Int32) ⊕ (VT × Int32)) := fun q => fX10_oneDay_L2 (q.1) (q.2.1) (q.2.2)
noncomputable def fX10_oneDay_L39 (V : VT) (u1 : Int32) (u2 : Int32) : Option ((VT × Int32 × Int32) ⊕ VT) := ob_R (fX10_houses V ) fun y20 => if y20 ≤ u2 then (some (.inr (V))) else (ob_R (fX10_of V u2 (7 : Int32)) fun y22 => if y22 = 0 then (if u1 = 0 then (ob_I (fX10_drawn V (10 : Int32)) fun y28 V29 => ob_R (fX10_of V29 u2 (5 : Int32)) fun y31 => if y28 < y31 then (lt_ (u2 + (1 : Int32)) fun y32 => some (.inl (V29, u1, y32))) else (ob_R (fX10_speaks V29 u2) fun V34 => lt_ (u2 + (1 : Int32)) fun y35 => some (.inl (V34, u1, y35)))) else (ob_R (fX10_speaks V u2) fun V25 => lt_ (u2 + (1 : Int32)) fun y26 => some (.inl (V25, u1, y26)))) else (lt_ (u2 + (1 : Int32)) fun y23 => some (.inl (V, u1, y23))))
noncomputable def iX10_oneDay_L39 : (VT × Int32 × Int32) → Option ((VT × Int32 × Int32) ⊕ VT) := fun q => fX10_oneDay_L39 (q.1) (q.2.1) (q.2.2)
noncomputable def fX10_oneDay (V : VT) (x1 : Int32) : Option VT := ob_R (it_ (iX10_oneDay_L2) FV (V, x1, (0 : Int32))) fun x16 => (dt2_ x16 fun V18 y17 => ob_R (it_ (iX10_oneDay_L39) FV (V18, y17, (0 : Int32))) fun x41 => (lt_ x41 fun V42 => ob_R (fX10_asks V42 ) fun V44 => rd_ (4 : Int32) 1988 (rd_ (4 : Int32) 1988 (lt_ (va_up V44 76 (upd (V44 76) (4 : Int32).toNatClampNeg (if ((V44 76 (4 : Int32).toNatClampNeg) + (1 : Int32)) < (9999 : Int32) then ((V44 76 (4 : Int32).toNatClampNeg) + (1 : Int32)) else (9999 : Int32)))) fun V47 => some V47))))
set_option maxHeartbeats 4000000 in
set_option maxRecDepth 100000 in
theorem wX10_oneDay_L2 {p : Program} {l : Launch} {e : Env} {s : State} {m : MethodId} {args : Array Value} {below : List Frame} {meth : Method} {c : Code} {G : GT} {B : BGt} {Q : State → Prop} (E : En p s m args c meth cX10_oneDay 3 RX10 none G B) {x : (VT × Int32)} (ke : ∀ q : (VT × Int32), x = q → ∀ (H : Heap) (locs : List Loc) (ls : Array Slot), HW G s.heap (q.1) H locs → lv_has ls 3 [(0, .ref (G.2.2 22)), (1, .int (q.2))] → W p l e (rmD 14) s m args below meth c H locs 0 0 Q (F0 m 37 ls [])) : ∀ (n : Nat) (q : (VT × Int32 × Int32)), it_ (iX10_oneDay_L2) n q = some x → ∀ (H : Heap) (locs : List Loc) (ls : Array Slot), HW G s.heap (q.1) H locs → lv_has ls 3 [(0, .ref (G.2.2 22)), (1, .int (q.2.1)), (2, .int (q.2.2))] → W p l e (rmD 14) s m args below meth c H locs 0 0 Q (F0 m 2 ls []) := by
  have hx := en_x E
  have hb := en_b E
  have hB := en_B E
  refine it_W (fun q : (VT × Int32 × Int32) => ∀ (H : Heap) (locs : List Loc) (ls : Array Slot), HW G s.heap (q.1) H locs → lv_has ls 3 [(0, .ref (G.2.2 22)), (1, .int (q.2.1)), (2, .int (q.2.2))] → W p l e (rmD 14) s m args below meth c H locs 0 0 Q (F0 m 2 ls [])) x ?_
  intro q r h kc kx
  obtain ⟨V, u1, u2⟩ := q
  intro H locs ls hw hl
  have h : fX10_oneDay_L2 V u1 u2 = some r := h
  have hw : HW G s.heap V H locs := hw
  have hl : lv_has ls 3 [(0, .ref (G.2.2 22)), (1, .int u1), (2, .int u2)] := hl
  have ke : ∀ q : (VT × Int32), r = .inr (q) → ∀ (H : Heap) (locs : List Loc) (ls : Array Slot), HW G s.heap (q.1) H locs → lv_has ls 3 [(0, .ref (G.2.2 22)), (1, .int (q.2))] → W p l e (rmD 14) s m args below meth c H locs 0 0 Q (F0 m 37 ls []) := fun q e => ke q (kx _ e).symm
  unfold fX10_oneDay_L2 at h
  refine lv_iload_n hx hb dX10_oneDay_2 rfl (lv_at hl 2 rfl) ?_
  refine lv_aload_n hx hb dX10_oneDay_3 rfl (lv_at hl 0 rfl) ?_
  obtain ⟨y2, h1, h⟩ := ob_R_some h
  refine c_VI E hw (kX10_deeds (l := l) (G := G) hB  h1) yy_X10_deeds lm_RX10_80 rfl (by decide) rfl rfl hl.1 (by decide) (by decide) rfl (Nat.le_of_ble_eq_true rfl) dX10_oneDay_4 (fun H locs hw => ?_)
  refine lv_icmp_ge (tgt := 37) hx hb dX10_oneDay_7 (by decide) (fun c14 => ?_) (fun c14 => ?_)
  · rw [if_pos c14] at h
    exact ke (V, u1) (Option.some.inj h).symm H locs ls hw (lv_sub hl [0, 1] rfl)
  · rw [if_neg c14] at h
    refine lv_aload_n hx hb dX10_oneDay_10 rfl (lv_at hl 0 rfl) ?_
    refine lv_iload_n hx hb dX10_oneDay_11 rfl (lv_at hl 2 rfl) ?_
    obtain ⟨y4, h3, h⟩ := ob_R_some h
    refine c_VI E hw (kX10_isSo (l := l) (G := G) hB  h3) yy_X10_isSo lm_RX10_340 rfl (by decide) rfl rfl hl.1 (by decide) (by decide) rfl (Nat.le_of_ble_eq_true rfl) dX10_oneDay_12 (fun H locs hw => ?_)
    refine lv_if_ne (tgt := 31) hx hb dX10_oneDay_15 (by decide) (fun c13 => ?_) (fun c13 => ?_)
    · rw [if_neg c13] at h
      obtain ⟨y5, ey5, h⟩ := lt_some h
      refine lv_iinc (v := y5) (lv' := [(2, .int y5), (0, .ref (G.2.2 22)), (1, .int u1)]) hx hb dX10_oneDay_31 hl (k := 2) rfl (by rw [ey5]; rfl) (by decide) rfl (fun ls hl => ?_)
      refine lv_goto (tgt := 2) hx hb dX10_oneDay_34 (by decide) ?_
      exact kc (V, u1, y5) (Option.some.inj h).symm H locs ls hw (lv_sub hl [1, 2, 0] rfl)
    · rw [if_pos c13] at h
      refine lv_aload_n hx hb dX10_oneDay_18 rfl (lv_at hl 0 rfl) ?_
      refine lv_iload_n hx hb dX10_oneDay_19 rfl (lv_at hl 2 rfl) ?_
      obtain ⟨y7, h6, h⟩ := ob_R_some h
      refine c_VI E hw (kX10_isFree (l := l) (G := G) hB  h6) yy_X10_isFree lm_RX10_367 rfl (by decide) rfl rfl hl.1 (by decide) (by decide) rfl (Nat.le_of_ble_eq_true rfl) dX10_oneDay_20 (fun H locs hw => ?_)
      refine lv_if_eq (tgt := 31) hx hb dX10_oneDay_23 (by decide) (fun c12 => ?_) (fun c12 => ?_)
      · rw [if_pos c12] at h
        obtain ⟨y8, ey8, h⟩ := lt_some h
        refine lv_iinc (v := y8) (lv' := [(2, .int y8), (0, .ref (G.2.2 22)), (1, .int u1)]) hx hb dX10_oneDay_31 hl (k := 2) rfl (by rw [ey8]; rfl) (by decide) rfl (fun ls hl => ?_)
        refine lv_goto (tgt := 2) hx hb dX10_oneDay_34 (by decide) ?_
        exact kc (V, u1, y8) (Option.some.inj h).symm H locs ls hw (lv_sub hl [1, 2, 0] rfl)
      · rw [if_neg c12] at h
        refine lv_aload_n hx hb dX10_oneDay_26 rfl (lv_at hl 0 rfl) ?_
        refine lv_iload_n hx hb dX10_oneDay_27 rfl (lv_at hl 2 rfl) ?_
        obtain ⟨V10, h9, h⟩ := ob_R_some h
        refine c_VV E hw (kX10_isDone (l := l) (G := G) hB  h9) yy_X10_isDone lm_RX10_373 rfl (by decide) rfl rfl hl.1 (by decide) (by decide) rfl (Nat.le_of_ble_eq_true rfl) dX10_oneDay_28 (fun H locs hw => ?_)
        obtain ⟨y11, ey11, h⟩ := lt_some h
        refine lv_iinc (v := y11) (lv' := [(2, .int y11), (0, .ref (G.2.2 22)), (1, .int u1)]) hx hb dX10_oneDay_31 hl (k := 2) rfl (by rw [ey11]; rfl) (by decide) rfl (fun ls hl => ?_)
        refine lv_goto (tgt := 2) hx hb dX10_oneDay_34 (by decide) ?_
        exact kc (V10, u1, y11) (Option.some.inj h).symm H locs ls hw (lv_sub hl [1, 2, 0] rfl)
set_option maxHeartbeats 4000000 in
set_option maxRecDepth 100000 in
theorem wX10_oneDay_L39 {p : Program} {l : Launch} {e : Env} {s : State} {m : MethodId} {args : Array Value} {below : List Frame} {meth : Method} {c : Code} {G : GT} {B : BGt} {Q : State → Prop} (E : En p s m args c meth cX10_oneDay 3 RX10 none G B) {x : VT} (ke : ∀ q : VT, x = q → ∀ (H : Heap) (locs : List Loc) (ls : Array Slot), HW G s.heap q H locs → lv_has ls 3 [(0, .ref (G.2.2 22))] → W p l e (rmD 14) s m args below meth c H locs 0 0 Q (F0 m 87 ls [])) : ∀ (n : Nat) (q : (VT × Int32 × Int32)), it_ (iX10_oneDay_L39) n q = some x → ∀ (H : Heap) (locs : List Loc) (ls : Array Slot), HW G s.heap (q.1) H locs → lv_has ls 3 [(0, .ref (G.2.2 22)), (1, .int (q.2.1)), (2, .int (q.2.2))] → W p l e (rmD 14) s m args below meth c H locs 0 0 Q (F0 m 39 ls []) := by
  have hx := en_x E
  have hb := en_b E
  have hB := en_B E
  refine it_W (fun q : (VT × Int32 × Int32) => ∀ (H : Heap) (locs : List Loc) (ls : Array Slot), HW G s.heap (q.1) H locs → lv_has ls 3 [(0, .ref (G.2.2 22)), (1, .int (q.2.1)), (2, .int (q.2.2))] → W p l e (rmD 14) s m args below meth c H locs 0 0 Q (F0 m 39 ls [])) x ?_
  intro q r h kc kx
  obtain ⟨V, u1, u2⟩ := q
  intro H locs ls hw hl
  have h : fX10_oneDay_L39 V u1 u2 = some r := h
  have hw : HW G s.heap V H locs := hw
  have hl : lv_has ls 3 [(0, .ref (G.2.2 22)), (1, .int u1), (2, .int u2)] := hl
  have ke : ∀ q : VT, r = .inr (q) → ∀ (H : Heap) (locs : List Loc) (ls : Array Slot), HW G s.heap q H locs → lv_has ls 3 [(0, .ref (G.2.2 22))] → W p l e (rmD 14) s m args below meth c H locs 0 0 Q (F0 m 87 ls []) := fun q e => ke q (kx _ e).symm
  unfold fX10_oneDay_L39 at h
  refine lv_iload_n hx hb dX10_oneDay_39 rfl (lv_at hl 2 rfl) ?_
  refine lv_aload_n hx hb dX10_oneDay_40 rfl (lv_at hl 0 rfl) ?_
  obtain ⟨y20, h19, h⟩ := ob_R_some h
  refine c_VI E hw (kX10_houses (l := l) (G := G) hB  h19) yy_X10_houses lm_RX10_62 rfl (by decide) rfl rfl hl.1 (by decide) (by decide) rfl (Nat.le_of_ble_eq_true rfl) dX10_oneDay_41 (fun H locs hw => ?_)
  refine lv_icmp_ge (tgt := 87) hx hb dX10_oneDay_44 (by decide) (fun c39 => ?_) (fun c39 => ?_)
  · rw [if_pos c39] at h
    exact ke V (Option.some.inj h).symm H locs ls hw (lv_sub hl [0] rfl)
  · rw [if_neg c39] at h
    refine lv_aload_n hx hb dX10_oneDay_47 rfl (lv_at hl 0 rfl) ?_
    refine lv_iload_n hx hb dX10_oneDay_48 rfl (lv_at hl 2 rfl) ?_
    refine lv_bipush (v := (7 : Int32)) hx hb dX10_oneDay_49 (by decide) ?_
    obtain ⟨y22, h21, h⟩ := ob_R_some h
    refine c_VI E hw (kX10_of (l := l) (G := G) hB  h21) yy_X10_of lm_RX10_236 rfl (by decide) rfl rfl hl.1 (by decide) (by decide) rfl (Nat.le_of_ble_eq_true rfl) dX10_oneDay_51 (fun H locs hw => ?_)
    refine lv_if_ne (tgt := 81) hx hb dX10_oneDay_54 (by decide) (fun c38 => ?_) (fun c38 => ?_)
    · rw [if_neg c38] at h
      obtain ⟨y23, ey23, h⟩ := lt_some h
      refine lv_iinc (v := y23) (lv' := [(2, .int y23), (0, .ref (G.2.2 22)), (1, .int u1)]) hx hb dX10_oneDay_81 hl (k := 2) rfl (by rw [ey23]; rfl) (by decide) rfl (fun ls hl => ?_)
      refine lv_goto (tgt := 39) hx hb dX10_oneDay_84 (by decide) ?_
      exact kc (V, u1, y23) (Option.some.inj h).symm H locs ls hw (lv_sub hl [1, 2, 0] rfl)
    · rw [if_pos c38] at h
      refine lv_iload_n hx hb dX10_oneDay_57 rfl (lv_at hl 1 rfl) ?_
      refine lv_if_ne (tgt := 76) hx hb dX10_oneDay_58 (by decide) (fun c37 => ?_) (fun c37 => ?_)
      · rw [if_neg c37] at h
        refine lv_aload_n hx hb dX10_oneDay_76 rfl (lv_at hl 0 rfl) ?_
        refine lv_iload_n hx hb dX10_oneDay_77 rfl (lv_at hl 2 rfl) ?_
        obtain ⟨V25, h24, h⟩ := ob_R_some h
        refine c_VV E hw (kX10_speaks (l := l) (G := G) hB  h24) yy_X10_speaks lm_RX10_379 rfl (by decide) rfl rfl hl.1 (by decide) (by decide) rfl (Nat.le_of_ble_eq_true rfl) dX10_oneDay_78 (fun H locs hw => ?_)
        obtain ⟨y26, ey26, h⟩ := lt_some h
        refine lv_iinc (v := y26) (lv' := [(2, .int y26), (0, .ref (G.2.2 22)), (1, .int u1)]) hx hb dX10_oneDay_81 hl (k := 2) rfl (by rw [ey26]; rfl) (by decide) rfl (fun ls hl => ?_)
        refine lv_goto (tgt := 39) hx hb dX10_oneDay_84 (by decide) ?_
        exact kc (V25, u1, y26) (Option.some.inj h).symm H locs ls hw (lv_sub hl [1, 2, 0] rfl)
      · rw [if_pos c37] at h
        refine lv_aload_n hx hb dX10_oneDay_61 rfl (lv_at hl 0 rfl) ?_
        refine lv_bipush (v := (10 : Int32)) hx hb dX10_oneDay_62 (by decide) ?_
        obtain ⟨y28, V29, h27, h⟩ := ob_I_some h
        refine c_VI E hw (kX10_drawn (l := l) (G := G) hB  h27) yy_X10_drawn lm_RX10_376 rfl (by decide) rfl rfl hl.1 (by decide) (by decide) rfl (Nat.le_of_ble_eq_true rfl) dX10_oneDay_64 (fun H locs hw => ?_)
        refine lv_aload_n hx hb dX10_oneDay_67 rfl (lv_at hl 0 rfl) ?_
        refine lv_iload_n hx hb dX10_oneDay_68 rfl (lv_at hl 2 rfl) ?_
        refine lv_iconst (v := (5 : Int32)) hx hb dX10_oneDay_69 (by decide) ?_
        obtain ⟨y31, h30, h⟩ := ob_R_some h
        refine c_VI E hw (kX10_of (l := l) (G := G) hB  h30) yy_X10_of lm_RX10_236 rfl (by decide) rfl rfl hl.1 (by decide) (by decide) rfl (Nat.le_of_ble_eq_true rfl) dX10_oneDay_70 (fun H locs hw => ?_)
        refine lv_icmp_lt (tgt := 81) hx hb dX10_oneDay_73 (by decide) (fun c36 => ?_) (fun c36 => ?_)
        · rw [if_pos c36] at h
          obtain ⟨y32, ey32, h⟩ := lt_some h
          refine lv_iinc (v := y32) (lv' := [(2, .int y32), (0, .ref (G.2.2 22)), (1, .int u1)]) hx hb dX10_oneDay_81 hl (k := 2) rfl (by rw [ey32]; rfl) (by decide) rfl (fun ls hl => ?_)
          refine lv_goto (tgt := 39) hx hb dX10_oneDay_84 (by decide) ?_
          exact kc (V29, u1, y32) (Option.some.inj h).symm H locs ls hw (lv_sub hl [1, 2, 0] rfl)
        · rw [if_neg c36] at h
          refine lv_aload_n hx hb dX10_oneDay_76 rfl (lv_at hl 0 rfl) ?_
          refine lv_iload_n hx hb dX10_oneDay_77 rfl (lv_at hl 2 rfl) ?_
          obtain ⟨V34, h33, h⟩ := ob_R_some h
          refine c_VV E hw (kX10_speaks (l := l) (G := G) hB  h33) yy_X10_speaks lm_RX10_379 rfl (by decide) rfl rfl hl.1 (by decide) (by decide) rfl (Nat.le_of_ble_eq_true rfl) dX10_oneDay_78 (fun H locs hw => ?_)
          obtain ⟨y35, ey35, h⟩ := lt_some h
          refine lv_iinc (v := y35) (lv' := [(2, .int y35), (0, .ref (G.2.2 22)), (1, .int u1)]) hx hb dX10_oneDay_81 hl (k := 2) rfl (by rw [ey35]; rfl) (by decide) rfl (fun ls hl => ?_)
          refine lv_goto (tgt := 39) hx hb dX10_oneDay_84 (by decide) ?_
          exact kc (V34, u1, y35) (Option.some.inj h).symm H locs ls hw (lv_sub hl [1, 2, 0] rfl)
set_option maxHeartbeats 4000000 in
set_option maxRecDepth 100000 in
theorem kX10_oneDay {l : Launch} {G : GT} {B : BGt} (hB : BGok B) {V : VT} {x1 : Int32} {r : VT} (h : fX10_oneDay V x1 = some r) : CV l G B yX10_oneDay (.code yX10_oneDay cX10_oneDay 3 none) 14 [.ref (G.2.2 22), .int x1] V r := by
  intro sz
  refine met_of (Qs := fun sz => QV G sz r) hB (by decide) (Nat.le_of_ble_eq_true rfl) ?_ sz
  intro p e s m args below meth c ls E hw hl
  have hx := en_x E
  have hb := en_b E
  generalize hQ : MQ _ _ _ _ _ _ _ = Q
  have kr : Q = MQ below (QV G s.heap.size r) args s 0 0 (gA G s.heap.size) := hQ.symm
  have hl : lv_has ls 3 [(0, .ref (G.2.2 22)), (1, .int x1)] := hl
  obtain ⟨H, eH⟩ : ∃ H, H = s.heap := ⟨_, rfl⟩
  obtain ⟨locs, elocs⟩ : ∃ z : List Loc, z = [] := ⟨_, rfl⟩
  have hw : HW G s.heap V H locs := by rw [eH, elocs]; exact hw
  show W p l e _ s m args below meth c s.heap [] 0 0 Q (F0 m 0 ls [])
  rw [← eH, ← elocs]
  unfold fX10_oneDay at h
  refine lv_iconst (v := (0 : Int32)) hx hb dX10_oneDay_0 (by decide) ?_
  refine lv_istore_n (lv' := [(2, .int (0 : Int32)), (0, .ref (G.2.2 22)), (1, .int x1)]) hx hb dX10_oneDay_1 rfl hl (by decide) rfl (fun ls hl => ?_)
  obtain ⟨x16, h15, h⟩ := ob_R_some h
  obtain ⟨V18, y17⟩ := x16
  refine wX10_oneDay_L2 E (fun q e H locs ls hw hl => ?_) FV (V, x1, (0 : Int32)) h15 H locs ls hw (lv_sub hl [1, 2, 0] rfl)
  subst e
  have hw : HW G s.heap V18 H locs := hw
  have hl : lv_has ls 3 [(0, .ref (G.2.2 22)), (1, .int y17)] := hl
  have h := dt2_eq h
  refine lv_iconst (v := (0 : Int32)) hx hb dX10_oneDay_37 (by decide) ?_
  refine lv_istore_n (lv' := [(2, .int (0 : Int32)), (0, .ref (G.2.2 22)), (1, .int y17)]) hx hb dX10_oneDay_38 rfl hl (by decide) rfl (fun ls hl => ?_)
  obtain ⟨x41, h40, h⟩ := ob_R_some h
  obtain ⟨V42, rfl⟩ : ∃ z, z = x41 := ⟨_, rfl⟩
  refine wX10_oneDay_L39 E (fun q e H locs ls hw hl => ?_) FV (V18, y17, (0 : Int32)) h40 H locs ls hw (lv_sub hl [1, 2, 0] rfl)
  subst e
  have hw : HW G s.heap V42 H locs := hw
  have hl : lv_has ls 3 [(0, .ref (G.2.2 22))] := hl
  have h := lt_eq h
  refine lv_aload_n hx hb dX10_oneDay_87 rfl (lv_at hl 0 rfl) ?_
  obtain ⟨V44, h43, h⟩ := ob_R_some h
  refine c_VV E hw (kX10_asks (l := l) (G := G) hB  h43) yy_X10_asks lm_RX10_382 rfl (by decide) rfl rfl hl.1 (by decide) (by decide) rfl (Nat.le_of_ble_eq_true rfl) dX10_oneDay_88 (fun H locs hw => ?_)
  refine lv_aload_n hx hb dX10_oneDay_91 rfl (lv_at hl 0 rfl) ?_
  refine r_gr E hw 22 1 76 (N := 29) (C := RX10) (T := TX10) (by decide) rfl rfl (by decide) rfl iw_10 rfl lf_RX10_13 dX10_oneDay_92 ?_
  refine lv_iconst (v := (4 : Int32)) hx hb dX10_oneDay_95 (by decide) ?_
  refine lv_sipush (v := (9999 : Int32)) hx hb dX10_oneDay_96 (by decide) ?_
  refine lv_aload_n hx hb dX10_oneDay_99 rfl (lv_at hl 0 rfl) ?_
  refine r_gr E hw 22 1 76 (N := 29) (C := RX10) (T := TX10) (by decide) rfl rfl (by decide) rfl iw_10 rfl lf_RX10_13 dX10_oneDay_100 ?_
  refine lv_iconst (v := (4 : Int32)) hx hb dX10_oneDay_103 (by decide) ?_
  obtain ⟨b45, h⟩ := rd_some h
  refine r_ia E hw 76 1988 (by decide) (by decide) (by decide) rfl rfl b45 dX10_oneDay_104 ?_
  refine lv_iconst (v := (1 : Int32)) hx hb dX10_oneDay_105 (by decide) ?_
  refine lv_iadd hx hb dX10_oneDay_106 ?_
  refine r_min E hl.1 lm_RX10_244 (by decide) (Nat.le_of_ble_eq_true rfl) dX10_oneDay_107 ?_
  obtain ⟨b46, h⟩ := rd_some h
  obtain ⟨V47, eV47, h⟩ := lt_some h
  refine r_is E hw 76 1988 (by decide) (by decide) (by decide) rfl rfl b46 eV47 dX10_oneDay_110 (fun H locs hw => ?_)
  have h := Option.some.inj h
  subst h
  rw [kr]
  exact r_rv E hw dX10_oneDay_111
/-! ===== AllSawItModel.drawnDay()V ===== -/
theorem dX10_drawnDay_0 : decode cX10_drawnDay 0 = .ok (.aload_n 0, 1) := by decide +kernel
theorem dX10_drawnDay_1 : decode cX10_drawnDay 1 = .ok (.getfield 13, 3) := by decide +kernel
theorem dX10_drawnDay_4 : decode cX10_drawnDay 4 = .ok (.iconst 5, 1) := by decide +kernel
theorem dX10_drawnDay_5 : decode cX10_drawnDay 5 = .ok (.aload_n 0, 1) := by decide +kernel
theorem dX10_drawnDay_6 : decode cX10_drawnDay 6 = .ok (.getfield 13, 3) := by decide +kernel
theorem dX10_drawnDay_9 : decode cX10_drawnDay 9 = .ok (.bipush 6, 2) := by decide +kernel
theorem dX10_drawnDay_11 : decode cX10_drawnDay 11 = .ok (.iaload, 1) := by decide +kernel
theorem dX10_drawnDay_12 : decode cX10_drawnDay 12 = .ok (.aload_n 0, 1) := by decide +kernel
theorem dX10_drawnDay_13 : decode cX10_drawnDay 13 = .ok (.bipush 10, 2) := by decide +kernel
theorem dX10_drawnDay_15 : decode cX10_drawnDay 15 = .ok (.invokevirtual 376, 3) := by decide +kernel
theorem dX10_drawnDay_18 : decode cX10_drawnDay 18 = .ok (.invokestatic 244, 3) := by decide +kernel
theorem dX10_drawnDay_21 : decode cX10_drawnDay 21 = .ok (.iastore, 1) := by decide +kernel
theorem dX10_drawnDay_22 : decode cX10_drawnDay 22 = .ok (.aload_n 0, 1) := by decide +kernel
theorem dX10_drawnDay_23 : decode cX10_drawnDay 23 = .ok (.iconst 0, 1) := by decide +kernel
theorem dX10_drawnDay_24 : decode cX10_drawnDay 24 = .ok (.invokevirtual 385, 3) := by decide +kernel
theorem dX10_drawnDay_27 : decode cX10_drawnDay 27 = .ok (.return_, 1) := by decide +kernel
noncomputable def fX10_drawnDay (V : VT) : Option VT := rd_ (6 : Int32) 1988 (ob_I (fX10_drawn V (10 : Int32)) fun y3 V4 => rd_ (5 : Int32) 1988 (lt_ (va_up V4 76 (upd (V4 76) (5 : Int32).toNatClampNeg (if y3 < (V 76 (6 : Int32).toNatClampNeg) then y3 else (V 76 (6 : Int32).toNatClampNeg)))) fun V6 => ob_R (fX10_oneDay V6 (0 : Int32)) fun V8 => some V8))
set_option maxHeartbeats 4000000 in
set_option maxRecDepth 100000 in
theorem kX10_drawnDay {l : Launch} {G : GT} {B : BGt} (hB : BGok B) {V : VT} {r : VT} (h : fX10_drawnDay V = some r) : CV l G B yX10_drawnDay (.code yX10_drawnDay cX10_drawnDay 1 none) 15 [.ref (G.2.2 22)] V r := by
  intro sz
  refine met_of (Qs := fun sz => QV G sz r) hB (by decide) (Nat.le_of_ble_eq_true rfl) ?_ sz
  intro p e s m args below meth c ls E hw hl
  have hx := en_x E
  have hb := en_b E
  generalize hQ : MQ _ _ _ _ _ _ _ = Q
  have kr : Q = MQ below (QV G s.heap.size r) args s 0 0 (gA G s.heap.size) := hQ.symm
  have hl : lv_has ls 1 [(0, .ref (G.2.2 22))] := hl
  obtain ⟨H, eH⟩ : ∃ H, H = s.heap := ⟨_, rfl⟩
  obtain ⟨locs, elocs⟩ : ∃ z : List Loc, z = [] := ⟨_, rfl⟩
  have hw : HW G s.heap V H locs := by rw [eH, elocs]; exact hw
  show W p l e _ s m args below meth c s.heap [] 0 0 Q (F0 m 0 ls [])
  rw [← eH, ← elocs]
  unfold fX10_drawnDay at h
  refine lv_aload_n hx hb dX10_drawnDay_0 rfl (lv_at hl 0 rfl) ?_
  refine r_gr E hw 22 1 76 (N := 29) (C := RX10) (T := TX10) (by decide) rfl rfl (by decide) rfl iw_10 rfl lf_RX10_13 dX10_drawnDay_1 ?_
  refine lv_iconst (v := (5 : Int32)) hx hb dX10_drawnDay_4 (by decide) ?_
  refine lv_aload_n hx hb dX10_drawnDay_5 rfl (lv_at hl 0 rfl) ?_
  refine r_gr E hw 22 1 76 (N := 29) (C := RX10) (T := TX10) (by decide) rfl rfl (by decide) rfl iw_10 rfl lf_RX10_13 dX10_drawnDay_6 ?_
  refine lv_bipush (v := (6 : Int32)) hx hb dX10_drawnDay_9 (by decide) ?_
  obtain ⟨b1, h⟩ := rd_some h
  refine r_ia E hw 76 1988 (by decide) (by decide) (by decide) rfl rfl b1 dX10_drawnDay_11 ?_
  refine lv_aload_n hx hb dX10_drawnDay_12 rfl (lv_at hl 0 rfl) ?_
  refine lv_bipush (v := (10 : Int32)) hx hb dX10_drawnDay_13 (by decide) ?_
  obtain ⟨y3, V4, h2, h⟩ := ob_I_some h
  refine c_VI E hw (kX10_drawn (l := l) (G := G) hB  h2) yy_X10_drawn lm_RX10_376 rfl (by decide) rfl rfl hl.1 (by decide) (by decide) rfl (Nat.le_of_ble_eq_true rfl) dX10_drawnDay_15 (fun H locs hw => ?_)
  refine r_min E hl.1 lm_RX10_244 (by decide) (Nat.le_of_ble_eq_true rfl) dX10_drawnDay_18 ?_
  obtain ⟨b5, h⟩ := rd_some h
  obtain ⟨V6, eV6, h⟩ := lt_some h
  refine r_is E hw 76 1988 (by decide) (by decide) (by decide) rfl rfl b5 eV6 dX10_drawnDay_21 (fun H locs hw => ?_)
  refine lv_aload_n hx hb dX10_drawnDay_22 rfl (lv_at hl 0 rfl) ?_
  refine lv_iconst (v := (0 : Int32)) hx hb dX10_drawnDay_23 (by decide) ?_
  obtain ⟨V8, h7, h⟩ := ob_R_some h
  refine c_VV E hw (kX10_oneDay (l := l) (G := G) hB  h7) yy_X10_oneDay lm_RX10_385 rfl (by decide) rfl rfl hl.1 (by decide) (by decide) rfl (Nat.le_of_ble_eq_true rfl) dX10_drawnDay_24 (fun H locs hw => ?_)
  have h := Option.some.inj h
  subst h
  rw [kr]
  exact r_rv E hw dX10_drawnDay_27
/-! ===== AllSawItModel.calmDay(I)V ===== -/
theorem dX10_calmDay_0 : decode cX10_calmDay 0 = .ok (.aload_n 0, 1) := by decide +kernel
theorem dX10_calmDay_1 : decode cX10_calmDay 1 = .ok (.getfield 13, 3) := by decide +kernel
theorem dX10_calmDay_4 : decode cX10_calmDay 4 = .ok (.iconst 5, 1) := by decide +kernel
theorem dX10_calmDay_5 : decode cX10_calmDay 5 = .ok (.iload_n 1, 1) := by decide +kernel
theorem dX10_calmDay_6 : decode cX10_calmDay 6 = .ok (.iastore, 1) := by decide +kernel
theorem dX10_calmDay_7 : decode cX10_calmDay 7 = .ok (.aload_n 0, 1) := by decide +kernel
theorem dX10_calmDay_8 : decode cX10_calmDay 8 = .ok (.iconst 1, 1) := by decide +kernel
theorem dX10_calmDay_9 : decode cX10_calmDay 9 = .ok (.invokevirtual 385, 3) := by decide +kernel
theorem dX10_calmDay_12 : decode cX10_calmDay 12 = .ok (.return_, 1) := by decide +kernel
noncomputable def fX10_calmDay (V : VT) (x1 : Int32) : Option VT := rd_ (5 : Int32) 1988 (lt_ (va_up V 76 (upd (V 76) (5 : Int32).toNatClampNeg x1)) fun V2 => ob_R (fX10_oneDay V2 (1 : Int32)) fun V4 => some V4)
set_option maxHeartbeats 4000000 in
set_option maxRecDepth 100000 in
theorem kX10_calmDay {l : Launch} {G : GT} {B : BGt} (hB : BGok B) {V : VT} {x1 : Int32} {r : VT} (h : fX10_calmDay V x1 = some r) : CV l G B yX10_calmDay (.code yX10_calmDay cX10_calmDay 2 none) 15 [.ref (G.2.2 22), .int x1] V r := by
  intro sz
  refine met_of (Qs := fun sz => QV G sz r) hB (by decide) (Nat.le_of_ble_eq_true rfl) ?_ sz
  intro p e s m args below meth c ls E hw hl
  have hx := en_x E
  have hb := en_b E
  generalize hQ : MQ _ _ _ _ _ _ _ = Q
  have kr : Q = MQ below (QV G s.heap.size r) args s 0 0 (gA G s.heap.size) := hQ.symm
  have hl : lv_has ls 2 [(0, .ref (G.2.2 22)), (1, .int x1)] := hl
  obtain ⟨H, eH⟩ : ∃ H, H = s.heap := ⟨_, rfl⟩
  obtain ⟨locs, elocs⟩ : ∃ z : List Loc, z = [] := ⟨_, rfl⟩
  have hw : HW G s.heap V H locs := by rw [eH, elocs]; exact hw
  show W p l e _ s m args below meth c s.heap [] 0 0 Q (F0 m 0 ls [])
  rw [← eH, ← elocs]
  unfold fX10_calmDay at h
  refine lv_aload_n hx hb dX10_calmDay_0 rfl (lv_at hl 0 rfl) ?_
  refine r_gr E hw 22 1 76 (N := 29) (C := RX10) (T := TX10) (by decide) rfl rfl (by decide) rfl iw_10 rfl lf_RX10_13 dX10_calmDay_1 ?_
  refine lv_iconst (v := (5 : Int32)) hx hb dX10_calmDay_4 (by decide) ?_
  refine lv_iload_n hx hb dX10_calmDay_5 rfl (lv_at hl 1 rfl) ?_
  obtain ⟨b1, h⟩ := rd_some h
  obtain ⟨V2, eV2, h⟩ := lt_some h
  refine r_is E hw 76 1988 (by decide) (by decide) (by decide) rfl rfl b1 eV2 dX10_calmDay_6 (fun H locs hw => ?_)
  refine lv_aload_n hx hb dX10_calmDay_7 rfl (lv_at hl 0 rfl) ?_
  refine lv_iconst (v := (1 : Int32)) hx hb dX10_calmDay_8 (by decide) ?_
  obtain ⟨V4, h3, h⟩ := ob_R_some h
  refine c_VV E hw (kX10_oneDay (l := l) (G := G) hB  h3) yy_X10_oneDay lm_RX10_385 rfl (by decide) rfl rfl hl.1 (by decide) (by decide) rfl (Nat.le_of_ble_eq_true rfl) dX10_calmDay_9 (fun H locs hw => ?_)
  have h := Option.some.inj h
  subst h
  rw [kr]
  exact r_rv E hw dX10_calmDay_12
/-! ===== AllSawItModel.keepsAll()V ===== -/
theorem dX10_keepsAll_0 : decode cX10_keepsAll 0 = .ok (.iconst 0, 1) := by decide +kernel
theorem dX10_keepsAll_1 : decode cX10_keepsAll 1 = .ok (.istore_n 1, 1) := by decide +kernel
theorem dX10_keepsAll_2 : decode cX10_keepsAll 2 = .ok (.iload_n 1, 1) := by decide +kernel
theorem dX10_keepsAll_3 : decode cX10_keepsAll 3 = .ok (.sipush 314, 3) := by decide +kernel
theorem dX10_keepsAll_6 : decode cX10_keepsAll 6 = .ok (.if_icmp .ge 21, 3) := by decide +kernel
theorem dX10_keepsAll_9 : decode cX10_keepsAll 9 = .ok (.aload_n 0, 1) := by decide +kernel
theorem dX10_keepsAll_10 : decode cX10_keepsAll 10 = .ok (.getfield 23, 3) := by decide +kernel
theorem dX10_keepsAll_13 : decode cX10_keepsAll 13 = .ok (.iload_n 1, 1) := by decide +kernel
theorem dX10_keepsAll_14 : decode cX10_keepsAll 14 = .ok (.aload_n 0, 1) := by decide +kernel
theorem dX10_keepsAll_15 : decode cX10_keepsAll 15 = .ok (.getfield 13, 3) := by decide +kernel
theorem dX10_keepsAll_18 : decode cX10_keepsAll 18 = .ok (.iload_n 1, 1) := by decide +kernel
theorem dX10_keepsAll_19 : decode cX10_keepsAll 19 = .ok (.iaload, 1) := by decide +kernel
theorem dX10_keepsAll_20 : decode cX10_keepsAll 20 = .ok (.iastore, 1) := by decide +kernel
theorem dX10_keepsAll_21 : decode cX10_keepsAll 21 = .ok (.iinc 1 1, 3) := by decide +kernel
theorem dX10_keepsAll_24 : decode cX10_keepsAll 24 = .ok (.goto (-22), 3) := by decide +kernel
theorem dX10_keepsAll_27 : decode cX10_keepsAll 27 = .ok (.return_, 1) := by decide +kernel
noncomputable def fX10_keepsAll_L2 (V : VT) (u1 : Int32) : Option ((VT × Int32) ⊕ VT) := if (314 : Int32) ≤ u1 then (some (.inr (V))) else (rd_ u1 1988 (rd_ u1 314 (lt_ (va_up V 79 (upd (V 79) u1.toNatClampNeg (V 76 u1.toNatClampNeg))) fun V3 => lt_ (u1 + (1 : Int32)) fun y4 => some (.inl (V3, y4)))))
noncomputable def iX10_keepsAll_L2 : (VT × Int32) → Option ((VT × Int32) ⊕ VT) := fun q => fX10_keepsAll_L2 (q.1) (q.2)
noncomputable def fX10_keepsAll (V : VT) : Option VT := ob_R (it_ (iX10_keepsAll_L2) FV (V, (0 : Int32))) fun x7 => some x7
set_option maxHeartbeats 4000000 in
set_option maxRecDepth 100000 in
theorem wX10_keepsAll_L2 {p : Program} {l : Launch} {e : Env} {s : State} {m : MethodId} {args : Array Value} {below : List Frame} {meth : Method} {c : Code} {G : GT} {B : BGt} {Q : State → Prop} (E : En p s m args c meth cX10_keepsAll 2 RX10 none G B) {x : VT} (kr : ∀ q : VT, x = q → Q = MQ below (QV G s.heap.size q) args s 0 0 (gA G s.heap.size)) : ∀ (n : Nat) (q : (VT × Int32)), it_ (iX10_keepsAll_L2) n q = some x → ∀ (H : Heap) (locs : List Loc) (ls : Array Slot), HW G s.heap (q.1) H locs → lv_has ls 2 [(0, .ref (G.2.2 22)), (1, .int (q.2))] → W p l e (rmD 2) s m args below meth c H locs 0 0 Q (F0 m 2 ls []) := by
  have hx := en_x E
  have hb := en_b E
  have hB := en_B E
  refine it_W (fun q : (VT × Int32) => ∀ (H : Heap) (locs : List Loc) (ls : Array Slot), HW G s.heap (q.1) H locs → lv_has ls 2 [(0, .ref (G.2.2 22)), (1, .int (q.2))] → W p l e (rmD 2) s m args below meth c H locs 0 0 Q (F0 m 2 ls [])) x ?_
  intro q r h kc kx
  obtain ⟨V, u1⟩ := q
  intro H locs ls hw hl
  have h : fX10_keepsAll_L2 V u1 = some r := h
  have hw : HW G s.heap V H locs := hw
  have hl : lv_has ls 2 [(0, .ref (G.2.2 22)), (1, .int u1)] := hl
  have kr : ∀ q : VT, r = .inr (q) → Q = MQ below (QV G s.heap.size q) args s 0 0 (gA G s.heap.size) := fun q e => kr q (kx _ e).symm
  unfold fX10_keepsAll_L2 at h
  refine lv_iload_n hx hb dX10_keepsAll_2 rfl (lv_at hl 1 rfl) ?_
  refine lv_sipush (v := (314 : Int32)) hx hb dX10_keepsAll_3 (by decide) ?_
  refine lv_icmp_ge (tgt := 27) hx hb dX10_keepsAll_6 (by decide) (fun c5 => ?_) (fun c5 => ?_)
  · rw [if_pos c5] at h
    rw [kr V (Option.some.inj h).symm]
    exact r_rv E hw dX10_keepsAll_27
  · rw [if_neg c5] at h
    refine lv_aload_n hx hb dX10_keepsAll_9 rfl (lv_at hl 0 rfl) ?_
    refine r_gr E hw 22 4 79 (N := 29) (C := RX10) (T := TX10) (by decide) rfl rfl (by decide) rfl iw_10 rfl lf_RX10_23 dX10_keepsAll_10 ?_
    refine lv_iload_n hx hb dX10_keepsAll_13 rfl (lv_at hl 1 rfl) ?_
    refine lv_aload_n hx hb dX10_keepsAll_14 rfl (lv_at hl 0 rfl) ?_
    refine r_gr E hw 22 1 76 (N := 29) (C := RX10) (T := TX10) (by decide) rfl rfl (by decide) rfl iw_10 rfl lf_RX10_13 dX10_keepsAll_15 ?_
    refine lv_iload_n hx hb dX10_keepsAll_18 rfl (lv_at hl 1 rfl) ?_
    obtain ⟨b1, h⟩ := rd_some h
    refine r_ia E hw 76 1988 (by decide) (by decide) (by decide) rfl rfl b1 dX10_keepsAll_19 ?_
    obtain ⟨b2, h⟩ := rd_some h
    obtain ⟨V3, eV3, h⟩ := lt_some h
    refine r_is E hw 79 314 (by decide) (by decide) (by decide) rfl rfl b2 eV3 dX10_keepsAll_20 (fun H locs hw => ?_)
    obtain ⟨y4, ey4, h⟩ := lt_some h
    refine lv_iinc (v := y4) (lv' := [(1, .int y4), (0, .ref (G.2.2 22))]) hx hb dX10_keepsAll_21 hl (k := 1) rfl (by rw [ey4]; rfl) (by decide) rfl (fun ls hl => ?_)
    refine lv_goto (tgt := 2) hx hb dX10_keepsAll_24 (by decide) ?_
    exact kc (V3, y4) (Option.some.inj h).symm H locs ls hw (lv_sub hl [1, 0] rfl)
set_option maxHeartbeats 4000000 in
set_option maxRecDepth 100000 in
theorem kX10_keepsAll {l : Launch} {G : GT} {B : BGt} (hB : BGok B) {V : VT} {r : VT} (h : fX10_keepsAll V = some r) : CV l G B yX10_keepsAll (.code yX10_keepsAll cX10_keepsAll 2 none) 2 [.ref (G.2.2 22)] V r := by
  intro sz
  refine met_of (Qs := fun sz => QV G sz r) hB (by decide) (Nat.le_of_ble_eq_true rfl) ?_ sz
  intro p e s m args below meth c ls E hw hl
  have hx := en_x E
  have hb := en_b E
  generalize hQ : MQ _ _ _ _ _ _ _ = Q
  have kr : Q = MQ below (QV G s.heap.size r) args s 0 0 (gA G s.heap.size) := hQ.symm
  have hl : lv_has ls 2 [(0, .ref (G.2.2 22))] := hl
  obtain ⟨H, eH⟩ : ∃ H, H = s.heap := ⟨_, rfl⟩
  obtain ⟨locs, elocs⟩ : ∃ z : List Loc, z = [] := ⟨_, rfl⟩
  have hw : HW G s.heap V H locs := by rw [eH, elocs]; exact hw
  show W p l e _ s m args below meth c s.heap [] 0 0 Q (F0 m 0 ls [])
  rw [← eH, ← elocs]
  unfold fX10_keepsAll at h
  refine lv_iconst (v := (0 : Int32)) hx hb dX10_keepsAll_0 (by decide) ?_
  refine lv_istore_n (lv' := [(1, .int (0 : Int32)), (0, .ref (G.2.2 22))]) hx hb dX10_keepsAll_1 rfl hl (by decide) rfl (fun ls hl => ?_)
  obtain ⟨x7, h6, h⟩ := ob_R_some h
  have h := Option.some.inj h
  subst h
  exact wX10_keepsAll_L2 E (fun q e => by subst e; exact kr) FV (V, (0 : Int32)) h6 H locs ls hw (lv_sub hl [1, 0] rfl)
/-! ===== AllSawItModel.bringsBack()V ===== -/
theorem dX10_bringsBack_0 : decode cX10_bringsBack 0 = .ok (.iconst 0, 1) := by decide +kernel
theorem dX10_bringsBack_1 : decode cX10_bringsBack 1 = .ok (.istore_n 1, 1) := by decide +kernel
theorem dX10_bringsBack_2 : decode cX10_bringsBack 2 = .ok (.iload_n 1, 1) := by decide +kernel
theorem dX10_bringsBack_3 : decode cX10_bringsBack 3 = .ok (.sipush 314, 3) := by decide +kernel
theorem dX10_bringsBack_6 : decode cX10_bringsBack 6 = .ok (.if_icmp .ge 21, 3) := by decide +kernel
theorem dX10_bringsBack_9 : decode cX10_bringsBack 9 = .ok (.aload_n 0, 1) := by decide +kernel
theorem dX10_bringsBack_10 : decode cX10_bringsBack 10 = .ok (.getfield 13, 3) := by decide +kernel
theorem dX10_bringsBack_13 : decode cX10_bringsBack 13 = .ok (.iload_n 1, 1) := by decide +kernel
theorem dX10_bringsBack_14 : decode cX10_bringsBack 14 = .ok (.aload_n 0, 1) := by decide +kernel
theorem dX10_bringsBack_15 : decode cX10_bringsBack 15 = .ok (.getfield 23, 3) := by decide +kernel
theorem dX10_bringsBack_18 : decode cX10_bringsBack 18 = .ok (.iload_n 1, 1) := by decide +kernel
theorem dX10_bringsBack_19 : decode cX10_bringsBack 19 = .ok (.iaload, 1) := by decide +kernel
theorem dX10_bringsBack_20 : decode cX10_bringsBack 20 = .ok (.iastore, 1) := by decide +kernel
theorem dX10_bringsBack_21 : decode cX10_bringsBack 21 = .ok (.iinc 1 1, 3) := by decide +kernel
theorem dX10_bringsBack_24 : decode cX10_bringsBack 24 = .ok (.goto (-22), 3) := by decide +kernel
theorem dX10_bringsBack_27 : decode cX10_bringsBack 27 = .ok (.return_, 1) := by decide +kernel
noncomputable def fX10_bringsBack_L2 (V : VT) (u1 : Int32) : Option ((VT × Int32) ⊕ VT) := if (314 : Int32) ≤ u1 then (some (.inr (V))) else (rd_ u1 314 (rd_ u1 1988 (lt_ (va_up V 76 (upd (V 76) u1.toNatClampNeg (V 79 u1.toNatClampNeg))) fun V3 => lt_ (u1 + (1 : Int32)) fun y4 => some (.inl (V3, y4)))))
noncomputable def iX10_bringsBack_L2 : (VT × Int32) → Option ((VT × Int32) ⊕ VT) := fun q => fX10_bringsBack_L2 (q.1) (q.2)
noncomputable def fX10_bringsBack (V : VT) : Option VT := ob_R (it_ (iX10_bringsBack_L2) FV (V, (0 : Int32))) fun x7 => some x7
set_option maxHeartbeats 4000000 in
set_option maxRecDepth 100000 in
theorem wX10_bringsBack_L2 {p : Program} {l : Launch} {e : Env} {s : State} {m : MethodId} {args : Array Value} {below : List Frame} {meth : Method} {c : Code} {G : GT} {B : BGt} {Q : State → Prop} (E : En p s m args c meth cX10_bringsBack 2 RX10 none G B) {x : VT} (kr : ∀ q : VT, x = q → Q = MQ below (QV G s.heap.size q) args s 0 0 (gA G s.heap.size)) : ∀ (n : Nat) (q : (VT × Int32)), it_ (iX10_bringsBack_L2) n q = some x → ∀ (H : Heap) (locs : List Loc) (ls : Array Slot), HW G s.heap (q.1) H locs → lv_has ls 2 [(0, .ref (G.2.2 22)), (1, .int (q.2))] → W p l e (rmD 2) s m args below meth c H locs 0 0 Q (F0 m 2 ls []) := by
  have hx := en_x E
  have hb := en_b E
  have hB := en_B E
  refine it_W (fun q : (VT × Int32) => ∀ (H : Heap) (locs : List Loc) (ls : Array Slot), HW G s.heap (q.1) H locs → lv_has ls 2 [(0, .ref (G.2.2 22)), (1, .int (q.2))] → W p l e (rmD 2) s m args below meth c H locs 0 0 Q (F0 m 2 ls [])) x ?_
  intro q r h kc kx
  obtain ⟨V, u1⟩ := q
  intro H locs ls hw hl
  have h : fX10_bringsBack_L2 V u1 = some r := h
  have hw : HW G s.heap V H locs := hw
  have hl : lv_has ls 2 [(0, .ref (G.2.2 22)), (1, .int u1)] := hl
  have kr : ∀ q : VT, r = .inr (q) → Q = MQ below (QV G s.heap.size q) args s 0 0 (gA G s.heap.size) := fun q e => kr q (kx _ e).symm
  unfold fX10_bringsBack_L2 at h
  refine lv_iload_n hx hb dX10_bringsBack_2 rfl (lv_at hl 1 rfl) ?_
  refine lv_sipush (v := (314 : Int32)) hx hb dX10_bringsBack_3 (by decide) ?_
  refine lv_icmp_ge (tgt := 27) hx hb dX10_bringsBack_6 (by decide) (fun c5 => ?_) (fun c5 => ?_)
  · rw [if_pos c5] at h
    rw [kr V (Option.some.inj h).symm]
    exact r_rv E hw dX10_bringsBack_27
  · rw [if_neg c5] at h
    refine lv_aload_n hx hb dX10_bringsBack_9 rfl (lv_at hl 0 rfl) ?_
    refine r_gr E hw 22 1 76 (N := 29) (C := RX10) (T := TX10) (by decide) rfl rfl (by decide) rfl iw_10 rfl lf_RX10_13 dX10_bringsBack_10 ?_
    refine lv_iload_n hx hb dX10_bringsBack_13 rfl (lv_at hl 1 rfl) ?_
    refine lv_aload_n hx hb dX10_bringsBack_14 rfl (lv_at hl 0 rfl) ?_
    refine r_gr E hw 22 4 79 (N := 29) (C := RX10) (T := TX10) (by decide) rfl rfl (by decide) rfl iw_10 rfl lf_RX10_23 dX10_bringsBack_15 ?_
    refine lv_iload_n hx hb dX10_bringsBack_18 rfl (lv_at hl 1 rfl) ?_
    obtain ⟨b1, h⟩ := rd_some h
    refine r_ia E hw 79 314 (by decide) (by decide) (by decide) rfl rfl b1 dX10_bringsBack_19 ?_
    obtain ⟨b2, h⟩ := rd_some h
    obtain ⟨V3, eV3, h⟩ := lt_some h
    refine r_is E hw 76 1988 (by decide) (by decide) (by decide) rfl rfl b2 eV3 dX10_bringsBack_20 (fun H locs hw => ?_)
    obtain ⟨y4, ey4, h⟩ := lt_some h
    refine lv_iinc (v := y4) (lv' := [(1, .int y4), (0, .ref (G.2.2 22))]) hx hb dX10_bringsBack_21 hl (k := 1) rfl (by rw [ey4]; rfl) (by decide) rfl (fun ls hl => ?_)
    refine lv_goto (tgt := 2) hx hb dX10_bringsBack_24 (by decide) ?_
    exact kc (V3, y4) (Option.some.inj h).symm H locs ls hw (lv_sub hl [1, 0] rfl)
set_option maxHeartbeats 4000000 in
set_option maxRecDepth 100000 in
theorem kX10_bringsBack {l : Launch} {G : GT} {B : BGt} (hB : BGok B) {V : VT} {r : VT} (h : fX10_bringsBack V = some r) : CV l G B yX10_bringsBack (.code yX10_bringsBack cX10_bringsBack 2 none) 2 [.ref (G.2.2 22)] V r := by
  intro sz
  refine met_of (Qs := fun sz => QV G sz r) hB (by decide) (Nat.le_of_ble_eq_true rfl) ?_ sz
  intro p e s m args below meth c ls E hw hl
  have hx := en_x E
  have hb := en_b E
  generalize hQ : MQ _ _ _ _ _ _ _ = Q
  have kr : Q = MQ below (QV G s.heap.size r) args s 0 0 (gA G s.heap.size) := hQ.symm
  have hl : lv_has ls 2 [(0, .ref (G.2.2 22))] := hl
  obtain ⟨H, eH⟩ : ∃ H, H = s.heap := ⟨_, rfl⟩
  obtain ⟨locs, elocs⟩ : ∃ z : List Loc, z = [] := ⟨_, rfl⟩
  have hw : HW G s.heap V H locs := by rw [eH, elocs]; exact hw
  show W p l e _ s m args below meth c s.heap [] 0 0 Q (F0 m 0 ls [])
  rw [← eH, ← elocs]
  unfold fX10_bringsBack at h
  refine lv_iconst (v := (0 : Int32)) hx hb dX10_bringsBack_0 (by decide) ?_
  refine lv_istore_n (lv' := [(1, .int (0 : Int32)), (0, .ref (G.2.2 22))]) hx hb dX10_bringsBack_1 rfl hl (by decide) rfl (fun ls hl => ?_)
  obtain ⟨x7, h6, h⟩ := ob_R_some h
  have h := Option.some.inj h
  subst h
  exact wX10_bringsBack_L2 E (fun q e => by subst e; exact kr) FV (V, (0 : Int32)) h6 H locs ls hw (lv_sub hl [1, 0] rfl)
/-! ===== AllSawItModel.done(I)I ===== -/
theorem dX10_done_0 : decode cX10_done 0 = .ok (.aload_n 0, 1) := by decide +kernel
theorem dX10_done_1 : decode cX10_done 1 = .ok (.iconst 0, 1) := by decide +kernel
theorem dX10_done_2 : decode cX10_done 2 = .ok (.putfield 3, 3) := by decide +kernel
theorem dX10_done_5 : decode cX10_done 5 = .ok (.aload_n 0, 1) := by decide +kernel
theorem dX10_done_6 : decode cX10_done 6 = .ok (.aload_n 0, 1) := by decide +kernel
theorem dX10_done_7 : decode cX10_done 7 = .ok (.iload_n 1, 1) := by decide +kernel
theorem dX10_done_8 : decode cX10_done 8 = .ok (.invokevirtual 349, 3) := by decide +kernel
theorem dX10_done_11 : decode cX10_done 11 = .ok (.iconst 1, 1) := by decide +kernel
theorem dX10_done_12 : decode cX10_done 12 = .ok (.invokevirtual 233, 3) := by decide +kernel
theorem dX10_done_15 : decode cX10_done 15 = .ok (.ifCond .ne 16, 3) := by decide +kernel
theorem dX10_done_18 : decode cX10_done 18 = .ok (.aload_n 0, 1) := by decide +kernel
theorem dX10_done_19 : decode cX10_done 19 = .ok (.aload_n 0, 1) := by decide +kernel
theorem dX10_done_20 : decode cX10_done 20 = .ok (.iload_n 1, 1) := by decide +kernel
theorem dX10_done_21 : decode cX10_done 21 = .ok (.invokevirtual 340, 3) := by decide +kernel
theorem dX10_done_24 : decode cX10_done 24 = .ok (.iconst 2, 1) := by decide +kernel
theorem dX10_done_25 : decode cX10_done 25 = .ok (.invokevirtual 233, 3) := by decide +kernel
theorem dX10_done_28 : decode cX10_done 28 = .ok (.ifCond .eq 5, 3) := by decide +kernel
theorem dX10_done_31 : decode cX10_done 31 = .ok (.iconst 0, 1) := by decide +kernel
theorem dX10_done_32 : decode cX10_done 32 = .ok (.ireturn, 1) := by decide +kernel
theorem dX10_done_33 : decode cX10_done 33 = .ok (.aload_n 0, 1) := by decide +kernel
theorem dX10_done_34 : decode cX10_done 34 = .ok (.invokevirtual 389, 3) := by decide +kernel
theorem dX10_done_37 : decode cX10_done 37 = .ok (.aload_n 0, 1) := by decide +kernel
theorem dX10_done_38 : decode cX10_done 38 = .ok (.iload_n 1, 1) := by decide +kernel
theorem dX10_done_39 : decode cX10_done 39 = .ok (.invokevirtual 373, 3) := by decide +kernel
theorem dX10_done_42 : decode cX10_done 42 = .ok (.aload_n 0, 1) := by decide +kernel
theorem dX10_done_43 : decode cX10_done 43 = .ok (.aload_n 0, 1) := by decide +kernel
theorem dX10_done_44 : decode cX10_done 44 = .ok (.iload_n 1, 1) := by decide +kernel
theorem dX10_done_45 : decode cX10_done 45 = .ok (.iconst 0, 1) := by decide +kernel
theorem dX10_done_46 : decode cX10_done 46 = .ok (.invokevirtual 73, 3) := by decide +kernel
theorem dX10_done_49 : decode cX10_done 49 = .ok (.aload_n 0, 1) := by decide +kernel
theorem dX10_done_50 : decode cX10_done 50 = .ok (.iload_n 1, 1) := by decide +kernel
theorem dX10_done_51 : decode cX10_done 51 = .ok (.iconst 1, 1) := by decide +kernel
theorem dX10_done_52 : decode cX10_done 52 = .ok (.invokevirtual 73, 3) := by decide +kernel
theorem dX10_done_55 : decode cX10_done 55 = .ok (.invokevirtual 318, 3) := by decide +kernel
theorem dX10_done_58 : decode cX10_done 58 = .ok (.ireturn, 1) := by decide +kernel
noncomputable def fX10_done (V : VT) (x1 : Int32) : Option (Int32 × VT) := lt_ (va_up V 22 (upd (V 22) 0 (0 : Int32))) fun V1 => ob_R (fX10_noDeed V1 x1) fun y3 => ob_I (fX10_throwsIf V1 y3 (1 : Int32)) fun y5 V6 => if y5 = 0 then (ob_R (fX10_isSo V6 x1) fun y8 => ob_I (fX10_throwsIf V6 y8 (2 : Int32)) fun y10 V11 => if y10 = 0 then (ob_R (fX10_remembers V11 ) fun V13 => ob_R (fX10_isDone V13 x1) fun V15 => ob_R (fX10_ofDeed V15 x1 (0 : Int32)) fun y17 => ob_R (fX10_ofDeed V15 x1 (1 : Int32)) fun y19 => ob_I (fX10_seersNow V15 y17 y19) fun y21 V22 => some (y21, V22)) else (some ((0 : Int32), V11))) else (some ((0 : Int32), V6))
set_option maxHeartbeats 4000000 in
set_option maxRecDepth 100000 in
theorem kX10_done {l : Launch} {G : GT} {B : BGt} (hB : BGok B) {V : VT} {x1 : Int32} {r : (Int32 × VT)} (h : fX10_done V x1 = some r) : CI l G B yX10_done (.code yX10_done cX10_done 2 (some .int)) 14 [.ref (G.2.2 22), .int x1] V r.1 r.2 := by
  intro sz
  refine met_of (Qs := fun sz => QI G sz (r.1) (r.2)) hB (by decide) (Nat.le_of_ble_eq_true rfl) ?_ sz
  intro p e s m args below meth c ls E hw hl
  have hx := en_x E
  have hb := en_b E
  generalize hQ : MQ _ _ _ _ _ _ _ = Q
  have kr : Q = MQ below (QI G s.heap.size r.1 r.2) args s 0 0 (gA G s.heap.size) := hQ.symm
  have hl : lv_has ls 2 [(0, .ref (G.2.2 22)), (1, .int x1)] := hl
  obtain ⟨H, eH⟩ : ∃ H, H = s.heap := ⟨_, rfl⟩
  obtain ⟨locs, elocs⟩ : ∃ z : List Loc, z = [] := ⟨_, rfl⟩
  have hw : HW G s.heap V H locs := by rw [eH, elocs]; exact hw
  show W p l e _ s m args below meth c s.heap [] 0 0 Q (F0 m 0 ls [])
  rw [← eH, ← elocs]
  unfold fX10_done at h
  refine lv_aload_n hx hb dX10_done_0 rfl (lv_at hl 0 rfl) ?_
  refine lv_iconst (v := (0 : Int32)) hx hb dX10_done_1 (by decide) ?_
  obtain ⟨V1, eV1, h⟩ := lt_some h
  refine r_pi E hw 22 0 (N := 29) (C := RX10) (T := TX10) (ty0 := tyX10) (ty := .int) (by decide) rfl rfl (by decide) rfl iw_10 rfl tyX10_ok nmX10 rfl rfl (vp_nar_int _) rfl lf_RX10_3 eV1 dX10_done_2 (fun H locs hw => ?_)
  refine lv_aload_n hx hb dX10_done_5 rfl (lv_at hl 0 rfl) ?_
  refine lv_aload_n hx hb dX10_done_6 rfl (lv_at hl 0 rfl) ?_
  refine lv_iload_n hx hb dX10_done_7 rfl (lv_at hl 1 rfl) ?_
  obtain ⟨y3, h2, h⟩ := ob_R_some h
  refine c_VI E hw (kX10_noDeed (l := l) (G := G) hB  h2) yy_X10_noDeed lm_RX10_349 rfl (by decide) rfl rfl hl.1 (by decide) (by decide) rfl (Nat.le_of_ble_eq_true rfl) dX10_done_8 (fun H locs hw => ?_)
  refine lv_iconst (v := (1 : Int32)) hx hb dX10_done_11 (by decide) ?_
  obtain ⟨y5, V6, h4, h⟩ := ob_I_some h
  refine c_VI E hw (kX10_throwsIf (l := l) (G := G) hB  h4) yy_X10_throwsIf lm_RX10_233 rfl (by decide) rfl rfl hl.1 (by decide) (by decide) rfl (Nat.le_of_ble_eq_true rfl) dX10_done_12 (fun H locs hw => ?_)
  refine lv_if_ne (tgt := 31) hx hb dX10_done_15 (by decide) (fun c24 => ?_) (fun c24 => ?_)
  · rw [if_neg c24] at h
    refine lv_iconst (v := (0 : Int32)) hx hb dX10_done_31 (by decide) ?_
    have h := Option.some.inj h
    subst h
    rw [kr]
    exact r_ri E hw dX10_done_32
  · rw [if_pos c24] at h
    refine lv_aload_n hx hb dX10_done_18 rfl (lv_at hl 0 rfl) ?_
    refine lv_aload_n hx hb dX10_done_19 rfl (lv_at hl 0 rfl) ?_
    refine lv_iload_n hx hb dX10_done_20 rfl (lv_at hl 1 rfl) ?_
    obtain ⟨y8, h7, h⟩ := ob_R_some h
    refine c_VI E hw (kX10_isSo (l := l) (G := G) hB  h7) yy_X10_isSo lm_RX10_340 rfl (by decide) rfl rfl hl.1 (by decide) (by decide) rfl (Nat.le_of_ble_eq_true rfl) dX10_done_21 (fun H locs hw => ?_)
    refine lv_iconst (v := (2 : Int32)) hx hb dX10_done_24 (by decide) ?_
    obtain ⟨y10, V11, h9, h⟩ := ob_I_some h
    refine c_VI E hw (kX10_throwsIf (l := l) (G := G) hB  h9) yy_X10_throwsIf lm_RX10_233 rfl (by decide) rfl rfl hl.1 (by decide) (by decide) rfl (Nat.le_of_ble_eq_true rfl) dX10_done_25 (fun H locs hw => ?_)
    refine lv_if_eq (tgt := 33) hx hb dX10_done_28 (by decide) (fun c23 => ?_) (fun c23 => ?_)
    · rw [if_pos c23] at h
      refine lv_aload_n hx hb dX10_done_33 rfl (lv_at hl 0 rfl) ?_
      obtain ⟨V13, h12, h⟩ := ob_R_some h
      refine c_VV E hw (kX10_remembers (l := l) (G := G) hB  h12) yy_X10_remembers lm_RX10_389 rfl (by decide) rfl rfl hl.1 (by decide) (by decide) rfl (Nat.le_of_ble_eq_true rfl) dX10_done_34 (fun H locs hw => ?_)
      refine lv_aload_n hx hb dX10_done_37 rfl (lv_at hl 0 rfl) ?_
      refine lv_iload_n hx hb dX10_done_38 rfl (lv_at hl 1 rfl) ?_
      obtain ⟨V15, h14, h⟩ := ob_R_some h
      refine c_VV E hw (kX10_isDone (l := l) (G := G) hB  h14) yy_X10_isDone lm_RX10_373 rfl (by decide) rfl rfl hl.1 (by decide) (by decide) rfl (Nat.le_of_ble_eq_true rfl) dX10_done_39 (fun H locs hw => ?_)
      refine lv_aload_n hx hb dX10_done_42 rfl (lv_at hl 0 rfl) ?_
      refine lv_aload_n hx hb dX10_done_43 rfl (lv_at hl 0 rfl) ?_
      refine lv_iload_n hx hb dX10_done_44 rfl (lv_at hl 1 rfl) ?_
      refine lv_iconst (v := (0 : Int32)) hx hb dX10_done_45 (by decide) ?_
      obtain ⟨y17, h16, h⟩ := ob_R_some h
      refine c_VI E hw (kX10_ofDeed (l := l) (G := G) hB  h16) yy_X10_ofDeed lm_RX10_73 rfl (by decide) rfl rfl hl.1 (by decide) (by decide) rfl (Nat.le_of_ble_eq_true rfl) dX10_done_46 (fun H locs hw => ?_)
      refine lv_aload_n hx hb dX10_done_49 rfl (lv_at hl 0 rfl) ?_
      refine lv_iload_n hx hb dX10_done_50 rfl (lv_at hl 1 rfl) ?_
      refine lv_iconst (v := (1 : Int32)) hx hb dX10_done_51 (by decide) ?_
      obtain ⟨y19, h18, h⟩ := ob_R_some h
      refine c_VI E hw (kX10_ofDeed (l := l) (G := G) hB  h18) yy_X10_ofDeed lm_RX10_73 rfl (by decide) rfl rfl hl.1 (by decide) (by decide) rfl (Nat.le_of_ble_eq_true rfl) dX10_done_52 (fun H locs hw => ?_)
      obtain ⟨y21, V22, h20, h⟩ := ob_I_some h
      refine c_VI E hw (kX10_seersNow (l := l) (G := G) hB  h20) yy_X10_seersNow lm_RX10_318 rfl (by decide) rfl rfl hl.1 (by decide) (by decide) rfl (Nat.le_of_ble_eq_true rfl) dX10_done_55 (fun H locs hw => ?_)
      have h := Option.some.inj h
      subst h
      rw [kr]
      exact r_ri E hw dX10_done_58
    · rw [if_neg c23] at h
      refine lv_iconst (v := (0 : Int32)) hx hb dX10_done_31 (by decide) ?_
      have h := Option.some.inj h
      subst h
      rw [kr]
      exact r_ri E hw dX10_done_32
/-! ===== AllSawItModel.say(II)Z ===== -/
theorem dX10_say_0 : decode cX10_say 0 = .ok (.aload_n 0, 1) := by decide +kernel
theorem dX10_say_1 : decode cX10_say 1 = .ok (.iconst 0, 1) := by decide +kernel
theorem dX10_say_2 : decode cX10_say 2 = .ok (.putfield 3, 3) := by decide +kernel
theorem dX10_say_5 : decode cX10_say 5 = .ok (.aload_n 0, 1) := by decide +kernel
theorem dX10_say_6 : decode cX10_say 6 = .ok (.aload_n 0, 1) := by decide +kernel
theorem dX10_say_7 : decode cX10_say 7 = .ok (.iload_n 1, 1) := by decide +kernel
theorem dX10_say_8 : decode cX10_say 8 = .ok (.invokevirtual 309, 3) := by decide +kernel
theorem dX10_say_11 : decode cX10_say 11 = .ok (.ifCond .ne 11, 3) := by decide +kernel
theorem dX10_say_14 : decode cX10_say 14 = .ok (.aload_n 0, 1) := by decide +kernel
theorem dX10_say_15 : decode cX10_say 15 = .ok (.iload_n 2, 1) := by decide +kernel
theorem dX10_say_16 : decode cX10_say 16 = .ok (.invokevirtual 349, 3) := by decide +kernel
theorem dX10_say_19 : decode cX10_say 19 = .ok (.ifCond .eq 7, 3) := by decide +kernel
theorem dX10_say_22 : decode cX10_say 22 = .ok (.iconst 1, 1) := by decide +kernel
theorem dX10_say_23 : decode cX10_say 23 = .ok (.goto 4, 3) := by decide +kernel
theorem dX10_say_26 : decode cX10_say 26 = .ok (.iconst 0, 1) := by decide +kernel
theorem dX10_say_27 : decode cX10_say 27 = .ok (.iconst 1, 1) := by decide +kernel
theorem dX10_say_28 : decode cX10_say 28 = .ok (.invokevirtual 233, 3) := by decide +kernel
theorem dX10_say_31 : decode cX10_say 31 = .ok (.ifCond .ne 53, 3) := by decide +kernel
theorem dX10_say_34 : decode cX10_say 34 = .ok (.aload_n 0, 1) := by decide +kernel
theorem dX10_say_35 : decode cX10_say 35 = .ok (.aload_n 0, 1) := by decide +kernel
theorem dX10_say_36 : decode cX10_say 36 = .ok (.iload_n 1, 1) := by decide +kernel
theorem dX10_say_37 : decode cX10_say 37 = .ok (.bipush 7, 2) := by decide +kernel
theorem dX10_say_39 : decode cX10_say 39 = .ok (.invokevirtual 236, 3) := by decide +kernel
theorem dX10_say_42 : decode cX10_say 42 = .ok (.iconst 1, 1) := by decide +kernel
theorem dX10_say_43 : decode cX10_say 43 = .ok (.if_icmp .eq 29, 3) := by decide +kernel
theorem dX10_say_46 : decode cX10_say 46 = .ok (.aload_n 0, 1) := by decide +kernel
theorem dX10_say_47 : decode cX10_say 47 = .ok (.iload_n 2, 1) := by decide +kernel
theorem dX10_say_48 : decode cX10_say 48 = .ok (.iconst 3, 1) := by decide +kernel
theorem dX10_say_49 : decode cX10_say 49 = .ok (.invokevirtual 73, 3) := by decide +kernel
theorem dX10_say_52 : decode cX10_say 52 = .ok (.iload_n 1, 1) := by decide +kernel
theorem dX10_say_53 : decode cX10_say 53 = .ok (.invokestatic 346, 3) := by decide +kernel
theorem dX10_say_56 : decode cX10_say 56 = .ok (.ifCond .eq 16, 3) := by decide +kernel
theorem dX10_say_59 : decode cX10_say 59 = .ok (.aload_n 0, 1) := by decide +kernel
theorem dX10_say_60 : decode cX10_say 60 = .ok (.iload_n 2, 1) := by decide +kernel
theorem dX10_say_61 : decode cX10_say 61 = .ok (.iconst 4, 1) := by decide +kernel
theorem dX10_say_62 : decode cX10_say 62 = .ok (.invokevirtual 73, 3) := by decide +kernel
theorem dX10_say_65 : decode cX10_say 65 = .ok (.iload_n 1, 1) := by decide +kernel
theorem dX10_say_66 : decode cX10_say 66 = .ok (.invokestatic 346, 3) := by decide +kernel
theorem dX10_say_69 : decode cX10_say 69 = .ok (.ifCond .eq 7, 3) := by decide +kernel
theorem dX10_say_72 : decode cX10_say 72 = .ok (.iconst 1, 1) := by decide +kernel
theorem dX10_say_73 : decode cX10_say 73 = .ok (.goto 4, 3) := by decide +kernel
theorem dX10_say_76 : decode cX10_say 76 = .ok (.iconst 0, 1) := by decide +kernel
theorem dX10_say_77 : decode cX10_say 77 = .ok (.iconst 2, 1) := by decide +kernel
theorem dX10_say_78 : decode cX10_say 78 = .ok (.invokevirtual 233, 3) := by decide +kernel
theorem dX10_say_81 : decode cX10_say 81 = .ok (.ifCond .eq 5, 3) := by decide +kernel
theorem dX10_say_84 : decode cX10_say 84 = .ok (.iconst 0, 1) := by decide +kernel
theorem dX10_say_85 : decode cX10_say 85 = .ok (.ireturn, 1) := by decide +kernel
theorem dX10_say_86 : decode cX10_say 86 = .ok (.aload_n 0, 1) := by decide +kernel
theorem dX10_say_87 : decode cX10_say 87 = .ok (.invokevirtual 389, 3) := by decide +kernel
theorem dX10_say_90 : decode cX10_say 90 = .ok (.aload_n 0, 1) := by decide +kernel
theorem dX10_say_91 : decode cX10_say 91 = .ok (.iload_n 1, 1) := by decide +kernel
theorem dX10_say_92 : decode cX10_say 92 = .ok (.iload_n 2, 1) := by decide +kernel
theorem dX10_say_93 : decode cX10_say 93 = .ok (.invokevirtual 370, 3) := by decide +kernel
theorem dX10_say_96 : decode cX10_say 96 = .ok (.aload_n 0, 1) := by decide +kernel
theorem dX10_say_97 : decode cX10_say 97 = .ok (.invokevirtual 382, 3) := by decide +kernel
theorem dX10_say_100 : decode cX10_say 100 = .ok (.aload_n 0, 1) := by decide +kernel
theorem dX10_say_101 : decode cX10_say 101 = .ok (.iload_n 2, 1) := by decide +kernel
theorem dX10_say_102 : decode cX10_say 102 = .ok (.invokevirtual 340, 3) := by decide +kernel
theorem dX10_say_105 : decode cX10_say 105 = .ok (.ireturn, 1) := by decide +kernel
noncomputable def fX10_say_j77 (V : VT) (u1 : Int32) (u2 : Int32) (t0 : Int32) : Option (Int32 × VT) := ob_I (fX10_throwsIf V t0 (2 : Int32)) fun y11 V12 => if y11 = 0 then (ob_R (fX10_remembers V12 ) fun V14 => ob_R (fX10_says V14 u1 u2) fun V16 => ob_R (fX10_asks V16 ) fun V18 => ob_R (fX10_isSo V18 u2) fun y20 => zo_ y20 (some (y20, V18))) else (zo_ (0 : Int32) (some ((0 : Int32), V12)))
noncomputable def fX10_say_j72 (V : VT) (u1 : Int32) (u2 : Int32) : Option (Int32 × VT) := fX10_say_j77 V u1 u2 (1 : Int32)
noncomputable def fX10_say_j27 (V : VT) (u1 : Int32) (u2 : Int32) (t0 : Int32) : Option (Int32 × VT) := ob_I (fX10_throwsIf V t0 (1 : Int32)) fun y5 V6 => if y5 = 0 then (ob_R (fX10_of V6 u1 (7 : Int32)) fun y9 => if y9 = (1 : Int32) then (fX10_say_j72 V6 u1 u2) else (ob_R (fX10_ofDeed V6 u2 (3 : Int32)) fun y25 => ob_R (fX10_has V6 y25 u1) fun y27 => if y27 = 0 then (fX10_say_j72 V6 u1 u2) else (ob_R (fX10_ofDeed V6 u2 (4 : Int32)) fun y29 => ob_R (fX10_has V6 y29 u1) fun y31 => if y31 = 0 then (fX10_say_j77 V6 u1 u2 (0 : Int32)) else (fX10_say_j72 V6 u1 u2)))) else (zo_ (0 : Int32) (some ((0 : Int32), V6)))
noncomputable def fX10_say_j22 (V : VT) (u1 : Int32) (u2 : Int32) : Option (Int32 × VT) := fX10_say_j27 V u1 u2 (1 : Int32)
noncomputable def fX10_say (V : VT) (x1 : Int32) (x2 : Int32) : Option (Int32 × VT) := lt_ (va_up V 22 (upd (V 22) 0 (0 : Int32))) fun V1 => ob_R (fX10_noHouse V1 x1) fun y3 => if y3 = 0 then (ob_R (fX10_noDeed V1 x2) fun y37 => if y37 = 0 then (fX10_say_j27 V1 x1 x2 (0 : Int32)) else (fX10_say_j22 V1 x1 x2)) else (fX10_say_j22 V1 x1 x2)
set_option maxHeartbeats 4000000 in
set_option maxRecDepth 100000 in
theorem wX10_say_j77 {p : Program} {l : Launch} {e : Env} {s : State} {m : MethodId} {args : Array Value} {below : List Frame} {meth : Method} {c : Code} {G : GT} {B : BGt} {Q : State → Prop} (E : En p s m args c meth cX10_say 3 RX10 (some .boolean) G B) {V : VT} {u1 : Int32} {u2 : Int32} {t0 : Int32} {r : (Int32 × VT)} (h : fX10_say_j77 V u1 u2 t0 = some r) (kr : Q = MQ below (QI G s.heap.size r.1 r.2) args s 0 0 (gA G s.heap.size)) {H : Heap} {locs : List Loc} {ls : Array Slot} (hw : HW G s.heap V H locs) (hl : lv_has ls 3 [(0, .ref (G.2.2 22)), (1, .int u1), (2, .int u2)]) : W p l e (rmD 7) s m args below meth c H locs 0 0 Q (F0 m 77 ls [.int t0, .ref (G.2.2 22)]) := by
  have hx := en_x E
  have hb := en_b E
  have hB := en_B E
  unfold fX10_say_j77 at h
  refine lv_iconst (v := (2 : Int32)) hx hb dX10_say_77 (by decide) ?_
  obtain ⟨y11, V12, h10, h⟩ := ob_I_some h
  refine c_VI E hw (kX10_throwsIf (l := l) (G := G) hB  h10) yy_X10_throwsIf lm_RX10_233 rfl (by decide) rfl rfl hl.1 (by decide) (by decide) rfl (Nat.le_of_ble_eq_true rfl) dX10_say_78 (fun H locs hw => ?_)
  refine lv_if_eq (tgt := 86) hx hb dX10_say_81 (by decide) (fun c23 => ?_) (fun c23 => ?_)
  · rw [if_pos c23] at h
    refine lv_aload_n hx hb dX10_say_86 rfl (lv_at hl 0 rfl) ?_
    obtain ⟨V14, h13, h⟩ := ob_R_some h
    refine c_VV E hw (kX10_remembers (l := l) (G := G) hB  h13) yy_X10_remembers lm_RX10_389 rfl (by decide) rfl rfl hl.1 (by decide) (by decide) rfl (Nat.le_of_ble_eq_true rfl) dX10_say_87 (fun H locs hw => ?_)
    refine lv_aload_n hx hb dX10_say_90 rfl (lv_at hl 0 rfl) ?_
    refine lv_iload_n hx hb dX10_say_91 rfl (lv_at hl 1 rfl) ?_
    refine lv_iload_n hx hb dX10_say_92 rfl (lv_at hl 2 rfl) ?_
    obtain ⟨V16, h15, h⟩ := ob_R_some h
    refine c_VV E hw (kX10_says (l := l) (G := G) hB  h15) yy_X10_says lm_RX10_370 rfl (by decide) rfl rfl hl.1 (by decide) (by decide) rfl (Nat.le_of_ble_eq_true rfl) dX10_say_93 (fun H locs hw => ?_)
    refine lv_aload_n hx hb dX10_say_96 rfl (lv_at hl 0 rfl) ?_
    obtain ⟨V18, h17, h⟩ := ob_R_some h
    refine c_VV E hw (kX10_asks (l := l) (G := G) hB  h17) yy_X10_asks lm_RX10_382 rfl (by decide) rfl rfl hl.1 (by decide) (by decide) rfl (Nat.le_of_ble_eq_true rfl) dX10_say_97 (fun H locs hw => ?_)
    refine lv_aload_n hx hb dX10_say_100 rfl (lv_at hl 0 rfl) ?_
    refine lv_iload_n hx hb dX10_say_101 rfl (lv_at hl 2 rfl) ?_
    obtain ⟨y20, h19, h⟩ := ob_R_some h
    refine c_VI E hw (kX10_isSo (l := l) (G := G) hB  h19) yy_X10_isSo lm_RX10_340 rfl (by decide) rfl rfl hl.1 (by decide) (by decide) rfl (Nat.le_of_ble_eq_true rfl) dX10_say_102 (fun H locs hw => ?_)
    obtain ⟨z21, h⟩ := zo_some h
    have h := Option.some.inj h
    subst h
    rw [kr]
    exact r_rz E hw z21 dX10_say_105
  · rw [if_neg c23] at h
    refine lv_iconst (v := (0 : Int32)) hx hb dX10_say_84 (by decide) ?_
    obtain ⟨z22, h⟩ := zo_some h
    have h := Option.some.inj h
    subst h
    rw [kr]
    exact r_rz E hw z22 dX10_say_85
set_option maxHeartbeats 4000000 in
set_option maxRecDepth 100000 in
theorem wX10_say_j72 {p : Program} {l : Launch} {e : Env} {s : State} {m : MethodId} {args : Array Value} {below : List Frame} {meth : Method} {c : Code} {G : GT} {B : BGt} {Q : State → Prop} (E : En p s m args c meth cX10_say 3 RX10 (some .boolean) G B) {V : VT} {u1 : Int32} {u2 : Int32} {r : (Int32 × VT)} (h : fX10_say_j72 V u1 u2 = some r) (kr : Q = MQ below (QI G s.heap.size r.1 r.2) args s 0 0 (gA G s.heap.size)) {H : Heap} {locs : List Loc} {ls : Array Slot} (hw : HW G s.heap V H locs) (hl : lv_has ls 3 [(0, .ref (G.2.2 22)), (1, .int u1), (2, .int u2)]) : W p l e (rmD 7) s m args below meth c H locs 0 0 Q (F0 m 72 ls [.ref (G.2.2 22)]) := by
  have hx := en_x E
  have hb := en_b E
  have hB := en_B E
  unfold fX10_say_j72 at h
  refine lv_iconst (v := (1 : Int32)) hx hb dX10_say_72 (by decide) ?_
  refine lv_goto (tgt := 77) hx hb dX10_say_73 (by decide) ?_
  exact wX10_say_j77 E h kr hw (lv_sub hl [0, 1, 2] rfl)
set_option maxHeartbeats 4000000 in
set_option maxRecDepth 100000 in
theorem wX10_say_j27 {p : Program} {l : Launch} {e : Env} {s : State} {m : MethodId} {args : Array Value} {below : List Frame} {meth : Method} {c : Code} {G : GT} {B : BGt} {Q : State → Prop} (E : En p s m args c meth cX10_say 3 RX10 (some .boolean) G B) {V : VT} {u1 : Int32} {u2 : Int32} {t0 : Int32} {r : (Int32 × VT)} (h : fX10_say_j27 V u1 u2 t0 = some r) (kr : Q = MQ below (QI G s.heap.size r.1 r.2) args s 0 0 (gA G s.heap.size)) {H : Heap} {locs : List Loc} {ls : Array Slot} (hw : HW G s.heap V H locs) (hl : lv_has ls 3 [(0, .ref (G.2.2 22)), (1, .int u1), (2, .int u2)]) : W p l e (rmD 7) s m args below meth c H locs 0 0 Q (F0 m 27 ls [.int t0, .ref (G.2.2 22)]) := by
  have hx := en_x E
  have hb := en_b E
  have hB := en_B E
  unfold fX10_say_j27 at h
  refine lv_iconst (v := (1 : Int32)) hx hb dX10_say_27 (by decide) ?_
  obtain ⟨y5, V6, h4, h⟩ := ob_I_some h
  refine c_VI E hw (kX10_throwsIf (l := l) (G := G) hB  h4) yy_X10_throwsIf lm_RX10_233 rfl (by decide) rfl rfl hl.1 (by decide) (by decide) rfl (Nat.le_of_ble_eq_true rfl) dX10_say_28 (fun H locs hw => ?_)
  refine lv_if_ne (tgt := 84) hx hb dX10_say_31 (by decide) (fun c35 => ?_) (fun c35 => ?_)
  · rw [if_neg c35] at h
    refine lv_iconst (v := (0 : Int32)) hx hb dX10_say_84 (by decide) ?_
    obtain ⟨z7, h⟩ := zo_some h
    have h := Option.some.inj h
    subst h
    rw [kr]
    exact r_rz E hw z7 dX10_say_85
  · rw [if_pos c35] at h
    refine lv_aload_n hx hb dX10_say_34 rfl (lv_at hl 0 rfl) ?_
    refine lv_aload_n hx hb dX10_say_35 rfl (lv_at hl 0 rfl) ?_
    refine lv_iload_n hx hb dX10_say_36 rfl (lv_at hl 1 rfl) ?_
    refine lv_bipush (v := (7 : Int32)) hx hb dX10_say_37 (by decide) ?_
    obtain ⟨y9, h8, h⟩ := ob_R_some h
    refine c_VI E hw (kX10_of (l := l) (G := G) hB  h8) yy_X10_of lm_RX10_236 rfl (by decide) rfl rfl hl.1 (by decide) (by decide) rfl (Nat.le_of_ble_eq_true rfl) dX10_say_39 (fun H locs hw => ?_)
    refine lv_iconst (v := (1 : Int32)) hx hb dX10_say_42 (by decide) ?_
    refine lv_icmp_eq (tgt := 72) hx hb dX10_say_43 (by decide) (fun c34 => ?_) (fun c34 => ?_)
    · rw [if_pos c34] at h
      exact wX10_say_j72 E h kr hw (lv_sub hl [0, 1, 2] rfl)
    · rw [if_neg c34] at h
      refine lv_aload_n hx hb dX10_say_46 rfl (lv_at hl 0 rfl) ?_
      refine lv_iload_n hx hb dX10_say_47 rfl (lv_at hl 2 rfl) ?_
      refine lv_iconst (v := (3 : Int32)) hx hb dX10_say_48 (by decide) ?_
      obtain ⟨y25, h24, h⟩ := ob_R_some h
      refine c_VI E hw (kX10_ofDeed (l := l) (G := G) hB  h24) yy_X10_ofDeed lm_RX10_73 rfl (by decide) rfl rfl hl.1 (by decide) (by decide) rfl (Nat.le_of_ble_eq_true rfl) dX10_say_49 (fun H locs hw => ?_)
      refine lv_iload_n hx hb dX10_say_52 rfl (lv_at hl 1 rfl) ?_
      obtain ⟨y27, h26, h⟩ := ob_R_some h
      refine c_SI E hw (kX10_has (l := l) (G := G) hB  h26) yy_X10_has lm_RX10_346 rfl hl.1 (by decide) (by decide) rfl (Nat.le_of_ble_eq_true rfl) dX10_say_53 (fun H locs hw => ?_)
      refine lv_if_eq (tgt := 72) hx hb dX10_say_56 (by decide) (fun c33 => ?_) (fun c33 => ?_)
      · rw [if_pos c33] at h
        exact wX10_say_j72 E h kr hw (lv_sub hl [0, 1, 2] rfl)
      · rw [if_neg c33] at h
        refine lv_aload_n hx hb dX10_say_59 rfl (lv_at hl 0 rfl) ?_
        refine lv_iload_n hx hb dX10_say_60 rfl (lv_at hl 2 rfl) ?_
        refine lv_iconst (v := (4 : Int32)) hx hb dX10_say_61 (by decide) ?_
        obtain ⟨y29, h28, h⟩ := ob_R_some h
        refine c_VI E hw (kX10_ofDeed (l := l) (G := G) hB  h28) yy_X10_ofDeed lm_RX10_73 rfl (by decide) rfl rfl hl.1 (by decide) (by decide) rfl (Nat.le_of_ble_eq_true rfl) dX10_say_62 (fun H locs hw => ?_)
        refine lv_iload_n hx hb dX10_say_65 rfl (lv_at hl 1 rfl) ?_
        obtain ⟨y31, h30, h⟩ := ob_R_some h
        refine c_SI E hw (kX10_has (l := l) (G := G) hB  h30) yy_X10_has lm_RX10_346 rfl hl.1 (by decide) (by decide) rfl (Nat.le_of_ble_eq_true rfl) dX10_say_66 (fun H locs hw => ?_)
        refine lv_if_eq (tgt := 76) hx hb dX10_say_69 (by decide) (fun c32 => ?_) (fun c32 => ?_)
        · rw [if_pos c32] at h
          refine lv_iconst (v := (0 : Int32)) hx hb dX10_say_76 (by decide) ?_
          exact wX10_say_j77 E h kr hw (lv_sub hl [0, 1, 2] rfl)
        · rw [if_neg c32] at h
          exact wX10_say_j72 E h kr hw (lv_sub hl [0, 1, 2] rfl)
set_option maxHeartbeats 4000000 in
set_option maxRecDepth 100000 in
theorem wX10_say_j22 {p : Program} {l : Launch} {e : Env} {s : State} {m : MethodId} {args : Array Value} {below : List Frame} {meth : Method} {c : Code} {G : GT} {B : BGt} {Q : State → Prop} (E : En p s m args c meth cX10_say 3 RX10 (some .boolean) G B) {V : VT} {u1 : Int32} {u2 : Int32} {r : (Int32 × VT)} (h : fX10_say_j22 V u1 u2 = some r) (kr : Q = MQ below (QI G s.heap.size r.1 r.2) args s 0 0 (gA G s.heap.size)) {H : Heap} {locs : List Loc} {ls : Array Slot} (hw : HW G s.heap V H locs) (hl : lv_has ls 3 [(0, .ref (G.2.2 22)), (1, .int u1), (2, .int u2)]) : W p l e (rmD 7) s m args below meth c H locs 0 0 Q (F0 m 22 ls [.ref (G.2.2 22)]) := by
  have hx := en_x E
  have hb := en_b E
  have hB := en_B E
  unfold fX10_say_j22 at h
  refine lv_iconst (v := (1 : Int32)) hx hb dX10_say_22 (by decide) ?_
  refine lv_goto (tgt := 27) hx hb dX10_say_23 (by decide) ?_
  exact wX10_say_j27 E h kr hw (lv_sub hl [0, 1, 2] rfl)
set_option maxHeartbeats 4000000 in
set_option maxRecDepth 100000 in
theorem kX10_say {l : Launch} {G : GT} {B : BGt} (hB : BGok B) {V : VT} {x1 : Int32} {x2 : Int32} {r : (Int32 × VT)} (h : fX10_say V x1 x2 = some r) : CI l G B yX10_say (.code yX10_say cX10_say 3 (some .boolean)) 7 [.ref (G.2.2 22), .int x1, .int x2] V r.1 r.2 := by
  intro sz
  refine met_of (Qs := fun sz => QI G sz (r.1) (r.2)) hB (by decide) (Nat.le_of_ble_eq_true rfl) ?_ sz
  intro p e s m args below meth c ls E hw hl
  have hx := en_x E
  have hb := en_b E
  generalize hQ : MQ _ _ _ _ _ _ _ = Q
  have kr : Q = MQ below (QI G s.heap.size r.1 r.2) args s 0 0 (gA G s.heap.size) := hQ.symm
  have hl : lv_has ls 3 [(0, .ref (G.2.2 22)), (1, .int x1), (2, .int x2)] := hl
  obtain ⟨H, eH⟩ : ∃ H, H = s.heap := ⟨_, rfl⟩
  obtain ⟨locs, elocs⟩ : ∃ z : List Loc, z = [] := ⟨_, rfl⟩
  have hw : HW G s.heap V H locs := by rw [eH, elocs]; exact hw
  show W p l e _ s m args below meth c s.heap [] 0 0 Q (F0 m 0 ls [])
  rw [← eH, ← elocs]
  unfold fX10_say at h
  refine lv_aload_n hx hb dX10_say_0 rfl (lv_at hl 0 rfl) ?_
  refine lv_iconst (v := (0 : Int32)) hx hb dX10_say_1 (by decide) ?_
  obtain ⟨V1, eV1, h⟩ := lt_some h
  refine r_pi E hw 22 0 (N := 29) (C := RX10) (T := TX10) (ty0 := tyX10) (ty := .int) (by decide) rfl rfl (by decide) rfl iw_10 rfl tyX10_ok nmX10 rfl rfl (vp_nar_int _) rfl lf_RX10_3 eV1 dX10_say_2 (fun H locs hw => ?_)
  refine lv_aload_n hx hb dX10_say_5 rfl (lv_at hl 0 rfl) ?_
  refine lv_aload_n hx hb dX10_say_6 rfl (lv_at hl 0 rfl) ?_
  refine lv_iload_n hx hb dX10_say_7 rfl (lv_at hl 1 rfl) ?_
  obtain ⟨y3, h2, h⟩ := ob_R_some h
  refine c_VI E hw (kX10_noHouse (l := l) (G := G) hB  h2) yy_X10_noHouse lm_RX10_309 rfl (by decide) rfl rfl hl.1 (by decide) (by decide) rfl (Nat.le_of_ble_eq_true rfl) dX10_say_8 (fun H locs hw => ?_)
  refine lv_if_ne (tgt := 22) hx hb dX10_say_11 (by decide) (fun c39 => ?_) (fun c39 => ?_)
  · rw [if_neg c39] at h
    exact wX10_say_j22 E h kr hw (lv_sub hl [0, 1, 2] rfl)
  · rw [if_pos c39] at h
    refine lv_aload_n hx hb dX10_say_14 rfl (lv_at hl 0 rfl) ?_
    refine lv_iload_n hx hb dX10_say_15 rfl (lv_at hl 2 rfl) ?_
    obtain ⟨y37, h36, h⟩ := ob_R_some h
    refine c_VI E hw (kX10_noDeed (l := l) (G := G) hB  h36) yy_X10_noDeed lm_RX10_349 rfl (by decide) rfl rfl hl.1 (by decide) (by decide) rfl (Nat.le_of_ble_eq_true rfl) dX10_say_16 (fun H locs hw => ?_)
    refine lv_if_eq (tgt := 26) hx hb dX10_say_19 (by decide) (fun c38 => ?_) (fun c38 => ?_)
    · rw [if_pos c38] at h
      refine lv_iconst (v := (0 : Int32)) hx hb dX10_say_26 (by decide) ?_
      exact wX10_say_j27 E h kr hw (lv_sub hl [0, 1, 2] rfl)
    · rw [if_neg c38] at h
      exact wX10_say_j22 E h kr hw (lv_sub hl [0, 1, 2] rfl)
