/-! ===== AllSawItModel.holdsSome(Z)Z ===== -/
theorem dX10_holdsSome_0 : decode cX10_holdsSome 0 = .ok (.iconst 0, 1) := by decide +kernel
theorem dX10_holdsSome_1 : decode cX10_holdsSome 1 = .ok (.istore_n 2, 1) := by decide +kernel
theorem dX10_holdsSome_2 : decode cX10_holdsSome 2 = .ok (.iload_n 2, 1) := by decide +kernel
theorem dX10_holdsSome_3 : decode cX10_holdsSome 3 = .ok (.aload_n 0, 1) := by decide +kernel
theorem dX10_holdsSome_4 : decode cX10_holdsSome 4 = .ok (.getfield 13, 3) := by decide +kernel
theorem dX10_holdsSome_7 : decode cX10_holdsSome 7 = .ok (.sipush 314, 3) := by decide +kernel
theorem dX10_holdsSome_10 : decode cX10_holdsSome 10 = .ok (.iaload, 1) := by decide +kernel
theorem dX10_holdsSome_11 : decode cX10_holdsSome 11 = .ok (.if_icmp .ge 43, 3) := by decide +kernel
theorem dX10_holdsSome_14 : decode cX10_holdsSome 14 = .ok (.aload_n 0, 1) := by decide +kernel
theorem dX10_holdsSome_15 : decode cX10_holdsSome 15 = .ok (.getfield 13, 3) := by decide +kernel
theorem dX10_holdsSome_18 : decode cX10_holdsSome 18 = .ok (.sipush 315, 3) := by decide +kernel
theorem dX10_holdsSome_21 : decode cX10_holdsSome 21 = .ok (.iconst 3, 1) := by decide +kernel
theorem dX10_holdsSome_22 : decode cX10_holdsSome 22 = .ok (.iload_n 2, 1) := by decide +kernel
theorem dX10_holdsSome_23 : decode cX10_holdsSome 23 = .ok (.imul, 1) := by decide +kernel
theorem dX10_holdsSome_24 : decode cX10_holdsSome 24 = .ok (.iadd, 1) := by decide +kernel
theorem dX10_holdsSome_25 : decode cX10_holdsSome 25 = .ok (.iaload, 1) := by decide +kernel
theorem dX10_holdsSome_26 : decode cX10_holdsSome 26 = .ok (.iload_n 1, 1) := by decide +kernel
theorem dX10_holdsSome_27 : decode cX10_holdsSome 27 = .ok (.ifCond .eq 7, 3) := by decide +kernel
theorem dX10_holdsSome_30 : decode cX10_holdsSome 30 = .ok (.iconst 1, 1) := by decide +kernel
theorem dX10_holdsSome_31 : decode cX10_holdsSome 31 = .ok (.goto 4, 3) := by decide +kernel
theorem dX10_holdsSome_34 : decode cX10_holdsSome 34 = .ok (.iconst 0, 1) := by decide +kernel
theorem dX10_holdsSome_35 : decode cX10_holdsSome 35 = .ok (.if_icmp .ne 13, 3) := by decide +kernel
theorem dX10_holdsSome_38 : decode cX10_holdsSome 38 = .ok (.aload_n 0, 1) := by decide +kernel
theorem dX10_holdsSome_39 : decode cX10_holdsSome 39 = .ok (.iload_n 2, 1) := by decide +kernel
theorem dX10_holdsSome_40 : decode cX10_holdsSome 40 = .ok (.invokevirtual 284, 3) := by decide +kernel
theorem dX10_holdsSome_43 : decode cX10_holdsSome 43 = .ok (.ifCond .eq 5, 3) := by decide +kernel
theorem dX10_holdsSome_46 : decode cX10_holdsSome 46 = .ok (.iconst 1, 1) := by decide +kernel
theorem dX10_holdsSome_47 : decode cX10_holdsSome 47 = .ok (.ireturn, 1) := by decide +kernel
theorem dX10_holdsSome_48 : decode cX10_holdsSome 48 = .ok (.iinc 2 1, 3) := by decide +kernel
theorem dX10_holdsSome_51 : decode cX10_holdsSome 51 = .ok (.goto (-49), 3) := by decide +kernel
theorem dX10_holdsSome_54 : decode cX10_holdsSome 54 = .ok (.iconst 0, 1) := by decide +kernel
theorem dX10_holdsSome_55 : decode cX10_holdsSome 55 = .ok (.ireturn, 1) := by decide +kernel
noncomputable def fX10_holdsSome_j35_2 (V : VT) (u1 : Int32) (u2 : Int32) (t0 : Int32) (t1 : Int32) : Option ((VT × Int32 × Int32) ⊕ (Int32 × VT)) := if t1 = t0 then (ob_I (fX10_holdsLine V u2) fun y6 V7 => if y6 = 0 then (lt_ (u2 + (1 : Int32)) fun y8 => some (.inl (V7, u1, y8))) else (zo_ (1 : Int32) (some (.inr (((1 : Int32), V7)))))) else (lt_ (u2 + (1 : Int32)) fun y4 => some (.inl (V, u1, y4)))
noncomputable def fX10_holdsSome_L2 (V : VT) (u1 : Int32) (u2 : Int32) : Option ((VT × Int32 × Int32) ⊕ (Int32 × VT)) := rd_ (314 : Int32) 1988 (if (V 76 (314 : Int32).toNatClampNeg) ≤ u2 then (zo_ (0 : Int32) (some (.inr (((0 : Int32), V))))) else (rd_ ((315 : Int32) + ((3 : Int32) * u2)) 1988 (if u1 = 0 then (fX10_holdsSome_j35_2 V u1 u2 (0 : Int32) (V 76 ((315 : Int32) + ((3 : Int32) * u2)).toNatClampNeg)) else (fX10_holdsSome_j35_2 V u1 u2 (1 : Int32) (V 76 ((315 : Int32) + ((3 : Int32) * u2)).toNatClampNeg)))))
noncomputable def iX10_holdsSome_L2 : (VT × Int32 × Int32) → Option ((VT × Int32 × Int32) ⊕ (Int32 × VT)) := fun q => fX10_holdsSome_L2 (q.1) (q.2.1) (q.2.2)
noncomputable def fX10_holdsSome (V : VT) (x1 : Int32) : Option (Int32 × VT) := ob_R (it_ (iX10_holdsSome_L2) FV (V, x1, (0 : Int32))) fun x15 => some x15
set_option maxHeartbeats 4000000 in
set_option maxRecDepth 100000 in
theorem wX10_holdsSome_j35_2 {p : Program} {l : Launch} {e : Env} {s : State} {m : MethodId} {args : Array Value} {below : List Frame} {meth : Method} {c : Code} {G : GT} {B : BGt} {Q : State → Prop} (E : En p s m args c meth cX10_holdsSome 3 RX10 (some .boolean) G B) {V : VT} {u1 : Int32} {u2 : Int32} {t0 : Int32} {t1 : Int32} {r : ((VT × Int32 × Int32) ⊕ (Int32 × VT))} (h : fX10_holdsSome_j35_2 V u1 u2 t0 t1 = some r) (kc : ∀ q : (VT × Int32 × Int32), r = .inl q → ∀ (H : Heap) (locs : List Loc) (ls : Array Slot), HW G s.heap (q.1) H locs → lv_has ls 3 [(0, .ref (G.2.2 22)), (1, .int (q.2.1)), (2, .int (q.2.2))] → W p l e (rmD 8) s m args below meth c H locs 0 0 Q (F0 m 2 ls [])) (kr : ∀ q : (Int32 × VT), r = .inr (q) → Q = MQ below (QI G s.heap.size q.1 q.2) args s 0 0 (gA G s.heap.size)) {H : Heap} {locs : List Loc} {ls : Array Slot} (hw : HW G s.heap V H locs) (hl : lv_has ls 3 [(0, .ref (G.2.2 22)), (1, .int u1), (2, .int u2)]) : W p l e (rmD 8) s m args below meth c H locs 0 0 Q (F0 m 35 ls [.int t0, .int t1]) := by
  have hx := en_x E
  have hb := en_b E
  have hB := en_B E
  unfold fX10_holdsSome_j35_2 at h
  refine lv_icmp_ne (tgt := 48) hx hb dX10_holdsSome_35 (by decide) (fun c11 => ?_) (fun c11 => ?_)
  · rw [if_neg c11] at h
    obtain ⟨y4, ey4, h⟩ := lt_some h
    refine lv_iinc (v := y4) (lv' := [(2, .int y4), (0, .ref (G.2.2 22)), (1, .int u1)]) hx hb dX10_holdsSome_48 hl (k := 2) rfl (by rw [ey4]; rfl) (by decide) rfl (fun ls hl => ?_)
    refine lv_goto (tgt := 2) hx hb dX10_holdsSome_51 (by decide) ?_
    exact kc (V, u1, y4) (Option.some.inj h).symm H locs ls hw (lv_sub hl [1, 2, 0] rfl)
  · rw [if_pos c11] at h
    refine lv_aload_n hx hb dX10_holdsSome_38 rfl (lv_at hl 0 rfl) ?_
    refine lv_iload_n hx hb dX10_holdsSome_39 rfl (lv_at hl 2 rfl) ?_
    obtain ⟨y6, V7, h5, h⟩ := ob_I_some h
    refine c_VI E hw (kX10_holdsLine (l := l) (G := G) hB  h5) yy_X10_holdsLine lm_RX10_284 rfl (by decide) rfl rfl hl.1 (by decide) (by decide) rfl (Nat.le_of_ble_eq_true rfl) dX10_holdsSome_40 (fun H locs hw => ?_)
    refine lv_if_eq (tgt := 48) hx hb dX10_holdsSome_43 (by decide) (fun c10 => ?_) (fun c10 => ?_)
    · rw [if_pos c10] at h
      obtain ⟨y8, ey8, h⟩ := lt_some h
      refine lv_iinc (v := y8) (lv' := [(2, .int y8), (0, .ref (G.2.2 22)), (1, .int u1)]) hx hb dX10_holdsSome_48 hl (k := 2) rfl (by rw [ey8]; rfl) (by decide) rfl (fun ls hl => ?_)
      refine lv_goto (tgt := 2) hx hb dX10_holdsSome_51 (by decide) ?_
      exact kc (V7, u1, y8) (Option.some.inj h).symm H locs ls hw (lv_sub hl [1, 2, 0] rfl)
    · rw [if_neg c10] at h
      refine lv_iconst (v := (1 : Int32)) hx hb dX10_holdsSome_46 (by decide) ?_
      obtain ⟨z9, h⟩ := zo_some h
      rw [kr ((1 : Int32), V7) (Option.some.inj h).symm]
      exact r_rz E hw z9 dX10_holdsSome_47
set_option maxHeartbeats 4000000 in
set_option maxRecDepth 100000 in
theorem wX10_holdsSome_L2 {p : Program} {l : Launch} {e : Env} {s : State} {m : MethodId} {args : Array Value} {below : List Frame} {meth : Method} {c : Code} {G : GT} {B : BGt} {Q : State → Prop} (E : En p s m args c meth cX10_holdsSome 3 RX10 (some .boolean) G B) {x : (Int32 × VT)} (kr : ∀ q : (Int32 × VT), x = q → Q = MQ below (QI G s.heap.size q.1 q.2) args s 0 0 (gA G s.heap.size)) : ∀ (n : Nat) (q : (VT × Int32 × Int32)), it_ (iX10_holdsSome_L2) n q = some x → ∀ (H : Heap) (locs : List Loc) (ls : Array Slot), HW G s.heap (q.1) H locs → lv_has ls 3 [(0, .ref (G.2.2 22)), (1, .int (q.2.1)), (2, .int (q.2.2))] → W p l e (rmD 8) s m args below meth c H locs 0 0 Q (F0 m 2 ls []) := by
  have hx := en_x E
  have hb := en_b E
  have hB := en_B E
  refine it_W (fun q : (VT × Int32 × Int32) => ∀ (H : Heap) (locs : List Loc) (ls : Array Slot), HW G s.heap (q.1) H locs → lv_has ls 3 [(0, .ref (G.2.2 22)), (1, .int (q.2.1)), (2, .int (q.2.2))] → W p l e (rmD 8) s m args below meth c H locs 0 0 Q (F0 m 2 ls [])) x ?_
  intro q r h kc kx
  obtain ⟨V, u1, u2⟩ := q
  intro H locs ls hw hl
  have h : fX10_holdsSome_L2 V u1 u2 = some r := h
  have hw : HW G s.heap V H locs := hw
  have hl : lv_has ls 3 [(0, .ref (G.2.2 22)), (1, .int u1), (2, .int u2)] := hl
  have kr : ∀ q : (Int32 × VT), r = .inr (q) → Q = MQ below (QI G s.heap.size q.1 q.2) args s 0 0 (gA G s.heap.size) := fun q e => kr q (kx _ e).symm
  unfold fX10_holdsSome_L2 at h
  refine lv_iload_n hx hb dX10_holdsSome_2 rfl (lv_at hl 2 rfl) ?_
  refine lv_aload_n hx hb dX10_holdsSome_3 rfl (lv_at hl 0 rfl) ?_
  refine r_gr E hw 22 1 76 (N := 29) (C := RX10) (T := TX10) (by decide) rfl rfl (by decide) rfl iw_10 rfl lf_RX10_13 dX10_holdsSome_4 ?_
  refine lv_sipush (v := (314 : Int32)) hx hb dX10_holdsSome_7 (by decide) ?_
  obtain ⟨b1, h⟩ := rd_some h
  refine r_ia E hw 76 1988 (by decide) (by decide) (by decide) rfl rfl b1 dX10_holdsSome_10 ?_
  refine lv_icmp_ge (tgt := 54) hx hb dX10_holdsSome_11 (by decide) (fun c13 => ?_) (fun c13 => ?_)
  · rw [if_pos c13] at h
    refine lv_iconst (v := (0 : Int32)) hx hb dX10_holdsSome_54 (by decide) ?_
    obtain ⟨z2, h⟩ := zo_some h
    rw [kr ((0 : Int32), V) (Option.some.inj h).symm]
    exact r_rz E hw z2 dX10_holdsSome_55
  · rw [if_neg c13] at h
    refine lv_aload_n hx hb dX10_holdsSome_14 rfl (lv_at hl 0 rfl) ?_
    refine r_gr E hw 22 1 76 (N := 29) (C := RX10) (T := TX10) (by decide) rfl rfl (by decide) rfl iw_10 rfl lf_RX10_13 dX10_holdsSome_15 ?_
    refine lv_sipush (v := (315 : Int32)) hx hb dX10_holdsSome_18 (by decide) ?_
    refine lv_iconst (v := (3 : Int32)) hx hb dX10_holdsSome_21 (by decide) ?_
    refine lv_iload_n hx hb dX10_holdsSome_22 rfl (lv_at hl 2 rfl) ?_
    refine lv_imul hx hb dX10_holdsSome_23 ?_
    refine lv_iadd hx hb dX10_holdsSome_24 ?_
    obtain ⟨b3, h⟩ := rd_some h
    refine r_ia E hw 76 1988 (by decide) (by decide) (by decide) rfl rfl b3 dX10_holdsSome_25 ?_
    refine lv_iload_n hx hb dX10_holdsSome_26 rfl (lv_at hl 1 rfl) ?_
    refine lv_if_eq (tgt := 34) hx hb dX10_holdsSome_27 (by decide) (fun c12 => ?_) (fun c12 => ?_)
    · rw [if_pos c12] at h
      refine lv_iconst (v := (0 : Int32)) hx hb dX10_holdsSome_34 (by decide) ?_
      exact wX10_holdsSome_j35_2 E h kc kr hw (lv_sub hl [0, 1, 2] rfl)
    · rw [if_neg c12] at h
      refine lv_iconst (v := (1 : Int32)) hx hb dX10_holdsSome_30 (by decide) ?_
      refine lv_goto (tgt := 35) hx hb dX10_holdsSome_31 (by decide) ?_
      exact wX10_holdsSome_j35_2 E h kc kr hw (lv_sub hl [0, 1, 2] rfl)
set_option maxHeartbeats 4000000 in
set_option maxRecDepth 100000 in
theorem kX10_holdsSome {l : Launch} {G : GT} {B : BGt} (hB : BGok B) {V : VT} {x1 : Int32} {r : (Int32 × VT)} (h : fX10_holdsSome V x1 = some r) : CI l G B yX10_holdsSome (.code yX10_holdsSome cX10_holdsSome 3 (some .boolean)) 8 [.ref (G.2.2 22), .int x1] V r.1 r.2 := by
  intro sz
  refine met_of (Qs := fun sz => QI G sz (r.1) (r.2)) hB (by decide) (Nat.le_of_ble_eq_true rfl) ?_ sz
  intro p e s m args below meth c ls E hw hl
  have hx := en_x E
  have hb := en_b E
  generalize hQ : MQ _ _ _ _ _ _ _ = Q
  have kr : Q = MQ below (QI G s.heap.size r.1 r.2) args s 0 0 (gA G s.heap.size) := hQ.symm
  have hl : lv_has ls 3 [(0, .ref (G.2.2 22)), (1, .int x1)] := hl
  obtain ⟨H, eH⟩ : ∃ H, H = s.heap := ⟨_, rfl⟩
  obtain ⟨locs, elocs⟩ : ∃ z : List Loc, z = [] := ⟨_, rfl⟩
  have hw : HW G s.heap V H locs := by rw [eH, elocs]; exact hw
  show W p l e _ s m args below meth c s.heap [] 0 0 Q (F0 m 0 ls [])
  rw [← eH, ← elocs]
  unfold fX10_holdsSome at h
  refine lv_iconst (v := (0 : Int32)) hx hb dX10_holdsSome_0 (by decide) ?_
  refine lv_istore_n (lv' := [(2, .int (0 : Int32)), (0, .ref (G.2.2 22)), (1, .int x1)]) hx hb dX10_holdsSome_1 rfl hl (by decide) rfl (fun ls hl => ?_)
  obtain ⟨x15, h14, h⟩ := ob_R_some h
  have h := Option.some.inj h
  subst h
  exact wX10_holdsSome_L2 E (fun q e => by subst e; exact kr) FV (V, x1, (0 : Int32)) h14 H locs ls hw (lv_sub hl [1, 2, 0] rfl)
/-! ===== AllSawItModel.isSeen()Z ===== -/
theorem dX10_isSeen_0 : decode cX10_isSeen 0 = .ok (.aload_n 0, 1) := by decide +kernel
theorem dX10_isSeen_1 : decode cX10_isSeen 1 = .ok (.getfield 13, 3) := by decide +kernel
theorem dX10_isSeen_4 : decode cX10_isSeen 4 = .ok (.iconst 3, 1) := by decide +kernel
theorem dX10_isSeen_5 : decode cX10_isSeen 5 = .ok (.iaload, 1) := by decide +kernel
theorem dX10_isSeen_6 : decode cX10_isSeen 6 = .ok (.iconst 1, 1) := by decide +kernel
theorem dX10_isSeen_7 : decode cX10_isSeen 7 = .ok (.if_icmp .ne 25, 3) := by decide +kernel
theorem dX10_isSeen_10 : decode cX10_isSeen 10 = .ok (.aload_n 0, 1) := by decide +kernel
theorem dX10_isSeen_11 : decode cX10_isSeen 11 = .ok (.iconst 0, 1) := by decide +kernel
theorem dX10_isSeen_12 : decode cX10_isSeen 12 = .ok (.invokevirtual 287, 3) := by decide +kernel
theorem dX10_isSeen_15 : decode cX10_isSeen 15 = .ok (.ifCond .eq 15, 3) := by decide +kernel
theorem dX10_isSeen_18 : decode cX10_isSeen 18 = .ok (.aload_n 0, 1) := by decide +kernel
theorem dX10_isSeen_19 : decode cX10_isSeen 19 = .ok (.iconst 1, 1) := by decide +kernel
theorem dX10_isSeen_20 : decode cX10_isSeen 20 = .ok (.invokevirtual 287, 3) := by decide +kernel
theorem dX10_isSeen_23 : decode cX10_isSeen 23 = .ok (.ifCond .ne 7, 3) := by decide +kernel
theorem dX10_isSeen_26 : decode cX10_isSeen 26 = .ok (.iconst 1, 1) := by decide +kernel
theorem dX10_isSeen_27 : decode cX10_isSeen 27 = .ok (.goto 4, 3) := by decide +kernel
theorem dX10_isSeen_30 : decode cX10_isSeen 30 = .ok (.iconst 0, 1) := by decide +kernel
theorem dX10_isSeen_31 : decode cX10_isSeen 31 = .ok (.ireturn, 1) := by decide +kernel
theorem dX10_isSeen_32 : decode cX10_isSeen 32 = .ok (.aload_n 0, 1) := by decide +kernel
theorem dX10_isSeen_33 : decode cX10_isSeen 33 = .ok (.getfield 272, 3) := by decide +kernel
theorem dX10_isSeen_36 : decode cX10_isSeen 36 = .ok (.ifCond .eq 48, 3) := by decide +kernel
theorem dX10_isSeen_39 : decode cX10_isSeen 39 = .ok (.aload_n 0, 1) := by decide +kernel
theorem dX10_isSeen_40 : decode cX10_isSeen 40 = .ok (.invokevirtual 278, 3) := by decide +kernel
theorem dX10_isSeen_43 : decode cX10_isSeen 43 = .ok (.ifCond .eq 41, 3) := by decide +kernel
theorem dX10_isSeen_46 : decode cX10_isSeen 46 = .ok (.aload_n 0, 1) := by decide +kernel
theorem dX10_isSeen_47 : decode cX10_isSeen 47 = .ok (.getfield 275, 3) := by decide +kernel
theorem dX10_isSeen_50 : decode cX10_isSeen 50 = .ok (.ifCond .ne 34, 3) := by decide +kernel
theorem dX10_isSeen_53 : decode cX10_isSeen 53 = .ok (.aload_n 0, 1) := by decide +kernel
theorem dX10_isSeen_54 : decode cX10_isSeen 54 = .ok (.getfield 247, 3) := by decide +kernel
theorem dX10_isSeen_57 : decode cX10_isSeen 57 = .ok (.aload_n 0, 1) := by decide +kernel
theorem dX10_isSeen_58 : decode cX10_isSeen 58 = .ok (.aload_n 0, 1) := by decide +kernel
theorem dX10_isSeen_59 : decode cX10_isSeen 59 = .ok (.getfield 250, 3) := by decide +kernel
theorem dX10_isSeen_62 : decode cX10_isSeen 62 = .ok (.iconst 0, 1) := by decide +kernel
theorem dX10_isSeen_63 : decode cX10_isSeen 63 = .ok (.invokevirtual 236, 3) := by decide +kernel
theorem dX10_isSeen_66 : decode cX10_isSeen 66 = .ok (.isub, 1) := by decide +kernel
theorem dX10_isSeen_67 : decode cX10_isSeen 67 = .ok (.invokestatic 265, 3) := by decide +kernel
theorem dX10_isSeen_70 : decode cX10_isSeen 70 = .ok (.bipush 12, 2) := by decide +kernel
theorem dX10_isSeen_72 : decode cX10_isSeen 72 = .ok (.aload_n 0, 1) := by decide +kernel
theorem dX10_isSeen_73 : decode cX10_isSeen 73 = .ok (.getfield 269, 3) := by decide +kernel
theorem dX10_isSeen_76 : decode cX10_isSeen 76 = .ok (.isub, 1) := by decide +kernel
theorem dX10_isSeen_77 : decode cX10_isSeen 77 = .ok (.if_icmp .gt 7, 3) := by decide +kernel
theorem dX10_isSeen_80 : decode cX10_isSeen 80 = .ok (.iconst 1, 1) := by decide +kernel
theorem dX10_isSeen_81 : decode cX10_isSeen 81 = .ok (.goto 4, 3) := by decide +kernel
theorem dX10_isSeen_84 : decode cX10_isSeen 84 = .ok (.iconst 0, 1) := by decide +kernel
theorem dX10_isSeen_85 : decode cX10_isSeen 85 = .ok (.ireturn, 1) := by decide +kernel
noncomputable def fX10_isSeen (V : VT) : Option (Int32 × VT) := rd_ (3 : Int32) 1988 (if (V 76 (3 : Int32).toNatClampNeg) = (1 : Int32) then (ob_I (fX10_holdsSome V (0 : Int32)) fun y16 V17 => if y16 = 0 then (zo_ (0 : Int32) (some ((0 : Int32), V17))) else (ob_I (fX10_holdsSome V17 (1 : Int32)) fun y20 V21 => if y20 = 0 then (zo_ (1 : Int32) (some ((1 : Int32), V21))) else (zo_ (0 : Int32) (some ((0 : Int32), V21))))) else (if (V 22 23) = 0 then (zo_ (0 : Int32) (some ((0 : Int32), V))) else (ob_R (fX10_isInWindow V ) fun y4 => if y4 = 0 then (zo_ (0 : Int32) (some ((0 : Int32), V))) else (if (V 22 24) = 0 then (ob_R (fX10_of V (V 22 18) (0 : Int32)) fun y8 => if ((12 : Int32) - (V 22 21)) < (if 0 ≤ ((V 22 19) - y8) then ((V 22 19) - y8) else 0 - ((V 22 19) - y8)) then (zo_ (0 : Int32) (some ((0 : Int32), V))) else (zo_ (1 : Int32) (some ((1 : Int32), V)))) else (zo_ (0 : Int32) (some ((0 : Int32), V)))))))
set_option maxHeartbeats 4000000 in
set_option maxRecDepth 100000 in
theorem kX10_isSeen {l : Launch} {G : GT} {B : BGt} (hB : BGok B) {V : VT} {r : (Int32 × VT)} (h : fX10_isSeen V = some r) : CI l G B yX10_isSeen (.code yX10_isSeen cX10_isSeen 1 (some .boolean)) 9 [.ref (G.2.2 22)] V r.1 r.2 := by
  intro sz
  refine met_of (Qs := fun sz => QI G sz (r.1) (r.2)) hB (by decide) (Nat.le_of_ble_eq_true rfl) ?_ sz
  intro p e s m args below meth c ls E hw hl
  have hx := en_x E
  have hb := en_b E
  generalize hQ : MQ _ _ _ _ _ _ _ = Q
  have kr : Q = MQ below (QI G s.heap.size r.1 r.2) args s 0 0 (gA G s.heap.size) := hQ.symm
  have hl : lv_has ls 1 [(0, .ref (G.2.2 22))] := hl
  obtain ⟨H, eH⟩ : ∃ H, H = s.heap := ⟨_, rfl⟩
  obtain ⟨locs, elocs⟩ : ∃ z : List Loc, z = [] := ⟨_, rfl⟩
  have hw : HW G s.heap V H locs := by rw [eH, elocs]; exact hw
  show W p l e _ s m args below meth c s.heap [] 0 0 Q (F0 m 0 ls [])
  rw [← eH, ← elocs]
  unfold fX10_isSeen at h
  refine lv_aload_n hx hb dX10_isSeen_0 rfl (lv_at hl 0 rfl) ?_
  refine r_gr E hw 22 1 76 (N := 29) (C := RX10) (T := TX10) (by decide) rfl rfl (by decide) rfl iw_10 rfl lf_RX10_13 dX10_isSeen_1 ?_
  refine lv_iconst (v := (3 : Int32)) hx hb dX10_isSeen_4 (by decide) ?_
  obtain ⟨b1, h⟩ := rd_some h
  refine r_ia E hw 76 1988 (by decide) (by decide) (by decide) rfl rfl b1 dX10_isSeen_5 ?_
  refine lv_iconst (v := (1 : Int32)) hx hb dX10_isSeen_6 (by decide) ?_
  refine lv_icmp_ne (tgt := 32) hx hb dX10_isSeen_7 (by decide) (fun c26 => ?_) (fun c26 => ?_)
  · rw [if_neg c26] at h
    refine lv_aload_n hx hb dX10_isSeen_32 rfl (lv_at hl 0 rfl) ?_
    refine r_gi E hw 22 23 (N := 29) (C := RX10) (T := TX10) (by decide) rfl rfl (by decide) rfl iw_10 rfl lf_RX10_272 dX10_isSeen_33 ?_
    refine lv_if_eq (tgt := 84) hx hb dX10_isSeen_36 (by decide) (fun c14 => ?_) (fun c14 => ?_)
    · rw [if_pos c14] at h
      refine lv_iconst (v := (0 : Int32)) hx hb dX10_isSeen_84 (by decide) ?_
      obtain ⟨z2, h⟩ := zo_some h
      have h := Option.some.inj h
      subst h
      rw [kr]
      exact r_rz E hw z2 dX10_isSeen_85
    · rw [if_neg c14] at h
      refine lv_aload_n hx hb dX10_isSeen_39 rfl (lv_at hl 0 rfl) ?_
      obtain ⟨y4, h3, h⟩ := ob_R_some h
      refine c_VI E hw (kX10_isInWindow (l := l) (G := G) hB  h3) yy_X10_isInWindow lm_RX10_278 rfl (by decide) rfl rfl hl.1 (by decide) (by decide) rfl (Nat.le_of_ble_eq_true rfl) dX10_isSeen_40 (fun H locs hw => ?_)
      refine lv_if_eq (tgt := 84) hx hb dX10_isSeen_43 (by decide) (fun c13 => ?_) (fun c13 => ?_)
      · rw [if_pos c13] at h
        refine lv_iconst (v := (0 : Int32)) hx hb dX10_isSeen_84 (by decide) ?_
        obtain ⟨z5, h⟩ := zo_some h
        have h := Option.some.inj h
        subst h
        rw [kr]
        exact r_rz E hw z5 dX10_isSeen_85
      · rw [if_neg c13] at h
        refine lv_aload_n hx hb dX10_isSeen_46 rfl (lv_at hl 0 rfl) ?_
        refine r_gi E hw 22 24 (N := 29) (C := RX10) (T := TX10) (by decide) rfl rfl (by decide) rfl iw_10 rfl lf_RX10_275 dX10_isSeen_47 ?_
        refine lv_if_ne (tgt := 84) hx hb dX10_isSeen_50 (by decide) (fun c12 => ?_) (fun c12 => ?_)
        · rw [if_neg c12] at h
          refine lv_iconst (v := (0 : Int32)) hx hb dX10_isSeen_84 (by decide) ?_
          obtain ⟨z6, h⟩ := zo_some h
          have h := Option.some.inj h
          subst h
          rw [kr]
          exact r_rz E hw z6 dX10_isSeen_85
        · rw [if_pos c12] at h
          refine lv_aload_n hx hb dX10_isSeen_53 rfl (lv_at hl 0 rfl) ?_
          refine r_gi E hw 22 19 (N := 29) (C := RX10) (T := TX10) (by decide) rfl rfl (by decide) rfl iw_10 rfl lf_RX10_247 dX10_isSeen_54 ?_
          refine lv_aload_n hx hb dX10_isSeen_57 rfl (lv_at hl 0 rfl) ?_
          refine lv_aload_n hx hb dX10_isSeen_58 rfl (lv_at hl 0 rfl) ?_
          refine r_gi E hw 22 18 (N := 29) (C := RX10) (T := TX10) (by decide) rfl rfl (by decide) rfl iw_10 rfl lf_RX10_250 dX10_isSeen_59 ?_
          refine lv_iconst (v := (0 : Int32)) hx hb dX10_isSeen_62 (by decide) ?_
          obtain ⟨y8, h7, h⟩ := ob_R_some h
          refine c_VI E hw (kX10_of (l := l) (G := G) hB  h7) yy_X10_of lm_RX10_236 rfl (by decide) rfl rfl hl.1 (by decide) (by decide) rfl (Nat.le_of_ble_eq_true rfl) dX10_isSeen_63 (fun H locs hw => ?_)
          refine lv_isub hx hb dX10_isSeen_66 ?_
          refine r_abs E hl.1 lm_RX10_265 (by decide) (Nat.le_of_ble_eq_true rfl) dX10_isSeen_67 ?_
          refine lv_bipush (v := (12 : Int32)) hx hb dX10_isSeen_70 (by decide) ?_
          refine lv_aload_n hx hb dX10_isSeen_72 rfl (lv_at hl 0 rfl) ?_
          refine r_gi E hw 22 21 (N := 29) (C := RX10) (T := TX10) (by decide) rfl rfl (by decide) rfl iw_10 rfl lf_RX10_269 dX10_isSeen_73 ?_
          refine lv_isub hx hb dX10_isSeen_76 ?_
          refine lv_icmp_gt (tgt := 84) hx hb dX10_isSeen_77 (by decide) (fun c11 => ?_) (fun c11 => ?_)
          · rw [if_pos c11] at h
            refine lv_iconst (v := (0 : Int32)) hx hb dX10_isSeen_84 (by decide) ?_
            obtain ⟨z9, h⟩ := zo_some h
            have h := Option.some.inj h
            subst h
            rw [kr]
            exact r_rz E hw z9 dX10_isSeen_85
          · rw [if_neg c11] at h
            refine lv_iconst (v := (1 : Int32)) hx hb dX10_isSeen_80 (by decide) ?_
            refine lv_goto (tgt := 85) hx hb dX10_isSeen_81 (by decide) ?_
            obtain ⟨z10, h⟩ := zo_some h
            have h := Option.some.inj h
            subst h
            rw [kr]
            exact r_rz E hw z10 dX10_isSeen_85
  · rw [if_pos c26] at h
    refine lv_aload_n hx hb dX10_isSeen_10 rfl (lv_at hl 0 rfl) ?_
    refine lv_iconst (v := (0 : Int32)) hx hb dX10_isSeen_11 (by decide) ?_
    obtain ⟨y16, V17, h15, h⟩ := ob_I_some h
    refine c_VI E hw (kX10_holdsSome (l := l) (G := G) hB  h15) yy_X10_holdsSome lm_RX10_287 rfl (by decide) rfl rfl hl.1 (by decide) (by decide) rfl (Nat.le_of_ble_eq_true rfl) dX10_isSeen_12 (fun H locs hw => ?_)
    refine lv_if_eq (tgt := 30) hx hb dX10_isSeen_15 (by decide) (fun c25 => ?_) (fun c25 => ?_)
    · rw [if_pos c25] at h
      refine lv_iconst (v := (0 : Int32)) hx hb dX10_isSeen_30 (by decide) ?_
      obtain ⟨z18, h⟩ := zo_some h
      have h := Option.some.inj h
      subst h
      rw [kr]
      exact r_rz E hw z18 dX10_isSeen_31
    · rw [if_neg c25] at h
      refine lv_aload_n hx hb dX10_isSeen_18 rfl (lv_at hl 0 rfl) ?_
      refine lv_iconst (v := (1 : Int32)) hx hb dX10_isSeen_19 (by decide) ?_
      obtain ⟨y20, V21, h19, h⟩ := ob_I_some h
      refine c_VI E hw (kX10_holdsSome (l := l) (G := G) hB  h19) yy_X10_holdsSome lm_RX10_287 rfl (by decide) rfl rfl hl.1 (by decide) (by decide) rfl (Nat.le_of_ble_eq_true rfl) dX10_isSeen_20 (fun H locs hw => ?_)
      refine lv_if_ne (tgt := 30) hx hb dX10_isSeen_23 (by decide) (fun c24 => ?_) (fun c24 => ?_)
      · rw [if_neg c24] at h
        refine lv_iconst (v := (0 : Int32)) hx hb dX10_isSeen_30 (by decide) ?_
        obtain ⟨z22, h⟩ := zo_some h
        have h := Option.some.inj h
        subst h
        rw [kr]
        exact r_rz E hw z22 dX10_isSeen_31
      · rw [if_pos c24] at h
        refine lv_iconst (v := (1 : Int32)) hx hb dX10_isSeen_26 (by decide) ?_
        refine lv_goto (tgt := 31) hx hb dX10_isSeen_27 (by decide) ?_
        obtain ⟨z23, h⟩ := zo_some h
        have h := Option.some.inj h
        subst h
        rw [kr]
        exact r_rz E hw z23 dX10_isSeen_31
/-! ===== AllSawItModel.isUp(II)Z ===== -/
theorem dX10_isUp_0 : decode cX10_isUp 0 = .ok (.iload_n 2, 1) := by decide +kernel
theorem dX10_isUp_1 : decode cX10_isUp 1 = .ok (.aload_n 0, 1) := by decide +kernel
theorem dX10_isUp_2 : decode cX10_isUp 2 = .ok (.iload_n 1, 1) := by decide +kernel
theorem dX10_isUp_3 : decode cX10_isUp 3 = .ok (.iconst 3, 1) := by decide +kernel
theorem dX10_isUp_4 : decode cX10_isUp 4 = .ok (.invokevirtual 236, 3) := by decide +kernel
theorem dX10_isUp_7 : decode cX10_isUp 7 = .ok (.isub, 1) := by decide +kernel
theorem dX10_isUp_8 : decode cX10_isUp 8 = .ok (.bipush 24, 2) := by decide +kernel
theorem dX10_isUp_10 : decode cX10_isUp 10 = .ok (.iadd, 1) := by decide +kernel
theorem dX10_isUp_11 : decode cX10_isUp 11 = .ok (.bipush 24, 2) := by decide +kernel
theorem dX10_isUp_13 : decode cX10_isUp 13 = .ok (.irem, 1) := by decide +kernel
theorem dX10_isUp_14 : decode cX10_isUp 14 = .ok (.aload_n 0, 1) := by decide +kernel
theorem dX10_isUp_15 : decode cX10_isUp 15 = .ok (.iload_n 1, 1) := by decide +kernel
theorem dX10_isUp_16 : decode cX10_isUp 16 = .ok (.iconst 4, 1) := by decide +kernel
theorem dX10_isUp_17 : decode cX10_isUp 17 = .ok (.invokevirtual 236, 3) := by decide +kernel
theorem dX10_isUp_20 : decode cX10_isUp 20 = .ok (.if_icmp .ge 7, 3) := by decide +kernel
theorem dX10_isUp_23 : decode cX10_isUp 23 = .ok (.iconst 1, 1) := by decide +kernel
theorem dX10_isUp_24 : decode cX10_isUp 24 = .ok (.goto 4, 3) := by decide +kernel
theorem dX10_isUp_27 : decode cX10_isUp 27 = .ok (.iconst 0, 1) := by decide +kernel
theorem dX10_isUp_28 : decode cX10_isUp 28 = .ok (.ireturn, 1) := by decide +kernel
noncomputable def fX10_isUp (V : VT) (x1 : Int32) (x2 : Int32) : Option Int32 := ob_R (fX10_of V x1 (3 : Int32)) fun y2 => ob_R (fX10_of V x1 (4 : Int32)) fun y4 => if y4 ≤ (((x2 - y2) + (24 : Int32)) - ((x2 - y2) + (24 : Int32)) / (24 : Int32) * (24 : Int32)) then (zo_ (0 : Int32) (some (0 : Int32))) else (zo_ (1 : Int32) (some (1 : Int32)))
set_option maxHeartbeats 4000000 in
set_option maxRecDepth 100000 in
theorem kX10_isUp {l : Launch} {G : GT} {B : BGt} (hB : BGok B) {V : VT} {x1 : Int32} {x2 : Int32} {r : Int32} (h : fX10_isUp V x1 x2 = some r) : CI l G B yX10_isUp (.code yX10_isUp cX10_isUp 3 (some .boolean)) 4 [.ref (G.2.2 22), .int x1, .int x2] V r V := by
  intro sz
  refine met_of (Qs := fun sz => QI G sz r V) hB (by decide) (Nat.le_of_ble_eq_true rfl) ?_ sz
  intro p e s m args below meth c ls E hw hl
  have hx := en_x E
  have hb := en_b E
  generalize hQ : MQ _ _ _ _ _ _ _ = Q
  have kr : Q = MQ below (QI G s.heap.size r V) args s 0 0 (gA G s.heap.size) := hQ.symm
  have hl : lv_has ls 3 [(0, .ref (G.2.2 22)), (1, .int x1), (2, .int x2)] := hl
  obtain ⟨H, eH⟩ : ∃ H, H = s.heap := ⟨_, rfl⟩
  obtain ⟨locs, elocs⟩ : ∃ z : List Loc, z = [] := ⟨_, rfl⟩
  have hw : HW G s.heap V H locs := by rw [eH, elocs]; exact hw
  show W p l e _ s m args below meth c s.heap [] 0 0 Q (F0 m 0 ls [])
  rw [← eH, ← elocs]
  unfold fX10_isUp at h
  refine lv_iload_n hx hb dX10_isUp_0 rfl (lv_at hl 2 rfl) ?_
  refine lv_aload_n hx hb dX10_isUp_1 rfl (lv_at hl 0 rfl) ?_
  refine lv_iload_n hx hb dX10_isUp_2 rfl (lv_at hl 1 rfl) ?_
  refine lv_iconst (v := (3 : Int32)) hx hb dX10_isUp_3 (by decide) ?_
  obtain ⟨y2, h1, h⟩ := ob_R_some h
  refine c_VI E hw (kX10_of (l := l) (G := G) hB  h1) yy_X10_of lm_RX10_236 rfl (by decide) rfl rfl hl.1 (by decide) (by decide) rfl (Nat.le_of_ble_eq_true rfl) dX10_isUp_4 (fun H locs hw => ?_)
  refine lv_isub hx hb dX10_isUp_7 ?_
  refine lv_bipush (v := (24 : Int32)) hx hb dX10_isUp_8 (by decide) ?_
  refine lv_iadd hx hb dX10_isUp_10 ?_
  refine lv_bipush (v := (24 : Int32)) hx hb dX10_isUp_11 (by decide) ?_
  refine lv_irem hx hb dX10_isUp_13 (by decide) ?_
  refine lv_aload_n hx hb dX10_isUp_14 rfl (lv_at hl 0 rfl) ?_
  refine lv_iload_n hx hb dX10_isUp_15 rfl (lv_at hl 1 rfl) ?_
  refine lv_iconst (v := (4 : Int32)) hx hb dX10_isUp_16 (by decide) ?_
  obtain ⟨y4, h3, h⟩ := ob_R_some h
  refine c_VI E hw (kX10_of (l := l) (G := G) hB  h3) yy_X10_of lm_RX10_236 rfl (by decide) rfl rfl hl.1 (by decide) (by decide) rfl (Nat.le_of_ble_eq_true rfl) dX10_isUp_17 (fun H locs hw => ?_)
  refine lv_icmp_ge (tgt := 27) hx hb dX10_isUp_20 (by decide) (fun c7 => ?_) (fun c7 => ?_)
  · rw [if_pos c7] at h
    refine lv_iconst (v := (0 : Int32)) hx hb dX10_isUp_27 (by decide) ?_
    obtain ⟨z5, h⟩ := zo_some h
    have h := Option.some.inj h
    subst h
    rw [kr]
    exact r_rz E hw z5 dX10_isUp_28
  · rw [if_neg c7] at h
    refine lv_iconst (v := (1 : Int32)) hx hb dX10_isUp_23 (by decide) ?_
    refine lv_goto (tgt := 28) hx hb dX10_isUp_24 (by decide) ?_
    obtain ⟨z6, h⟩ := zo_some h
    have h := Option.some.inj h
    subst h
    rw [kr]
    exact r_rz E hw z6 dX10_isUp_28
/-! ===== AllSawItModel.looks(IIII)V ===== -/
theorem dX10_looks_0 : decode cX10_looks 0 = .ok (.aload_n 0, 1) := by decide +kernel
theorem dX10_looks_1 : decode cX10_looks 1 = .ok (.iload_n 1, 1) := by decide +kernel
theorem dX10_looks_2 : decode cX10_looks 2 = .ok (.putfield 250, 3) := by decide +kernel
theorem dX10_looks_5 : decode cX10_looks 5 = .ok (.aload_n 0, 1) := by decide +kernel
theorem dX10_looks_6 : decode cX10_looks 6 = .ok (.iload_n 2, 1) := by decide +kernel
theorem dX10_looks_7 : decode cX10_looks 7 = .ok (.putfield 247, 3) := by decide +kernel
theorem dX10_looks_10 : decode cX10_looks 10 = .ok (.aload_n 0, 1) := by decide +kernel
theorem dX10_looks_11 : decode cX10_looks 11 = .ok (.iload_n 3, 1) := by decide +kernel
theorem dX10_looks_12 : decode cX10_looks 12 = .ok (.putfield 262, 3) := by decide +kernel
theorem dX10_looks_15 : decode cX10_looks 15 = .ok (.aload_n 0, 1) := by decide +kernel
theorem dX10_looks_16 : decode cX10_looks 16 = .ok (.iload 4, 2) := by decide +kernel
theorem dX10_looks_18 : decode cX10_looks 18 = .ok (.putfield 269, 3) := by decide +kernel
theorem dX10_looks_21 : decode cX10_looks 21 = .ok (.aload_n 0, 1) := by decide +kernel
theorem dX10_looks_22 : decode cX10_looks 22 = .ok (.aload_n 0, 1) := by decide +kernel
theorem dX10_looks_23 : decode cX10_looks 23 = .ok (.iload_n 1, 1) := by decide +kernel
theorem dX10_looks_24 : decode cX10_looks 24 = .ok (.bipush 6, 2) := by decide +kernel
theorem dX10_looks_26 : decode cX10_looks 26 = .ok (.invokevirtual 236, 3) := by decide +kernel
theorem dX10_looks_29 : decode cX10_looks 29 = .ok (.putfield 253, 3) := by decide +kernel
theorem dX10_looks_32 : decode cX10_looks 32 = .ok (.aload_n 0, 1) := by decide +kernel
theorem dX10_looks_33 : decode cX10_looks 33 = .ok (.aload_n 0, 1) := by decide +kernel
theorem dX10_looks_34 : decode cX10_looks 34 = .ok (.iload_n 1, 1) := by decide +kernel
theorem dX10_looks_35 : decode cX10_looks 35 = .ok (.iload_n 3, 1) := by decide +kernel
theorem dX10_looks_36 : decode cX10_looks 36 = .ok (.invokevirtual 291, 3) := by decide +kernel
theorem dX10_looks_39 : decode cX10_looks 39 = .ok (.putfield 272, 3) := by decide +kernel
theorem dX10_looks_42 : decode cX10_looks 42 = .ok (.aload_n 0, 1) := by decide +kernel
theorem dX10_looks_43 : decode cX10_looks 43 = .ok (.aload_n 0, 1) := by decide +kernel
theorem dX10_looks_44 : decode cX10_looks 44 = .ok (.iload_n 1, 1) := by decide +kernel
theorem dX10_looks_45 : decode cX10_looks 45 = .ok (.bipush 7, 2) := by decide +kernel
theorem dX10_looks_47 : decode cX10_looks 47 = .ok (.invokevirtual 236, 3) := by decide +kernel
theorem dX10_looks_50 : decode cX10_looks 50 = .ok (.iconst 1, 1) := by decide +kernel
theorem dX10_looks_51 : decode cX10_looks 51 = .ok (.if_icmp .ne 7, 3) := by decide +kernel
theorem dX10_looks_54 : decode cX10_looks 54 = .ok (.iconst 1, 1) := by decide +kernel
theorem dX10_looks_55 : decode cX10_looks 55 = .ok (.goto 4, 3) := by decide +kernel
theorem dX10_looks_58 : decode cX10_looks 58 = .ok (.iconst 0, 1) := by decide +kernel
theorem dX10_looks_59 : decode cX10_looks 59 = .ok (.putfield 275, 3) := by decide +kernel
theorem dX10_looks_62 : decode cX10_looks 62 = .ok (.return_, 1) := by decide +kernel
noncomputable def fX10_looks (V : VT) (x1 : Int32) (x2 : Int32) (x3 : Int32) (x4 : Int32) : Option VT := lt_ (va_up V 22 (upd (V 22) 18 x1)) fun V1 => lt_ (va_up V1 22 (upd (V1 22) 19 x2)) fun V2 => lt_ (va_up V2 22 (upd (V2 22) 20 x3)) fun V3 => lt_ (va_up V3 22 (upd (V3 22) 21 x4)) fun V4 => ob_R (fX10_of V4 x1 (6 : Int32)) fun y6 => lt_ (va_up V4 22 (upd (V4 22) 22 y6)) fun V7 => ob_R (fX10_isUp V7 x1 x3) fun y9 => zo_ y9 (lt_ (va_up V7 22 (upd (V7 22) 23 y9)) fun V10 => ob_R (fX10_of V10 x1 (7 : Int32)) fun y12 => if y12 = (1 : Int32) then (zo_ (1 : Int32) (lt_ (va_up V10 22 (upd (V10 22) 24 (1 : Int32))) fun V15 => some V15)) else (zo_ (0 : Int32) (lt_ (va_up V10 22 (upd (V10 22) 24 (0 : Int32))) fun V13 => some V13)))
set_option maxHeartbeats 4000000 in
set_option maxRecDepth 100000 in
theorem kX10_looks {l : Launch} {G : GT} {B : BGt} (hB : BGok B) {V : VT} {x1 : Int32} {x2 : Int32} {x3 : Int32} {x4 : Int32} {r : VT} (h : fX10_looks V x1 x2 x3 x4 = some r) : CV l G B yX10_looks (.code yX10_looks cX10_looks 5 none) 5 [.ref (G.2.2 22), .int x1, .int x2, .int x3, .int x4] V r := by
  intro sz
  refine met_of (Qs := fun sz => QV G sz r) hB (by decide) (Nat.le_of_ble_eq_true rfl) ?_ sz
  intro p e s m args below meth c ls E hw hl
  have hx := en_x E
  have hb := en_b E
  generalize hQ : MQ _ _ _ _ _ _ _ = Q
  have kr : Q = MQ below (QV G s.heap.size r) args s 0 0 (gA G s.heap.size) := hQ.symm
  have hl : lv_has ls 5 [(0, .ref (G.2.2 22)), (1, .int x1), (2, .int x2), (3, .int x3), (4, .int x4)] := hl
  obtain ⟨H, eH⟩ : ∃ H, H = s.heap := ⟨_, rfl⟩
  obtain ⟨locs, elocs⟩ : ∃ z : List Loc, z = [] := ⟨_, rfl⟩
  have hw : HW G s.heap V H locs := by rw [eH, elocs]; exact hw
  show W p l e _ s m args below meth c s.heap [] 0 0 Q (F0 m 0 ls [])
  rw [← eH, ← elocs]
  unfold fX10_looks at h
  refine lv_aload_n hx hb dX10_looks_0 rfl (lv_at hl 0 rfl) ?_
  refine lv_iload_n hx hb dX10_looks_1 rfl (lv_at hl 1 rfl) ?_
  obtain ⟨V1, eV1, h⟩ := lt_some h
  refine r_pi E hw 22 18 (N := 29) (C := RX10) (T := TX10) (ty0 := tyX10) (ty := .int) (by decide) rfl rfl (by decide) rfl iw_10 rfl tyX10_ok nmX10 rfl rfl (vp_nar_int _) rfl lf_RX10_250 eV1 dX10_looks_2 (fun H locs hw => ?_)
  refine lv_aload_n hx hb dX10_looks_5 rfl (lv_at hl 0 rfl) ?_
  refine lv_iload_n hx hb dX10_looks_6 rfl (lv_at hl 2 rfl) ?_
  obtain ⟨V2, eV2, h⟩ := lt_some h
  refine r_pi E hw 22 19 (N := 29) (C := RX10) (T := TX10) (ty0 := tyX10) (ty := .int) (by decide) rfl rfl (by decide) rfl iw_10 rfl tyX10_ok nmX10 rfl rfl (vp_nar_int _) rfl lf_RX10_247 eV2 dX10_looks_7 (fun H locs hw => ?_)
  refine lv_aload_n hx hb dX10_looks_10 rfl (lv_at hl 0 rfl) ?_
  refine lv_iload_n hx hb dX10_looks_11 rfl (lv_at hl 3 rfl) ?_
  obtain ⟨V3, eV3, h⟩ := lt_some h
  refine r_pi E hw 22 20 (N := 29) (C := RX10) (T := TX10) (ty0 := tyX10) (ty := .int) (by decide) rfl rfl (by decide) rfl iw_10 rfl tyX10_ok nmX10 rfl rfl (vp_nar_int _) rfl lf_RX10_262 eV3 dX10_looks_12 (fun H locs hw => ?_)
  refine lv_aload_n hx hb dX10_looks_15 rfl (lv_at hl 0 rfl) ?_
  refine lv_iload hx hb dX10_looks_16 (lv_at hl 4 rfl) ?_
  obtain ⟨V4, eV4, h⟩ := lt_some h
  refine r_pi E hw 22 21 (N := 29) (C := RX10) (T := TX10) (ty0 := tyX10) (ty := .int) (by decide) rfl rfl (by decide) rfl iw_10 rfl tyX10_ok nmX10 rfl rfl (vp_nar_int _) rfl lf_RX10_269 eV4 dX10_looks_18 (fun H locs hw => ?_)
  refine lv_aload_n hx hb dX10_looks_21 rfl (lv_at hl 0 rfl) ?_
  refine lv_aload_n hx hb dX10_looks_22 rfl (lv_at hl 0 rfl) ?_
  refine lv_iload_n hx hb dX10_looks_23 rfl (lv_at hl 1 rfl) ?_
  refine lv_bipush (v := (6 : Int32)) hx hb dX10_looks_24 (by decide) ?_
  obtain ⟨y6, h5, h⟩ := ob_R_some h
  refine c_VI E hw (kX10_of (l := l) (G := G) hB  h5) yy_X10_of lm_RX10_236 rfl (by decide) rfl rfl hl.1 (by decide) (by decide) rfl (Nat.le_of_ble_eq_true rfl) dX10_looks_26 (fun H locs hw => ?_)
  obtain ⟨V7, eV7, h⟩ := lt_some h
  refine r_pi E hw 22 22 (N := 29) (C := RX10) (T := TX10) (ty0 := tyX10) (ty := .int) (by decide) rfl rfl (by decide) rfl iw_10 rfl tyX10_ok nmX10 rfl rfl (vp_nar_int _) rfl lf_RX10_253 eV7 dX10_looks_29 (fun H locs hw => ?_)
  refine lv_aload_n hx hb dX10_looks_32 rfl (lv_at hl 0 rfl) ?_
  refine lv_aload_n hx hb dX10_looks_33 rfl (lv_at hl 0 rfl) ?_
  refine lv_iload_n hx hb dX10_looks_34 rfl (lv_at hl 1 rfl) ?_
  refine lv_iload_n hx hb dX10_looks_35 rfl (lv_at hl 3 rfl) ?_
  obtain ⟨y9, h8, h⟩ := ob_R_some h
  refine c_VI E hw (kX10_isUp (l := l) (G := G) hB  h8) yy_X10_isUp lm_RX10_291 rfl (by decide) rfl rfl hl.1 (by decide) (by decide) rfl (Nat.le_of_ble_eq_true rfl) dX10_looks_36 (fun H locs hw => ?_)
  obtain ⟨z18, h⟩ := zo_some h
  obtain ⟨V10, eV10, h⟩ := lt_some h
  refine r_pi E hw 22 23 (N := 29) (C := RX10) (T := TX10) (ty0 := tyX10) (ty := .boolean) (by decide) rfl rfl (by decide) rfl iw_10 rfl tyX10_ok nmX10 rfl rfl (nar_z z18) (fit_z z18) lf_RX10_272 eV10 dX10_looks_39 (fun H locs hw => ?_)
  refine lv_aload_n hx hb dX10_looks_42 rfl (lv_at hl 0 rfl) ?_
  refine lv_aload_n hx hb dX10_looks_43 rfl (lv_at hl 0 rfl) ?_
  refine lv_iload_n hx hb dX10_looks_44 rfl (lv_at hl 1 rfl) ?_
  refine lv_bipush (v := (7 : Int32)) hx hb dX10_looks_45 (by decide) ?_
  obtain ⟨y12, h11, h⟩ := ob_R_some h
  refine c_VI E hw (kX10_of (l := l) (G := G) hB  h11) yy_X10_of lm_RX10_236 rfl (by decide) rfl rfl hl.1 (by decide) (by decide) rfl (Nat.le_of_ble_eq_true rfl) dX10_looks_47 (fun H locs hw => ?_)
  refine lv_iconst (v := (1 : Int32)) hx hb dX10_looks_50 (by decide) ?_
  refine lv_icmp_ne (tgt := 58) hx hb dX10_looks_51 (by decide) (fun c17 => ?_) (fun c17 => ?_)
  · rw [if_neg c17] at h
    refine lv_iconst (v := (0 : Int32)) hx hb dX10_looks_58 (by decide) ?_
    obtain ⟨z14, h⟩ := zo_some h
    obtain ⟨V13, eV13, h⟩ := lt_some h
    refine r_pi E hw 22 24 (N := 29) (C := RX10) (T := TX10) (ty0 := tyX10) (ty := .boolean) (by decide) rfl rfl (by decide) rfl iw_10 rfl tyX10_ok nmX10 rfl rfl (nar_z z14) (fit_z z14) lf_RX10_275 eV13 dX10_looks_59 (fun H locs hw => ?_)
    have h := Option.some.inj h
    subst h
    rw [kr]
    exact r_rv E hw dX10_looks_62
  · rw [if_pos c17] at h
    refine lv_iconst (v := (1 : Int32)) hx hb dX10_looks_54 (by decide) ?_
    refine lv_goto (tgt := 59) hx hb dX10_looks_55 (by decide) ?_
    obtain ⟨z16, h⟩ := zo_some h
    obtain ⟨V15, eV15, h⟩ := lt_some h
    refine r_pi E hw 22 24 (N := 29) (C := RX10) (T := TX10) (ty0 := tyX10) (ty := .boolean) (by decide) rfl rfl (by decide) rfl iw_10 rfl tyX10_ok nmX10 rfl rfl (nar_z z16) (fit_z z16) lf_RX10_275 eV15 dX10_looks_59 (fun H locs hw => ?_)
    have h := Option.some.inj h
    subst h
    rw [kr]
    exact r_rv E hw dX10_looks_62
/-! ===== AllSawItModel.doesSee(IIII)Z ===== -/
theorem dX10_doesSee_0 : decode cX10_doesSee 0 = .ok (.aload_n 0, 1) := by decide +kernel
theorem dX10_doesSee_1 : decode cX10_doesSee 1 = .ok (.iload_n 1, 1) := by decide +kernel
theorem dX10_doesSee_2 : decode cX10_doesSee 2 = .ok (.iload_n 2, 1) := by decide +kernel
theorem dX10_doesSee_3 : decode cX10_doesSee 3 = .ok (.iload_n 3, 1) := by decide +kernel
theorem dX10_doesSee_4 : decode cX10_doesSee 4 = .ok (.iload 4, 2) := by decide +kernel
theorem dX10_doesSee_6 : decode cX10_doesSee 6 = .ok (.invokevirtual 294, 3) := by decide +kernel
theorem dX10_doesSee_9 : decode cX10_doesSee 9 = .ok (.aload_n 0, 1) := by decide +kernel
theorem dX10_doesSee_10 : decode cX10_doesSee 10 = .ok (.invokevirtual 298, 3) := by decide +kernel
theorem dX10_doesSee_13 : decode cX10_doesSee 13 = .ok (.ireturn, 1) := by decide +kernel
noncomputable def fX10_doesSee (V : VT) (x1 : Int32) (x2 : Int32) (x3 : Int32) (x4 : Int32) : Option (Int32 × VT) := ob_R (fX10_looks V x1 x2 x3 x4) fun V2 => ob_I (fX10_isSeen V2 ) fun y4 V5 => zo_ y4 (some (y4, V5))
set_option maxHeartbeats 4000000 in
set_option maxRecDepth 100000 in
theorem kX10_doesSee {l : Launch} {G : GT} {B : BGt} (hB : BGok B) {V : VT} {x1 : Int32} {x2 : Int32} {x3 : Int32} {x4 : Int32} {r : (Int32 × VT)} (h : fX10_doesSee V x1 x2 x3 x4 = some r) : CI l G B yX10_doesSee (.code yX10_doesSee cX10_doesSee 5 (some .boolean)) 10 [.ref (G.2.2 22), .int x1, .int x2, .int x3, .int x4] V r.1 r.2 := by
  intro sz
  refine met_of (Qs := fun sz => QI G sz (r.1) (r.2)) hB (by decide) (Nat.le_of_ble_eq_true rfl) ?_ sz
  intro p e s m args below meth c ls E hw hl
  have hx := en_x E
  have hb := en_b E
  generalize hQ : MQ _ _ _ _ _ _ _ = Q
  have kr : Q = MQ below (QI G s.heap.size r.1 r.2) args s 0 0 (gA G s.heap.size) := hQ.symm
  have hl : lv_has ls 5 [(0, .ref (G.2.2 22)), (1, .int x1), (2, .int x2), (3, .int x3), (4, .int x4)] := hl
  obtain ⟨H, eH⟩ : ∃ H, H = s.heap := ⟨_, rfl⟩
  obtain ⟨locs, elocs⟩ : ∃ z : List Loc, z = [] := ⟨_, rfl⟩
  have hw : HW G s.heap V H locs := by rw [eH, elocs]; exact hw
  show W p l e _ s m args below meth c s.heap [] 0 0 Q (F0 m 0 ls [])
  rw [← eH, ← elocs]
  unfold fX10_doesSee at h
  refine lv_aload_n hx hb dX10_doesSee_0 rfl (lv_at hl 0 rfl) ?_
  refine lv_iload_n hx hb dX10_doesSee_1 rfl (lv_at hl 1 rfl) ?_
  refine lv_iload_n hx hb dX10_doesSee_2 rfl (lv_at hl 2 rfl) ?_
  refine lv_iload_n hx hb dX10_doesSee_3 rfl (lv_at hl 3 rfl) ?_
  refine lv_iload hx hb dX10_doesSee_4 (lv_at hl 4 rfl) ?_
  obtain ⟨V2, h1, h⟩ := ob_R_some h
  refine c_VV E hw (kX10_looks (l := l) (G := G) hB  h1) yy_X10_looks lm_RX10_294 rfl (by decide) rfl rfl hl.1 (by decide) (by decide) rfl (Nat.le_of_ble_eq_true rfl) dX10_doesSee_6 (fun H locs hw => ?_)
  refine lv_aload_n hx hb dX10_doesSee_9 rfl (lv_at hl 0 rfl) ?_
  obtain ⟨y4, V5, h3, h⟩ := ob_I_some h
  refine c_VI E hw (kX10_isSeen (l := l) (G := G) hB  h3) yy_X10_isSeen lm_RX10_298 rfl (by decide) rfl rfl hl.1 (by decide) (by decide) rfl (Nat.le_of_ble_eq_true rfl) dX10_doesSee_10 (fun H locs hw => ?_)
  obtain ⟨z6, h⟩ := zo_some h
  have h := Option.some.inj h
  subst h
  rw [kr]
  exact r_rz E hw z6 dX10_doesSee_13
/-! ===== AllSawItModel.seersOf(III)I ===== -/
theorem dX10_seersOf_0 : decode cX10_seersOf 0 = .ok (.iconst 0, 1) := by decide +kernel
theorem dX10_seersOf_1 : decode cX10_seersOf 1 = .ok (.istore 4, 2) := by decide +kernel
theorem dX10_seersOf_3 : decode cX10_seersOf 3 = .ok (.iconst 0, 1) := by decide +kernel
theorem dX10_seersOf_4 : decode cX10_seersOf 4 = .ok (.istore 5, 2) := by decide +kernel
theorem dX10_seersOf_6 : decode cX10_seersOf 6 = .ok (.iload 5, 2) := by decide +kernel
theorem dX10_seersOf_8 : decode cX10_seersOf 8 = .ok (.aload_n 0, 1) := by decide +kernel
theorem dX10_seersOf_9 : decode cX10_seersOf 9 = .ok (.invokevirtual 62, 3) := by decide +kernel
theorem dX10_seersOf_12 : decode cX10_seersOf 12 = .ok (.if_icmp .ge 34, 3) := by decide +kernel
theorem dX10_seersOf_15 : decode cX10_seersOf 15 = .ok (.iload 4, 2) := by decide +kernel
theorem dX10_seersOf_17 : decode cX10_seersOf 17 = .ok (.aload_n 0, 1) := by decide +kernel
theorem dX10_seersOf_18 : decode cX10_seersOf 18 = .ok (.iload 5, 2) := by decide +kernel
theorem dX10_seersOf_20 : decode cX10_seersOf 20 = .ok (.iload_n 1, 1) := by decide +kernel
theorem dX10_seersOf_21 : decode cX10_seersOf 21 = .ok (.iload_n 2, 1) := by decide +kernel
theorem dX10_seersOf_22 : decode cX10_seersOf 22 = .ok (.iload_n 3, 1) := by decide +kernel
theorem dX10_seersOf_23 : decode cX10_seersOf 23 = .ok (.invokevirtual 301, 3) := by decide +kernel
theorem dX10_seersOf_26 : decode cX10_seersOf 26 = .ok (.ifCond .eq 10, 3) := by decide +kernel
theorem dX10_seersOf_29 : decode cX10_seersOf 29 = .ok (.iconst 1, 1) := by decide +kernel
theorem dX10_seersOf_30 : decode cX10_seersOf 30 = .ok (.iload 5, 2) := by decide +kernel
theorem dX10_seersOf_32 : decode cX10_seersOf 32 = .ok (.ishl, 1) := by decide +kernel
theorem dX10_seersOf_33 : decode cX10_seersOf 33 = .ok (.goto 4, 3) := by decide +kernel
theorem dX10_seersOf_36 : decode cX10_seersOf 36 = .ok (.iconst 0, 1) := by decide +kernel
theorem dX10_seersOf_37 : decode cX10_seersOf 37 = .ok (.ior, 1) := by decide +kernel
theorem dX10_seersOf_38 : decode cX10_seersOf 38 = .ok (.istore 4, 2) := by decide +kernel
theorem dX10_seersOf_40 : decode cX10_seersOf 40 = .ok (.iinc 5 1, 3) := by decide +kernel
theorem dX10_seersOf_43 : decode cX10_seersOf 43 = .ok (.goto (-37), 3) := by decide +kernel
theorem dX10_seersOf_46 : decode cX10_seersOf 46 = .ok (.iload 4, 2) := by decide +kernel
theorem dX10_seersOf_48 : decode cX10_seersOf 48 = .ok (.ireturn, 1) := by decide +kernel
noncomputable def fX10_seersOf_L6 (V : VT) (u1 : Int32) (u2 : Int32) (u3 : Int32) (u4 : Int32) (u5 : Int32) : Option ((VT × Int32 × Int32 × Int32 × Int32 × Int32) ⊕ (Int32 × VT)) := ob_R (fX10_houses V ) fun y2 => if y2 ≤ u5 then (some (.inr ((u4, V)))) else (ob_I (fX10_doesSee V u5 u1 u2 u3) fun y4 V5 => if y4 = 0 then (lt_ (u4 ||| (0 : Int32)) fun y6 => lt_ (u5 + (1 : Int32)) fun y7 => some (.inl (V5, u1, u2, u3, y6, y7))) else (lt_ (u4 ||| ((1 : Int32) <<< (u5 &&& 31))) fun y8 => lt_ (u5 + (1 : Int32)) fun y9 => some (.inl (V5, u1, u2, u3, y8, y9))))
noncomputable def iX10_seersOf_L6 : (VT × Int32 × Int32 × Int32 × Int32 × Int32) → Option ((VT × Int32 × Int32 × Int32 × Int32 × Int32) ⊕ (Int32 × VT)) := fun q => fX10_seersOf_L6 (q.1) (q.2.1) (q.2.2.1) (q.2.2.2.1) (q.2.2.2.2.1) (q.2.2.2.2.2)
noncomputable def fX10_seersOf (V : VT) (x1 : Int32) (x2 : Int32) (x3 : Int32) : Option (Int32 × VT) := ob_R (it_ (iX10_seersOf_L6) FV (V, x1, x2, x3, (0 : Int32), (0 : Int32))) fun x13 => some x13
set_option maxHeartbeats 4000000 in
set_option maxRecDepth 100000 in
theorem wX10_seersOf_L6 {p : Program} {l : Launch} {e : Env} {s : State} {m : MethodId} {args : Array Value} {below : List Frame} {meth : Method} {c : Code} {G : GT} {B : BGt} {Q : State → Prop} (E : En p s m args c meth cX10_seersOf 6 RX10 (some .int) G B) {x : (Int32 × VT)} (kr : ∀ q : (Int32 × VT), x = q → Q = MQ below (QI G s.heap.size q.1 q.2) args s 0 0 (gA G s.heap.size)) : ∀ (n : Nat) (q : (VT × Int32 × Int32 × Int32 × Int32 × Int32)), it_ (iX10_seersOf_L6) n q = some x → ∀ (H : Heap) (locs : List Loc) (ls : Array Slot), HW G s.heap (q.1) H locs → lv_has ls 6 [(0, .ref (G.2.2 22)), (1, .int (q.2.1)), (2, .int (q.2.2.1)), (3, .int (q.2.2.2.1)), (4, .int (q.2.2.2.2.1)), (5, .int (q.2.2.2.2.2))] → W p l e (rmD 11) s m args below meth c H locs 0 0 Q (F0 m 6 ls []) := by
  have hx := en_x E
  have hb := en_b E
  have hB := en_B E
  refine it_W (fun q : (VT × Int32 × Int32 × Int32 × Int32 × Int32) => ∀ (H : Heap) (locs : List Loc) (ls : Array Slot), HW G s.heap (q.1) H locs → lv_has ls 6 [(0, .ref (G.2.2 22)), (1, .int (q.2.1)), (2, .int (q.2.2.1)), (3, .int (q.2.2.2.1)), (4, .int (q.2.2.2.2.1)), (5, .int (q.2.2.2.2.2))] → W p l e (rmD 11) s m args below meth c H locs 0 0 Q (F0 m 6 ls [])) x ?_
  intro q r h kc kx
  obtain ⟨V, u1, u2, u3, u4, u5⟩ := q
  intro H locs ls hw hl
  have h : fX10_seersOf_L6 V u1 u2 u3 u4 u5 = some r := h
  have hw : HW G s.heap V H locs := hw
  have hl : lv_has ls 6 [(0, .ref (G.2.2 22)), (1, .int u1), (2, .int u2), (3, .int u3), (4, .int u4), (5, .int u5)] := hl
  have kr : ∀ q : (Int32 × VT), r = .inr (q) → Q = MQ below (QI G s.heap.size q.1 q.2) args s 0 0 (gA G s.heap.size) := fun q e => kr q (kx _ e).symm
  unfold fX10_seersOf_L6 at h
  refine lv_iload hx hb dX10_seersOf_6 (lv_at hl 5 rfl) ?_
  refine lv_aload_n hx hb dX10_seersOf_8 rfl (lv_at hl 0 rfl) ?_
  obtain ⟨y2, h1, h⟩ := ob_R_some h
  refine c_VI E hw (kX10_houses (l := l) (G := G) hB  h1) yy_X10_houses lm_RX10_62 rfl (by decide) rfl rfl hl.1 (by decide) (by decide) rfl (Nat.le_of_ble_eq_true rfl) dX10_seersOf_9 (fun H locs hw => ?_)
  refine lv_icmp_ge (tgt := 46) hx hb dX10_seersOf_12 (by decide) (fun c11 => ?_) (fun c11 => ?_)
  · rw [if_pos c11] at h
    refine lv_iload hx hb dX10_seersOf_46 (lv_at hl 4 rfl) ?_
    rw [kr (u4, V) (Option.some.inj h).symm]
    exact r_ri E hw dX10_seersOf_48
  · rw [if_neg c11] at h
    refine lv_iload hx hb dX10_seersOf_15 (lv_at hl 4 rfl) ?_
    refine lv_aload_n hx hb dX10_seersOf_17 rfl (lv_at hl 0 rfl) ?_
    refine lv_iload hx hb dX10_seersOf_18 (lv_at hl 5 rfl) ?_
    refine lv_iload_n hx hb dX10_seersOf_20 rfl (lv_at hl 1 rfl) ?_
    refine lv_iload_n hx hb dX10_seersOf_21 rfl (lv_at hl 2 rfl) ?_
    refine lv_iload_n hx hb dX10_seersOf_22 rfl (lv_at hl 3 rfl) ?_
    obtain ⟨y4, V5, h3, h⟩ := ob_I_some h
    refine c_VI E hw (kX10_doesSee (l := l) (G := G) hB  h3) yy_X10_doesSee lm_RX10_301 rfl (by decide) rfl rfl hl.1 (by decide) (by decide) rfl (Nat.le_of_ble_eq_true rfl) dX10_seersOf_23 (fun H locs hw => ?_)
    refine lv_if_eq (tgt := 36) hx hb dX10_seersOf_26 (by decide) (fun c10 => ?_) (fun c10 => ?_)
    · rw [if_pos c10] at h
      refine lv_iconst (v := (0 : Int32)) hx hb dX10_seersOf_36 (by decide) ?_
      refine lv_ior hx hb dX10_seersOf_37 ?_
      obtain ⟨y6, ey6, h⟩ := lt_some h
      refine lv_eqi ey6 ?_
      refine lv_istore (lv' := [(4, .int y6), (0, .ref (G.2.2 22)), (1, .int u1), (2, .int u2), (3, .int u3), (5, .int u5)]) hx hb dX10_seersOf_38 hl (by decide) rfl (fun ls hl => ?_)
      obtain ⟨y7, ey7, h⟩ := lt_some h
      refine lv_iinc (v := y7) (lv' := [(5, .int y7), (4, .int y6), (0, .ref (G.2.2 22)), (1, .int u1), (2, .int u2), (3, .int u3)]) hx hb dX10_seersOf_40 hl (k := 5) rfl (by rw [ey7]; rfl) (by decide) rfl (fun ls hl => ?_)
      refine lv_goto (tgt := 6) hx hb dX10_seersOf_43 (by decide) ?_
      exact kc (V5, u1, u2, u3, y6, y7) (Option.some.inj h).symm H locs ls hw (lv_sub hl [2, 3, 4, 5, 1, 0] rfl)
    · rw [if_neg c10] at h
      refine lv_iconst (v := (1 : Int32)) hx hb dX10_seersOf_29 (by decide) ?_
      refine lv_iload hx hb dX10_seersOf_30 (lv_at hl 5 rfl) ?_
      refine lv_ishl hx hb dX10_seersOf_32 ?_
      refine lv_goto (tgt := 37) hx hb dX10_seersOf_33 (by decide) ?_
      refine lv_ior hx hb dX10_seersOf_37 ?_
      obtain ⟨y8, ey8, h⟩ := lt_some h
      refine lv_eqi ey8 ?_
      refine lv_istore (lv' := [(4, .int y8), (0, .ref (G.2.2 22)), (1, .int u1), (2, .int u2), (3, .int u3), (5, .int u5)]) hx hb dX10_seersOf_38 hl (by decide) rfl (fun ls hl => ?_)
      obtain ⟨y9, ey9, h⟩ := lt_some h
      refine lv_iinc (v := y9) (lv' := [(5, .int y9), (4, .int y8), (0, .ref (G.2.2 22)), (1, .int u1), (2, .int u2), (3, .int u3)]) hx hb dX10_seersOf_40 hl (k := 5) rfl (by rw [ey9]; rfl) (by decide) rfl (fun ls hl => ?_)
      refine lv_goto (tgt := 6) hx hb dX10_seersOf_43 (by decide) ?_
      exact kc (V5, u1, u2, u3, y8, y9) (Option.some.inj h).symm H locs ls hw (lv_sub hl [2, 3, 4, 5, 1, 0] rfl)
set_option maxHeartbeats 4000000 in
set_option maxRecDepth 100000 in
theorem kX10_seersOf {l : Launch} {G : GT} {B : BGt} (hB : BGok B) {V : VT} {x1 : Int32} {x2 : Int32} {x3 : Int32} {r : (Int32 × VT)} (h : fX10_seersOf V x1 x2 x3 = some r) : CI l G B yX10_seersOf (.code yX10_seersOf cX10_seersOf 6 (some .int)) 11 [.ref (G.2.2 22), .int x1, .int x2, .int x3] V r.1 r.2 := by
  intro sz
  refine met_of (Qs := fun sz => QI G sz (r.1) (r.2)) hB (by decide) (Nat.le_of_ble_eq_true rfl) ?_ sz
  intro p e s m args below meth c ls E hw hl
  have hx := en_x E
  have hb := en_b E
  generalize hQ : MQ _ _ _ _ _ _ _ = Q
  have kr : Q = MQ below (QI G s.heap.size r.1 r.2) args s 0 0 (gA G s.heap.size) := hQ.symm
  have hl : lv_has ls 6 [(0, .ref (G.2.2 22)), (1, .int x1), (2, .int x2), (3, .int x3)] := hl
  obtain ⟨H, eH⟩ : ∃ H, H = s.heap := ⟨_, rfl⟩
  obtain ⟨locs, elocs⟩ : ∃ z : List Loc, z = [] := ⟨_, rfl⟩
  have hw : HW G s.heap V H locs := by rw [eH, elocs]; exact hw
  show W p l e _ s m args below meth c s.heap [] 0 0 Q (F0 m 0 ls [])
  rw [← eH, ← elocs]
  unfold fX10_seersOf at h
  refine lv_iconst (v := (0 : Int32)) hx hb dX10_seersOf_0 (by decide) ?_
  refine lv_istore (lv' := [(4, .int (0 : Int32)), (0, .ref (G.2.2 22)), (1, .int x1), (2, .int x2), (3, .int x3)]) hx hb dX10_seersOf_1 hl (by decide) rfl (fun ls hl => ?_)
  refine lv_iconst (v := (0 : Int32)) hx hb dX10_seersOf_3 (by decide) ?_
  refine lv_istore (lv' := [(5, .int (0 : Int32)), (4, .int (0 : Int32)), (0, .ref (G.2.2 22)), (1, .int x1), (2, .int x2), (3, .int x3)]) hx hb dX10_seersOf_4 hl (by decide) rfl (fun ls hl => ?_)
  obtain ⟨x13, h12, h⟩ := ob_R_some h
  have h := Option.some.inj h
  subst h
  exact wX10_seersOf_L6 E (fun q e => by subst e; exact kr) FV (V, x1, x2, x3, (0 : Int32), (0 : Int32)) h12 H locs ls hw (lv_sub hl [2, 3, 4, 5, 1, 0] rfl)
/-! ===== AllSawItModel.seersNow(II)I ===== -/
theorem dX10_seersNow_0 : decode cX10_seersNow 0 = .ok (.aload_n 0, 1) := by decide +kernel
theorem dX10_seersNow_1 : decode cX10_seersNow 1 = .ok (.iload_n 1, 1) := by decide +kernel
theorem dX10_seersNow_2 : decode cX10_seersNow 2 = .ok (.iload_n 2, 1) := by decide +kernel
theorem dX10_seersNow_3 : decode cX10_seersNow 3 = .ok (.aload_n 0, 1) := by decide +kernel
theorem dX10_seersNow_4 : decode cX10_seersNow 4 = .ok (.getfield 13, 3) := by decide +kernel
theorem dX10_seersNow_7 : decode cX10_seersNow 7 = .ok (.iconst 5, 1) := by decide +kernel
theorem dX10_seersNow_8 : decode cX10_seersNow 8 = .ok (.iaload, 1) := by decide +kernel
theorem dX10_seersNow_9 : decode cX10_seersNow 9 = .ok (.invokevirtual 305, 3) := by decide +kernel
theorem dX10_seersNow_12 : decode cX10_seersNow 12 = .ok (.ireturn, 1) := by decide +kernel
noncomputable def fX10_seersNow (V : VT) (x1 : Int32) (x2 : Int32) : Option (Int32 × VT) := rd_ (5 : Int32) 1988 (ob_I (fX10_seersOf V x1 x2 (V 76 (5 : Int32).toNatClampNeg)) fun y3 V4 => some (y3, V4))
set_option maxHeartbeats 4000000 in
set_option maxRecDepth 100000 in
theorem kX10_seersNow {l : Launch} {G : GT} {B : BGt} (hB : BGok B) {V : VT} {x1 : Int32} {x2 : Int32} {r : (Int32 × VT)} (h : fX10_seersNow V x1 x2 = some r) : CI l G B yX10_seersNow (.code yX10_seersNow cX10_seersNow 3 (some .int)) 12 [.ref (G.2.2 22), .int x1, .int x2] V r.1 r.2 := by
  intro sz
  refine met_of (Qs := fun sz => QI G sz (r.1) (r.2)) hB (by decide) (Nat.le_of_ble_eq_true rfl) ?_ sz
  intro p e s m args below meth c ls E hw hl
  have hx := en_x E
  have hb := en_b E
  generalize hQ : MQ _ _ _ _ _ _ _ = Q
  have kr : Q = MQ below (QI G s.heap.size r.1 r.2) args s 0 0 (gA G s.heap.size) := hQ.symm
  have hl : lv_has ls 3 [(0, .ref (G.2.2 22)), (1, .int x1), (2, .int x2)] := hl
  obtain ⟨H, eH⟩ : ∃ H, H = s.heap := ⟨_, rfl⟩
  obtain ⟨locs, elocs⟩ : ∃ z : List Loc, z = [] := ⟨_, rfl⟩
  have hw : HW G s.heap V H locs := by rw [eH, elocs]; exact hw
  show W p l e _ s m args below meth c s.heap [] 0 0 Q (F0 m 0 ls [])
  rw [← eH, ← elocs]
  unfold fX10_seersNow at h
  refine lv_aload_n hx hb dX10_seersNow_0 rfl (lv_at hl 0 rfl) ?_
  refine lv_iload_n hx hb dX10_seersNow_1 rfl (lv_at hl 1 rfl) ?_
  refine lv_iload_n hx hb dX10_seersNow_2 rfl (lv_at hl 2 rfl) ?_
  refine lv_aload_n hx hb dX10_seersNow_3 rfl (lv_at hl 0 rfl) ?_
  refine r_gr E hw 22 1 76 (N := 29) (C := RX10) (T := TX10) (by decide) rfl rfl (by decide) rfl iw_10 rfl lf_RX10_13 dX10_seersNow_4 ?_
  refine lv_iconst (v := (5 : Int32)) hx hb dX10_seersNow_7 (by decide) ?_
  obtain ⟨b1, h⟩ := rd_some h
  refine r_ia E hw 76 1988 (by decide) (by decide) (by decide) rfl rfl b1 dX10_seersNow_8 ?_
  obtain ⟨y3, V4, h2, h⟩ := ob_I_some h
  refine c_VI E hw (kX10_seersOf (l := l) (G := G) hB  h2) yy_X10_seersOf lm_RX10_305 rfl (by decide) rfl rfl hl.1 (by decide) (by decide) rfl (Nat.le_of_ble_eq_true rfl) dX10_seersNow_9 (fun H locs hw => ?_)
  have h := Option.some.inj h
  subst h
  rw [kr]
  exact r_ri E hw dX10_seersNow_12
/-! ===== AllSawItModel.sees(III)Z ===== -/
theorem dX10_sees_0 : decode cX10_sees 0 = .ok (.aload_n 0, 1) := by decide +kernel
theorem dX10_sees_1 : decode cX10_sees 1 = .ok (.iconst 0, 1) := by decide +kernel
theorem dX10_sees_2 : decode cX10_sees 2 = .ok (.putfield 3, 3) := by decide +kernel
theorem dX10_sees_5 : decode cX10_sees 5 = .ok (.aload_n 0, 1) := by decide +kernel
theorem dX10_sees_6 : decode cX10_sees 6 = .ok (.aload_n 0, 1) := by decide +kernel
theorem dX10_sees_7 : decode cX10_sees 7 = .ok (.iload_n 1, 1) := by decide +kernel
theorem dX10_sees_8 : decode cX10_sees 8 = .ok (.invokevirtual 309, 3) := by decide +kernel
theorem dX10_sees_11 : decode cX10_sees 11 = .ok (.ifCond .ne 17, 3) := by decide +kernel
theorem dX10_sees_14 : decode cX10_sees 14 = .ok (.iload_n 2, 1) := by decide +kernel
theorem dX10_sees_15 : decode cX10_sees 15 = .ok (.invokestatic 312, 3) := by decide +kernel
theorem dX10_sees_18 : decode cX10_sees 18 = .ok (.ifCond .ne 10, 3) := by decide +kernel
theorem dX10_sees_21 : decode cX10_sees 21 = .ok (.iload_n 3, 1) := by decide +kernel
theorem dX10_sees_22 : decode cX10_sees 22 = .ok (.invokestatic 315, 3) := by decide +kernel
theorem dX10_sees_25 : decode cX10_sees 25 = .ok (.ifCond .eq 7, 3) := by decide +kernel
theorem dX10_sees_28 : decode cX10_sees 28 = .ok (.iconst 1, 1) := by decide +kernel
theorem dX10_sees_29 : decode cX10_sees 29 = .ok (.goto 4, 3) := by decide +kernel
theorem dX10_sees_32 : decode cX10_sees 32 = .ok (.iconst 0, 1) := by decide +kernel
theorem dX10_sees_33 : decode cX10_sees 33 = .ok (.iconst 1, 1) := by decide +kernel
theorem dX10_sees_34 : decode cX10_sees 34 = .ok (.invokevirtual 233, 3) := by decide +kernel
theorem dX10_sees_37 : decode cX10_sees 37 = .ok (.ifCond .ne 23, 3) := by decide +kernel
theorem dX10_sees_40 : decode cX10_sees 40 = .ok (.aload_n 0, 1) := by decide +kernel
theorem dX10_sees_41 : decode cX10_sees 41 = .ok (.iload_n 1, 1) := by decide +kernel
theorem dX10_sees_42 : decode cX10_sees 42 = .ok (.iload_n 2, 1) := by decide +kernel
theorem dX10_sees_43 : decode cX10_sees 43 = .ok (.iload_n 3, 1) := by decide +kernel
theorem dX10_sees_44 : decode cX10_sees 44 = .ok (.aload_n 0, 1) := by decide +kernel
theorem dX10_sees_45 : decode cX10_sees 45 = .ok (.getfield 13, 3) := by decide +kernel
theorem dX10_sees_48 : decode cX10_sees 48 = .ok (.iconst 5, 1) := by decide +kernel
theorem dX10_sees_49 : decode cX10_sees 49 = .ok (.iaload, 1) := by decide +kernel
theorem dX10_sees_50 : decode cX10_sees 50 = .ok (.invokevirtual 301, 3) := by decide +kernel
theorem dX10_sees_53 : decode cX10_sees 53 = .ok (.ifCond .eq 7, 3) := by decide +kernel
theorem dX10_sees_56 : decode cX10_sees 56 = .ok (.iconst 1, 1) := by decide +kernel
theorem dX10_sees_57 : decode cX10_sees 57 = .ok (.goto 4, 3) := by decide +kernel
theorem dX10_sees_60 : decode cX10_sees 60 = .ok (.iconst 0, 1) := by decide +kernel
theorem dX10_sees_61 : decode cX10_sees 61 = .ok (.ireturn, 1) := by decide +kernel
noncomputable def fX10_sees_j33 (V : VT) (u1 : Int32) (u2 : Int32) (u3 : Int32) (t0 : Int32) : Option (Int32 × VT) := ob_I (fX10_throwsIf V t0 (1 : Int32)) fun y5 V6 => if y5 = 0 then (rd_ (5 : Int32) 1988 (ob_I (fX10_doesSee V6 u1 u2 u3 (V6 76 (5 : Int32).toNatClampNeg)) fun y10 V11 => if y10 = 0 then (zo_ (0 : Int32) (some ((0 : Int32), V11))) else (zo_ (1 : Int32) (some ((1 : Int32), V11))))) else (zo_ (0 : Int32) (some ((0 : Int32), V6)))
noncomputable def fX10_sees_j28 (V : VT) (u1 : Int32) (u2 : Int32) (u3 : Int32) : Option (Int32 × VT) := fX10_sees_j33 V u1 u2 u3 (1 : Int32)
noncomputable def fX10_sees (V : VT) (x1 : Int32) (x2 : Int32) (x3 : Int32) : Option (Int32 × VT) := lt_ (va_up V 22 (upd (V 22) 0 (0 : Int32))) fun V1 => ob_R (fX10_noHouse V1 x1) fun y3 => if y3 = 0 then (ob_R (fX10_noPlace V1 x2) fun y17 => if y17 = 0 then (ob_R (fX10_noHour V1 x3) fun y19 => if y19 = 0 then (fX10_sees_j33 V1 x1 x2 x3 (0 : Int32)) else (fX10_sees_j28 V1 x1 x2 x3)) else (fX10_sees_j28 V1 x1 x2 x3)) else (fX10_sees_j28 V1 x1 x2 x3)
set_option maxHeartbeats 4000000 in
set_option maxRecDepth 100000 in
theorem wX10_sees_j33 {p : Program} {l : Launch} {e : Env} {s : State} {m : MethodId} {args : Array Value} {below : List Frame} {meth : Method} {c : Code} {G : GT} {B : BGt} {Q : State → Prop} (E : En p s m args c meth cX10_sees 4 RX10 (some .boolean) G B) {V : VT} {u1 : Int32} {u2 : Int32} {u3 : Int32} {t0 : Int32} {r : (Int32 × VT)} (h : fX10_sees_j33 V u1 u2 u3 t0 = some r) (kr : Q = MQ below (QI G s.heap.size r.1 r.2) args s 0 0 (gA G s.heap.size)) {H : Heap} {locs : List Loc} {ls : Array Slot} (hw : HW G s.heap V H locs) (hl : lv_has ls 4 [(0, .ref (G.2.2 22)), (1, .int u1), (2, .int u2), (3, .int u3)]) : W p l e (rmD 11) s m args below meth c H locs 0 0 Q (F0 m 33 ls [.int t0, .ref (G.2.2 22)]) := by
  have hx := en_x E
  have hb := en_b E
  have hB := en_B E
  unfold fX10_sees_j33 at h
  refine lv_iconst (v := (1 : Int32)) hx hb dX10_sees_33 (by decide) ?_
  obtain ⟨y5, V6, h4, h⟩ := ob_I_some h
  refine c_VI E hw (kX10_throwsIf (l := l) (G := G) hB  h4) yy_X10_throwsIf lm_RX10_233 rfl (by decide) rfl rfl hl.1 (by decide) (by decide) rfl (Nat.le_of_ble_eq_true rfl) dX10_sees_34 (fun H locs hw => ?_)
  refine lv_if_ne (tgt := 60) hx hb dX10_sees_37 (by decide) (fun c15 => ?_) (fun c15 => ?_)
  · rw [if_neg c15] at h
    refine lv_iconst (v := (0 : Int32)) hx hb dX10_sees_60 (by decide) ?_
    obtain ⟨z7, h⟩ := zo_some h
    have h := Option.some.inj h
    subst h
    rw [kr]
    exact r_rz E hw z7 dX10_sees_61
  · rw [if_pos c15] at h
    refine lv_aload_n hx hb dX10_sees_40 rfl (lv_at hl 0 rfl) ?_
    refine lv_iload_n hx hb dX10_sees_41 rfl (lv_at hl 1 rfl) ?_
    refine lv_iload_n hx hb dX10_sees_42 rfl (lv_at hl 2 rfl) ?_
    refine lv_iload_n hx hb dX10_sees_43 rfl (lv_at hl 3 rfl) ?_
    refine lv_aload_n hx hb dX10_sees_44 rfl (lv_at hl 0 rfl) ?_
    refine r_gr E hw 22 1 76 (N := 29) (C := RX10) (T := TX10) (by decide) rfl rfl (by decide) rfl iw_10 rfl lf_RX10_13 dX10_sees_45 ?_
    refine lv_iconst (v := (5 : Int32)) hx hb dX10_sees_48 (by decide) ?_
    obtain ⟨b8, h⟩ := rd_some h
    refine r_ia E hw 76 1988 (by decide) (by decide) (by decide) rfl rfl b8 dX10_sees_49 ?_
    obtain ⟨y10, V11, h9, h⟩ := ob_I_some h
    refine c_VI E hw (kX10_doesSee (l := l) (G := G) hB  h9) yy_X10_doesSee lm_RX10_301 rfl (by decide) rfl rfl hl.1 (by decide) (by decide) rfl (Nat.le_of_ble_eq_true rfl) dX10_sees_50 (fun H locs hw => ?_)
    refine lv_if_eq (tgt := 60) hx hb dX10_sees_53 (by decide) (fun c14 => ?_) (fun c14 => ?_)
    · rw [if_pos c14] at h
      refine lv_iconst (v := (0 : Int32)) hx hb dX10_sees_60 (by decide) ?_
      obtain ⟨z12, h⟩ := zo_some h
      have h := Option.some.inj h
      subst h
      rw [kr]
      exact r_rz E hw z12 dX10_sees_61
    · rw [if_neg c14] at h
      refine lv_iconst (v := (1 : Int32)) hx hb dX10_sees_56 (by decide) ?_
      refine lv_goto (tgt := 61) hx hb dX10_sees_57 (by decide) ?_
      obtain ⟨z13, h⟩ := zo_some h
      have h := Option.some.inj h
      subst h
      rw [kr]
      exact r_rz E hw z13 dX10_sees_61
set_option maxHeartbeats 4000000 in
set_option maxRecDepth 100000 in
theorem wX10_sees_j28 {p : Program} {l : Launch} {e : Env} {s : State} {m : MethodId} {args : Array Value} {below : List Frame} {meth : Method} {c : Code} {G : GT} {B : BGt} {Q : State → Prop} (E : En p s m args c meth cX10_sees 4 RX10 (some .boolean) G B) {V : VT} {u1 : Int32} {u2 : Int32} {u3 : Int32} {r : (Int32 × VT)} (h : fX10_sees_j28 V u1 u2 u3 = some r) (kr : Q = MQ below (QI G s.heap.size r.1 r.2) args s 0 0 (gA G s.heap.size)) {H : Heap} {locs : List Loc} {ls : Array Slot} (hw : HW G s.heap V H locs) (hl : lv_has ls 4 [(0, .ref (G.2.2 22)), (1, .int u1), (2, .int u2), (3, .int u3)]) : W p l e (rmD 11) s m args below meth c H locs 0 0 Q (F0 m 28 ls [.ref (G.2.2 22)]) := by
  have hx := en_x E
  have hb := en_b E
  have hB := en_B E
  unfold fX10_sees_j28 at h
  refine lv_iconst (v := (1 : Int32)) hx hb dX10_sees_28 (by decide) ?_
  refine lv_goto (tgt := 33) hx hb dX10_sees_29 (by decide) ?_
  exact wX10_sees_j33 E h kr hw (lv_sub hl [0, 1, 2, 3] rfl)
set_option maxHeartbeats 4000000 in
set_option maxRecDepth 100000 in
theorem kX10_sees {l : Launch} {G : GT} {B : BGt} (hB : BGok B) {V : VT} {x1 : Int32} {x2 : Int32} {x3 : Int32} {r : (Int32 × VT)} (h : fX10_sees V x1 x2 x3 = some r) : CI l G B yX10_sees (.code yX10_sees cX10_sees 4 (some .boolean)) 11 [.ref (G.2.2 22), .int x1, .int x2, .int x3] V r.1 r.2 := by
  intro sz
  refine met_of (Qs := fun sz => QI G sz (r.1) (r.2)) hB (by decide) (Nat.le_of_ble_eq_true rfl) ?_ sz
  intro p e s m args below meth c ls E hw hl
  have hx := en_x E
  have hb := en_b E
  generalize hQ : MQ _ _ _ _ _ _ _ = Q
  have kr : Q = MQ below (QI G s.heap.size r.1 r.2) args s 0 0 (gA G s.heap.size) := hQ.symm
  have hl : lv_has ls 4 [(0, .ref (G.2.2 22)), (1, .int x1), (2, .int x2), (3, .int x3)] := hl
  obtain ⟨H, eH⟩ : ∃ H, H = s.heap := ⟨_, rfl⟩
  obtain ⟨locs, elocs⟩ : ∃ z : List Loc, z = [] := ⟨_, rfl⟩
  have hw : HW G s.heap V H locs := by rw [eH, elocs]; exact hw
  show W p l e _ s m args below meth c s.heap [] 0 0 Q (F0 m 0 ls [])
  rw [← eH, ← elocs]
  unfold fX10_sees at h
  refine lv_aload_n hx hb dX10_sees_0 rfl (lv_at hl 0 rfl) ?_
  refine lv_iconst (v := (0 : Int32)) hx hb dX10_sees_1 (by decide) ?_
  obtain ⟨V1, eV1, h⟩ := lt_some h
  refine r_pi E hw 22 0 (N := 29) (C := RX10) (T := TX10) (ty0 := tyX10) (ty := .int) (by decide) rfl rfl (by decide) rfl iw_10 rfl tyX10_ok nmX10 rfl rfl (vp_nar_int _) rfl lf_RX10_3 eV1 dX10_sees_2 (fun H locs hw => ?_)
  refine lv_aload_n hx hb dX10_sees_5 rfl (lv_at hl 0 rfl) ?_
  refine lv_aload_n hx hb dX10_sees_6 rfl (lv_at hl 0 rfl) ?_
  refine lv_iload_n hx hb dX10_sees_7 rfl (lv_at hl 1 rfl) ?_
  obtain ⟨y3, h2, h⟩ := ob_R_some h
  refine c_VI E hw (kX10_noHouse (l := l) (G := G) hB  h2) yy_X10_noHouse lm_RX10_309 rfl (by decide) rfl rfl hl.1 (by decide) (by decide) rfl (Nat.le_of_ble_eq_true rfl) dX10_sees_8 (fun H locs hw => ?_)
  refine lv_if_ne (tgt := 28) hx hb dX10_sees_11 (by decide) (fun c22 => ?_) (fun c22 => ?_)
  · rw [if_neg c22] at h
    exact wX10_sees_j28 E h kr hw (lv_sub hl [0, 1, 2, 3] rfl)
  · rw [if_pos c22] at h
    refine lv_iload_n hx hb dX10_sees_14 rfl (lv_at hl 2 rfl) ?_
    obtain ⟨y17, h16, h⟩ := ob_R_some h
    refine c_SI E hw (kX10_noPlace (l := l) (G := G) hB  h16) yy_X10_noPlace lm_RX10_312 rfl hl.1 (by decide) (by decide) rfl (Nat.le_of_ble_eq_true rfl) dX10_sees_15 (fun H locs hw => ?_)
    refine lv_if_ne (tgt := 28) hx hb dX10_sees_18 (by decide) (fun c21 => ?_) (fun c21 => ?_)
    · rw [if_neg c21] at h
      exact wX10_sees_j28 E h kr hw (lv_sub hl [0, 1, 2, 3] rfl)
    · rw [if_pos c21] at h
      refine lv_iload_n hx hb dX10_sees_21 rfl (lv_at hl 3 rfl) ?_
      obtain ⟨y19, h18, h⟩ := ob_R_some h
      refine c_SI E hw (kX10_noHour (l := l) (G := G) hB  h18) yy_X10_noHour lm_RX10_315 rfl hl.1 (by decide) (by decide) rfl (Nat.le_of_ble_eq_true rfl) dX10_sees_22 (fun H locs hw => ?_)
      refine lv_if_eq (tgt := 32) hx hb dX10_sees_25 (by decide) (fun c20 => ?_) (fun c20 => ?_)
      · rw [if_pos c20] at h
        refine lv_iconst (v := (0 : Int32)) hx hb dX10_sees_32 (by decide) ?_
        exact wX10_sees_j33 E h kr hw (lv_sub hl [0, 1, 2, 3] rfl)
      · rw [if_neg c20] at h
        exact wX10_sees_j28 E h kr hw (lv_sub hl [0, 1, 2, 3] rfl)
/-! ===== AllSawItModel.witnesses(II)I ===== -/
theorem dX10_witnesses_0 : decode cX10_witnesses 0 = .ok (.aload_n 0, 1) := by decide +kernel
theorem dX10_witnesses_1 : decode cX10_witnesses 1 = .ok (.iconst 0, 1) := by decide +kernel
theorem dX10_witnesses_2 : decode cX10_witnesses 2 = .ok (.putfield 3, 3) := by decide +kernel
theorem dX10_witnesses_5 : decode cX10_witnesses 5 = .ok (.aload_n 0, 1) := by decide +kernel
theorem dX10_witnesses_6 : decode cX10_witnesses 6 = .ok (.iload_n 1, 1) := by decide +kernel
theorem dX10_witnesses_7 : decode cX10_witnesses 7 = .ok (.invokestatic 312, 3) := by decide +kernel
theorem dX10_witnesses_10 : decode cX10_witnesses 10 = .ok (.ifCond .ne 10, 3) := by decide +kernel
theorem dX10_witnesses_13 : decode cX10_witnesses 13 = .ok (.iload_n 2, 1) := by decide +kernel
theorem dX10_witnesses_14 : decode cX10_witnesses 14 = .ok (.invokestatic 315, 3) := by decide +kernel
theorem dX10_witnesses_17 : decode cX10_witnesses 17 = .ok (.ifCond .eq 7, 3) := by decide +kernel
theorem dX10_witnesses_20 : decode cX10_witnesses 20 = .ok (.iconst 1, 1) := by decide +kernel
theorem dX10_witnesses_21 : decode cX10_witnesses 21 = .ok (.goto 4, 3) := by decide +kernel
theorem dX10_witnesses_24 : decode cX10_witnesses 24 = .ok (.iconst 0, 1) := by decide +kernel
theorem dX10_witnesses_25 : decode cX10_witnesses 25 = .ok (.iconst 1, 1) := by decide +kernel
theorem dX10_witnesses_26 : decode cX10_witnesses 26 = .ok (.invokevirtual 233, 3) := by decide +kernel
theorem dX10_witnesses_29 : decode cX10_witnesses 29 = .ok (.ifCond .eq 7, 3) := by decide +kernel
theorem dX10_witnesses_32 : decode cX10_witnesses 32 = .ok (.iconst 0, 1) := by decide +kernel
theorem dX10_witnesses_33 : decode cX10_witnesses 33 = .ok (.goto 9, 3) := by decide +kernel
theorem dX10_witnesses_36 : decode cX10_witnesses 36 = .ok (.aload_n 0, 1) := by decide +kernel
theorem dX10_witnesses_37 : decode cX10_witnesses 37 = .ok (.iload_n 1, 1) := by decide +kernel
theorem dX10_witnesses_38 : decode cX10_witnesses 38 = .ok (.iload_n 2, 1) := by decide +kernel
theorem dX10_witnesses_39 : decode cX10_witnesses 39 = .ok (.invokevirtual 318, 3) := by decide +kernel
theorem dX10_witnesses_42 : decode cX10_witnesses 42 = .ok (.ireturn, 1) := by decide +kernel
noncomputable def fX10_witnesses_j25 (V : VT) (u1 : Int32) (u2 : Int32) (t0 : Int32) : Option (Int32 × VT) := ob_I (fX10_throwsIf V t0 (1 : Int32)) fun y5 V6 => if y5 = 0 then (ob_I (fX10_seersNow V6 u1 u2) fun y8 V9 => some (y8, V9)) else (some ((0 : Int32), V6))
noncomputable def fX10_witnesses_j20 (V : VT) (u1 : Int32) (u2 : Int32) : Option (Int32 × VT) := fX10_witnesses_j25 V u1 u2 (1 : Int32)
noncomputable def fX10_witnesses (V : VT) (x1 : Int32) (x2 : Int32) : Option (Int32 × VT) := lt_ (va_up V 22 (upd (V 22) 0 (0 : Int32))) fun V1 => ob_R (fX10_noPlace V1 x1) fun y3 => if y3 = 0 then (ob_R (fX10_noHour V1 x2) fun y12 => if y12 = 0 then (fX10_witnesses_j25 V1 x1 x2 (0 : Int32)) else (fX10_witnesses_j20 V1 x1 x2)) else (fX10_witnesses_j20 V1 x1 x2)
set_option maxHeartbeats 4000000 in
set_option maxRecDepth 100000 in
theorem wX10_witnesses_j25 {p : Program} {l : Launch} {e : Env} {s : State} {m : MethodId} {args : Array Value} {below : List Frame} {meth : Method} {c : Code} {G : GT} {B : BGt} {Q : State → Prop} (E : En p s m args c meth cX10_witnesses 3 RX10 (some .int) G B) {V : VT} {u1 : Int32} {u2 : Int32} {t0 : Int32} {r : (Int32 × VT)} (h : fX10_witnesses_j25 V u1 u2 t0 = some r) (kr : Q = MQ below (QI G s.heap.size r.1 r.2) args s 0 0 (gA G s.heap.size)) {H : Heap} {locs : List Loc} {ls : Array Slot} (hw : HW G s.heap V H locs) (hl : lv_has ls 3 [(0, .ref (G.2.2 22)), (1, .int u1), (2, .int u2)]) : W p l e (rmD 13) s m args below meth c H locs 0 0 Q (F0 m 25 ls [.int t0, .ref (G.2.2 22)]) := by
  have hx := en_x E
  have hb := en_b E
  have hB := en_B E
  unfold fX10_witnesses_j25 at h
  refine lv_iconst (v := (1 : Int32)) hx hb dX10_witnesses_25 (by decide) ?_
  obtain ⟨y5, V6, h4, h⟩ := ob_I_some h
  refine c_VI E hw (kX10_throwsIf (l := l) (G := G) hB  h4) yy_X10_throwsIf lm_RX10_233 rfl (by decide) rfl rfl hl.1 (by decide) (by decide) rfl (Nat.le_of_ble_eq_true rfl) dX10_witnesses_26 (fun H locs hw => ?_)
  refine lv_if_eq (tgt := 36) hx hb dX10_witnesses_29 (by decide) (fun c10 => ?_) (fun c10 => ?_)
  · rw [if_pos c10] at h
    refine lv_aload_n hx hb dX10_witnesses_36 rfl (lv_at hl 0 rfl) ?_
    refine lv_iload_n hx hb dX10_witnesses_37 rfl (lv_at hl 1 rfl) ?_
    refine lv_iload_n hx hb dX10_witnesses_38 rfl (lv_at hl 2 rfl) ?_
    obtain ⟨y8, V9, h7, h⟩ := ob_I_some h
    refine c_VI E hw (kX10_seersNow (l := l) (G := G) hB  h7) yy_X10_seersNow lm_RX10_318 rfl (by decide) rfl rfl hl.1 (by decide) (by decide) rfl (Nat.le_of_ble_eq_true rfl) dX10_witnesses_39 (fun H locs hw => ?_)
    have h := Option.some.inj h
    subst h
    rw [kr]
    exact r_ri E hw dX10_witnesses_42
  · rw [if_neg c10] at h
    refine lv_iconst (v := (0 : Int32)) hx hb dX10_witnesses_32 (by decide) ?_
    refine lv_goto (tgt := 42) hx hb dX10_witnesses_33 (by decide) ?_
    have h := Option.some.inj h
    subst h
    rw [kr]
    exact r_ri E hw dX10_witnesses_42
set_option maxHeartbeats 4000000 in
set_option maxRecDepth 100000 in
theorem wX10_witnesses_j20 {p : Program} {l : Launch} {e : Env} {s : State} {m : MethodId} {args : Array Value} {below : List Frame} {meth : Method} {c : Code} {G : GT} {B : BGt} {Q : State → Prop} (E : En p s m args c meth cX10_witnesses 3 RX10 (some .int) G B) {V : VT} {u1 : Int32} {u2 : Int32} {r : (Int32 × VT)} (h : fX10_witnesses_j20 V u1 u2 = some r) (kr : Q = MQ below (QI G s.heap.size r.1 r.2) args s 0 0 (gA G s.heap.size)) {H : Heap} {locs : List Loc} {ls : Array Slot} (hw : HW G s.heap V H locs) (hl : lv_has ls 3 [(0, .ref (G.2.2 22)), (1, .int u1), (2, .int u2)]) : W p l e (rmD 13) s m args below meth c H locs 0 0 Q (F0 m 20 ls [.ref (G.2.2 22)]) := by
  have hx := en_x E
  have hb := en_b E
  have hB := en_B E
  unfold fX10_witnesses_j20 at h
  refine lv_iconst (v := (1 : Int32)) hx hb dX10_witnesses_20 (by decide) ?_
  refine lv_goto (tgt := 25) hx hb dX10_witnesses_21 (by decide) ?_
  exact wX10_witnesses_j25 E h kr hw (lv_sub hl [0, 1, 2] rfl)
set_option maxHeartbeats 4000000 in
set_option maxRecDepth 100000 in
theorem kX10_witnesses {l : Launch} {G : GT} {B : BGt} (hB : BGok B) {V : VT} {x1 : Int32} {x2 : Int32} {r : (Int32 × VT)} (h : fX10_witnesses V x1 x2 = some r) : CI l G B yX10_witnesses (.code yX10_witnesses cX10_witnesses 3 (some .int)) 13 [.ref (G.2.2 22), .int x1, .int x2] V r.1 r.2 := by
  intro sz
  refine met_of (Qs := fun sz => QI G sz (r.1) (r.2)) hB (by decide) (Nat.le_of_ble_eq_true rfl) ?_ sz
  intro p e s m args below meth c ls E hw hl
  have hx := en_x E
  have hb := en_b E
  generalize hQ : MQ _ _ _ _ _ _ _ = Q
  have kr : Q = MQ below (QI G s.heap.size r.1 r.2) args s 0 0 (gA G s.heap.size) := hQ.symm
  have hl : lv_has ls 3 [(0, .ref (G.2.2 22)), (1, .int x1), (2, .int x2)] := hl
  obtain ⟨H, eH⟩ : ∃ H, H = s.heap := ⟨_, rfl⟩
  obtain ⟨locs, elocs⟩ : ∃ z : List Loc, z = [] := ⟨_, rfl⟩
  have hw : HW G s.heap V H locs := by rw [eH, elocs]; exact hw
  show W p l e _ s m args below meth c s.heap [] 0 0 Q (F0 m 0 ls [])
  rw [← eH, ← elocs]
  unfold fX10_witnesses at h
  refine lv_aload_n hx hb dX10_witnesses_0 rfl (lv_at hl 0 rfl) ?_
  refine lv_iconst (v := (0 : Int32)) hx hb dX10_witnesses_1 (by decide) ?_
  obtain ⟨V1, eV1, h⟩ := lt_some h
  refine r_pi E hw 22 0 (N := 29) (C := RX10) (T := TX10) (ty0 := tyX10) (ty := .int) (by decide) rfl rfl (by decide) rfl iw_10 rfl tyX10_ok nmX10 rfl rfl (vp_nar_int _) rfl lf_RX10_3 eV1 dX10_witnesses_2 (fun H locs hw => ?_)
  refine lv_aload_n hx hb dX10_witnesses_5 rfl (lv_at hl 0 rfl) ?_
  refine lv_iload_n hx hb dX10_witnesses_6 rfl (lv_at hl 1 rfl) ?_
  obtain ⟨y3, h2, h⟩ := ob_R_some h
  refine c_SI E hw (kX10_noPlace (l := l) (G := G) hB  h2) yy_X10_noPlace lm_RX10_312 rfl hl.1 (by decide) (by decide) rfl (Nat.le_of_ble_eq_true rfl) dX10_witnesses_7 (fun H locs hw => ?_)
  refine lv_if_ne (tgt := 20) hx hb dX10_witnesses_10 (by decide) (fun c14 => ?_) (fun c14 => ?_)
  · rw [if_neg c14] at h
    exact wX10_witnesses_j20 E h kr hw (lv_sub hl [0, 1, 2] rfl)
  · rw [if_pos c14] at h
    refine lv_iload_n hx hb dX10_witnesses_13 rfl (lv_at hl 2 rfl) ?_
    obtain ⟨y12, h11, h⟩ := ob_R_some h
    refine c_SI E hw (kX10_noHour (l := l) (G := G) hB  h11) yy_X10_noHour lm_RX10_315 rfl hl.1 (by decide) (by decide) rfl (Nat.le_of_ble_eq_true rfl) dX10_witnesses_14 (fun H locs hw => ?_)
    refine lv_if_eq (tgt := 24) hx hb dX10_witnesses_17 (by decide) (fun c13 => ?_) (fun c13 => ?_)
    · rw [if_pos c13] at h
      refine lv_iconst (v := (0 : Int32)) hx hb dX10_witnesses_24 (by decide) ?_
      exact wX10_witnesses_j25 E h kr hw (lv_sub hl [0, 1, 2] rfl)
    · rw [if_neg c13] at h
      exact wX10_witnesses_j20 E h kr hw (lv_sub hl [0, 1, 2] rfl)
/-! ===== AllSawItModel.open(IZ)I ===== -/
theorem dX10_open_0 : decode cX10_open 0 = .ok (.aload_n 0, 1) := by decide +kernel
theorem dX10_open_1 : decode cX10_open 1 = .ok (.iconst 0, 1) := by decide +kernel
theorem dX10_open_2 : decode cX10_open 2 = .ok (.putfield 3, 3) := by decide +kernel
theorem dX10_open_5 : decode cX10_open 5 = .ok (.aload_n 0, 1) := by decide +kernel
theorem dX10_open_6 : decode cX10_open 6 = .ok (.iload_n 1, 1) := by decide +kernel
theorem dX10_open_7 : decode cX10_open 7 = .ok (.invokestatic 315, 3) := by decide +kernel
theorem dX10_open_10 : decode cX10_open 10 = .ok (.iconst 1, 1) := by decide +kernel
theorem dX10_open_11 : decode cX10_open 11 = .ok (.invokevirtual 233, 3) := by decide +kernel
theorem dX10_open_14 : decode cX10_open 14 = .ok (.ifCond .eq 5, 3) := by decide +kernel
theorem dX10_open_17 : decode cX10_open 17 = .ok (.iconst 0, 1) := by decide +kernel
theorem dX10_open_18 : decode cX10_open 18 = .ok (.ireturn, 1) := by decide +kernel
theorem dX10_open_19 : decode cX10_open 19 = .ok (.iconst 0, 1) := by decide +kernel
theorem dX10_open_20 : decode cX10_open 20 = .ok (.istore_n 3, 1) := by decide +kernel
theorem dX10_open_21 : decode cX10_open 21 = .ok (.iconst 0, 1) := by decide +kernel
theorem dX10_open_22 : decode cX10_open 22 = .ok (.istore 4, 2) := by decide +kernel
theorem dX10_open_24 : decode cX10_open 24 = .ok (.iload 4, 2) := by decide +kernel
theorem dX10_open_26 : decode cX10_open 26 = .ok (.bipush 24, 2) := by decide +kernel
theorem dX10_open_28 : decode cX10_open 28 = .ok (.if_icmp .ge 74, 3) := by decide +kernel
theorem dX10_open_31 : decode cX10_open 31 = .ok (.aload_n 0, 1) := by decide +kernel
theorem dX10_open_32 : decode cX10_open 32 = .ok (.iload 4, 2) := by decide +kernel
theorem dX10_open_34 : decode cX10_open 34 = .ok (.iload_n 1, 1) := by decide +kernel
theorem dX10_open_35 : decode cX10_open 35 = .ok (.invokevirtual 318, 3) := by decide +kernel
theorem dX10_open_38 : decode cX10_open 38 = .ok (.istore 5, 2) := by decide +kernel
theorem dX10_open_40 : decode cX10_open 40 = .ok (.iload_n 2, 1) := by decide +kernel
theorem dX10_open_41 : decode cX10_open 41 = .ok (.ifCond .eq 16, 3) := by decide +kernel
theorem dX10_open_44 : decode cX10_open 44 = .ok (.iload 5, 2) := by decide +kernel
theorem dX10_open_46 : decode cX10_open 46 = .ok (.ifCond .ne 7, 3) := by decide +kernel
theorem dX10_open_49 : decode cX10_open 49 = .ok (.iconst 1, 1) := by decide +kernel
theorem dX10_open_50 : decode cX10_open 50 = .ok (.goto 28, 3) := by decide +kernel
theorem dX10_open_53 : decode cX10_open 53 = .ok (.iconst 0, 1) := by decide +kernel
theorem dX10_open_54 : decode cX10_open 54 = .ok (.goto 24, 3) := by decide +kernel
theorem dX10_open_57 : decode cX10_open 57 = .ok (.aload_n 0, 1) := by decide +kernel
theorem dX10_open_58 : decode cX10_open 58 = .ok (.invokevirtual 62, 3) := by decide +kernel
theorem dX10_open_61 : decode cX10_open 61 = .ok (.ifCond .le 16, 3) := by decide +kernel
theorem dX10_open_64 : decode cX10_open 64 = .ok (.iload 5, 2) := by decide +kernel
theorem dX10_open_66 : decode cX10_open 66 = .ok (.aload_n 0, 1) := by decide +kernel
theorem dX10_open_67 : decode cX10_open 67 = .ok (.invokevirtual 321, 3) := by decide +kernel
theorem dX10_open_70 : decode cX10_open 70 = .ok (.if_icmp .ne 7, 3) := by decide +kernel
theorem dX10_open_73 : decode cX10_open 73 = .ok (.iconst 1, 1) := by decide +kernel
theorem dX10_open_74 : decode cX10_open 74 = .ok (.goto 4, 3) := by decide +kernel
theorem dX10_open_77 : decode cX10_open 77 = .ok (.iconst 0, 1) := by decide +kernel
theorem dX10_open_78 : decode cX10_open 78 = .ok (.istore 6, 2) := by decide +kernel
theorem dX10_open_80 : decode cX10_open 80 = .ok (.iload_n 3, 1) := by decide +kernel
theorem dX10_open_81 : decode cX10_open 81 = .ok (.iload 6, 2) := by decide +kernel
theorem dX10_open_83 : decode cX10_open 83 = .ok (.ifCond .eq 10, 3) := by decide +kernel
theorem dX10_open_86 : decode cX10_open 86 = .ok (.iconst 1, 1) := by decide +kernel
theorem dX10_open_87 : decode cX10_open 87 = .ok (.iload 4, 2) := by decide +kernel
theorem dX10_open_89 : decode cX10_open 89 = .ok (.ishl, 1) := by decide +kernel
theorem dX10_open_90 : decode cX10_open 90 = .ok (.goto 4, 3) := by decide +kernel
theorem dX10_open_93 : decode cX10_open 93 = .ok (.iconst 0, 1) := by decide +kernel
theorem dX10_open_94 : decode cX10_open 94 = .ok (.ior, 1) := by decide +kernel
theorem dX10_open_95 : decode cX10_open 95 = .ok (.istore_n 3, 1) := by decide +kernel
theorem dX10_open_96 : decode cX10_open 96 = .ok (.iinc 4 1, 3) := by decide +kernel
theorem dX10_open_99 : decode cX10_open 99 = .ok (.goto (-75), 3) := by decide +kernel
theorem dX10_open_102 : decode cX10_open 102 = .ok (.iload_n 3, 1) := by decide +kernel
theorem dX10_open_103 : decode cX10_open 103 = .ok (.ireturn, 1) := by decide +kernel
noncomputable def fX10_open_j78_24 (V : VT) (u1 : Int32) (u2 : Int32) (u3 : Int32) (u4 : Int32) (t0 : Int32) : Option ((VT × Int32 × Int32 × Int32 × Int32) ⊕ (Int32 × VT)) := if t0 = 0 then (lt_ (u3 ||| (0 : Int32)) fun y12 => lt_ (u4 + (1 : Int32)) fun y13 => some (.inl (V, u1, u2, y12, y13))) else (lt_ (u3 ||| ((1 : Int32) <<< (u4 &&& 31))) fun y14 => lt_ (u4 + (1 : Int32)) fun y15 => some (.inl (V, u1, u2, y14, y15)))
noncomputable def fX10_open_j77_24 (V : VT) (u1 : Int32) (u2 : Int32) (u3 : Int32) (u4 : Int32) : Option ((VT × Int32 × Int32 × Int32 × Int32) ⊕ (Int32 × VT)) := fX10_open_j78_24 V u1 u2 u3 u4 (0 : Int32)
noncomputable def fX10_open_L24 (V : VT) (u1 : Int32) (u2 : Int32) (u3 : Int32) (u4 : Int32) : Option ((VT × Int32 × Int32 × Int32 × Int32) ⊕ (Int32 × VT)) := if (24 : Int32) ≤ u4 then (some (.inr ((u3, V)))) else (ob_I (fX10_seersNow V u4 u1) fun y8 V9 => if u2 = 0 then (ob_R (fX10_houses V9 ) fun y11 => if y11 ≤ 0 then (fX10_open_j77_24 V9 u1 u2 u3 u4) else (ob_R (fX10_allHouses V9 ) fun y18 => if y8 = y18 then (fX10_open_j78_24 V9 u1 u2 u3 u4 (1 : Int32)) else (fX10_open_j77_24 V9 u1 u2 u3 u4))) else (if y8 = 0 then (fX10_open_j78_24 V9 u1 u2 u3 u4 (1 : Int32)) else (fX10_open_j78_24 V9 u1 u2 u3 u4 (0 : Int32))))
noncomputable def iX10_open_L24 : (VT × Int32 × Int32 × Int32 × Int32) → Option ((VT × Int32 × Int32 × Int32 × Int32) ⊕ (Int32 × VT)) := fun q => fX10_open_L24 (q.1) (q.2.1) (q.2.2.1) (q.2.2.2.1) (q.2.2.2.2)
noncomputable def fX10_open (V : VT) (x1 : Int32) (x2 : Int32) : Option (Int32 × VT) := lt_ (va_up V 22 (upd (V 22) 0 (0 : Int32))) fun V1 => ob_R (fX10_noHour V1 x1) fun y3 => ob_I (fX10_throwsIf V1 y3 (1 : Int32)) fun y5 V6 => if y5 = 0 then (ob_R (it_ (iX10_open_L24) FV (V6, x1, x2, (0 : Int32), (0 : Int32))) fun x25 => some x25) else (some ((0 : Int32), V6))
set_option maxHeartbeats 4000000 in
set_option maxRecDepth 100000 in
theorem wX10_open_j78_24 {p : Program} {l : Launch} {e : Env} {s : State} {m : MethodId} {args : Array Value} {below : List Frame} {meth : Method} {c : Code} {G : GT} {B : BGt} {Q : State → Prop} (E : En p s m args c meth cX10_open 7 RX10 (some .int) G B) {V : VT} {u1 : Int32} {u2 : Int32} {u3 : Int32} {u4 : Int32} {t0 : Int32} {r : ((VT × Int32 × Int32 × Int32 × Int32) ⊕ (Int32 × VT))} (h : fX10_open_j78_24 V u1 u2 u3 u4 t0 = some r) (kc : ∀ q : (VT × Int32 × Int32 × Int32 × Int32), r = .inl q → ∀ (H : Heap) (locs : List Loc) (ls : Array Slot), HW G s.heap (q.1) H locs → lv_has ls 7 [(0, .ref (G.2.2 22)), (1, .int (q.2.1)), (2, .int (q.2.2.1)), (3, .int (q.2.2.2.1)), (4, .int (q.2.2.2.2))] → W p l e (rmD 13) s m args below meth c H locs 0 0 Q (F0 m 24 ls [])) (kr : ∀ q : (Int32 × VT), r = .inr (q) → Q = MQ below (QI G s.heap.size q.1 q.2) args s 0 0 (gA G s.heap.size)) {H : Heap} {locs : List Loc} {ls : Array Slot} (hw : HW G s.heap V H locs) (hl : lv_has ls 7 [(0, .ref (G.2.2 22)), (1, .int u1), (2, .int u2), (3, .int u3), (4, .int u4)]) : W p l e (rmD 13) s m args below meth c H locs 0 0 Q (F0 m 78 ls [.int t0]) := by
  have hx := en_x E
  have hb := en_b E
  have hB := en_B E
  unfold fX10_open_j78_24 at h
  refine lv_istore (lv' := [(6, .int t0), (0, .ref (G.2.2 22)), (1, .int u1), (2, .int u2), (3, .int u3), (4, .int u4)]) hx hb dX10_open_78 hl (by decide) rfl (fun ls hl => ?_)
  refine lv_iload_n hx hb dX10_open_80 rfl (lv_at hl 4 rfl) ?_
  refine lv_iload hx hb dX10_open_81 (lv_at hl 0 rfl) ?_
  refine lv_if_eq (tgt := 93) hx hb dX10_open_83 (by decide) (fun c16 => ?_) (fun c16 => ?_)
  · rw [if_pos c16] at h
    refine lv_iconst (v := (0 : Int32)) hx hb dX10_open_93 (by decide) ?_
    refine lv_ior hx hb dX10_open_94 ?_
    obtain ⟨y12, ey12, h⟩ := lt_some h
    refine lv_eqi ey12 ?_
    refine lv_istore_n (lv' := [(3, .int y12), (6, .int t0), (0, .ref (G.2.2 22)), (1, .int u1), (2, .int u2), (4, .int u4)]) hx hb dX10_open_95 rfl hl (by decide) rfl (fun ls hl => ?_)
    obtain ⟨y13, ey13, h⟩ := lt_some h
    refine lv_iinc (v := y13) (lv' := [(4, .int y13), (3, .int y12), (6, .int t0), (0, .ref (G.2.2 22)), (1, .int u1), (2, .int u2)]) hx hb dX10_open_96 hl (k := 5) rfl (by rw [ey13]; rfl) (by decide) rfl (fun ls hl => ?_)
    refine lv_goto (tgt := 24) hx hb dX10_open_99 (by decide) ?_
    exact kc (V, u1, u2, y12, y13) (Option.some.inj h).symm H locs ls hw (lv_sub hl [3, 4, 5, 1, 0] rfl)
  · rw [if_neg c16] at h
    refine lv_iconst (v := (1 : Int32)) hx hb dX10_open_86 (by decide) ?_
    refine lv_iload hx hb dX10_open_87 (lv_at hl 5 rfl) ?_
    refine lv_ishl hx hb dX10_open_89 ?_
    refine lv_goto (tgt := 94) hx hb dX10_open_90 (by decide) ?_
    refine lv_ior hx hb dX10_open_94 ?_
    obtain ⟨y14, ey14, h⟩ := lt_some h
    refine lv_eqi ey14 ?_
    refine lv_istore_n (lv' := [(3, .int y14), (6, .int t0), (0, .ref (G.2.2 22)), (1, .int u1), (2, .int u2), (4, .int u4)]) hx hb dX10_open_95 rfl hl (by decide) rfl (fun ls hl => ?_)
    obtain ⟨y15, ey15, h⟩ := lt_some h
    refine lv_iinc (v := y15) (lv' := [(4, .int y15), (3, .int y14), (6, .int t0), (0, .ref (G.2.2 22)), (1, .int u1), (2, .int u2)]) hx hb dX10_open_96 hl (k := 5) rfl (by rw [ey15]; rfl) (by decide) rfl (fun ls hl => ?_)
    refine lv_goto (tgt := 24) hx hb dX10_open_99 (by decide) ?_
    exact kc (V, u1, u2, y14, y15) (Option.some.inj h).symm H locs ls hw (lv_sub hl [3, 4, 5, 1, 0] rfl)
set_option maxHeartbeats 4000000 in
set_option maxRecDepth 100000 in
theorem wX10_open_j77_24 {p : Program} {l : Launch} {e : Env} {s : State} {m : MethodId} {args : Array Value} {below : List Frame} {meth : Method} {c : Code} {G : GT} {B : BGt} {Q : State → Prop} (E : En p s m args c meth cX10_open 7 RX10 (some .int) G B) {V : VT} {u1 : Int32} {u2 : Int32} {u3 : Int32} {u4 : Int32} {r : ((VT × Int32 × Int32 × Int32 × Int32) ⊕ (Int32 × VT))} (h : fX10_open_j77_24 V u1 u2 u3 u4 = some r) (kc : ∀ q : (VT × Int32 × Int32 × Int32 × Int32), r = .inl q → ∀ (H : Heap) (locs : List Loc) (ls : Array Slot), HW G s.heap (q.1) H locs → lv_has ls 7 [(0, .ref (G.2.2 22)), (1, .int (q.2.1)), (2, .int (q.2.2.1)), (3, .int (q.2.2.2.1)), (4, .int (q.2.2.2.2))] → W p l e (rmD 13) s m args below meth c H locs 0 0 Q (F0 m 24 ls [])) (kr : ∀ q : (Int32 × VT), r = .inr (q) → Q = MQ below (QI G s.heap.size q.1 q.2) args s 0 0 (gA G s.heap.size)) {H : Heap} {locs : List Loc} {ls : Array Slot} (hw : HW G s.heap V H locs) (hl : lv_has ls 7 [(0, .ref (G.2.2 22)), (1, .int u1), (2, .int u2), (3, .int u3), (4, .int u4)]) : W p l e (rmD 13) s m args below meth c H locs 0 0 Q (F0 m 77 ls []) := by
  have hx := en_x E
  have hb := en_b E
  have hB := en_B E
  unfold fX10_open_j77_24 at h
  refine lv_iconst (v := (0 : Int32)) hx hb dX10_open_77 (by decide) ?_
  exact wX10_open_j78_24 E h kc kr hw (lv_sub hl [0, 1, 2, 3, 4] rfl)
set_option maxHeartbeats 4000000 in
set_option maxRecDepth 100000 in
theorem wX10_open_L24 {p : Program} {l : Launch} {e : Env} {s : State} {m : MethodId} {args : Array Value} {below : List Frame} {meth : Method} {c : Code} {G : GT} {B : BGt} {Q : State → Prop} (E : En p s m args c meth cX10_open 7 RX10 (some .int) G B) {x : (Int32 × VT)} (kr : ∀ q : (Int32 × VT), x = q → Q = MQ below (QI G s.heap.size q.1 q.2) args s 0 0 (gA G s.heap.size)) : ∀ (n : Nat) (q : (VT × Int32 × Int32 × Int32 × Int32)), it_ (iX10_open_L24) n q = some x → ∀ (H : Heap) (locs : List Loc) (ls : Array Slot), HW G s.heap (q.1) H locs → lv_has ls 7 [(0, .ref (G.2.2 22)), (1, .int (q.2.1)), (2, .int (q.2.2.1)), (3, .int (q.2.2.2.1)), (4, .int (q.2.2.2.2))] → W p l e (rmD 13) s m args below meth c H locs 0 0 Q (F0 m 24 ls []) := by
  have hx := en_x E
  have hb := en_b E
  have hB := en_B E
  refine it_W (fun q : (VT × Int32 × Int32 × Int32 × Int32) => ∀ (H : Heap) (locs : List Loc) (ls : Array Slot), HW G s.heap (q.1) H locs → lv_has ls 7 [(0, .ref (G.2.2 22)), (1, .int (q.2.1)), (2, .int (q.2.2.1)), (3, .int (q.2.2.2.1)), (4, .int (q.2.2.2.2))] → W p l e (rmD 13) s m args below meth c H locs 0 0 Q (F0 m 24 ls [])) x ?_
  intro q r h kc kx
  obtain ⟨V, u1, u2, u3, u4⟩ := q
  intro H locs ls hw hl
  have h : fX10_open_L24 V u1 u2 u3 u4 = some r := h
  have hw : HW G s.heap V H locs := hw
  have hl : lv_has ls 7 [(0, .ref (G.2.2 22)), (1, .int u1), (2, .int u2), (3, .int u3), (4, .int u4)] := hl
  have kr : ∀ q : (Int32 × VT), r = .inr (q) → Q = MQ below (QI G s.heap.size q.1 q.2) args s 0 0 (gA G s.heap.size) := fun q e => kr q (kx _ e).symm
  unfold fX10_open_L24 at h
  refine lv_iload hx hb dX10_open_24 (lv_at hl 4 rfl) ?_
  refine lv_bipush (v := (24 : Int32)) hx hb dX10_open_26 (by decide) ?_
  refine lv_icmp_ge (tgt := 102) hx hb dX10_open_28 (by decide) (fun c23 => ?_) (fun c23 => ?_)
  · rw [if_pos c23] at h
    refine lv_iload_n hx hb dX10_open_102 rfl (lv_at hl 3 rfl) ?_
    rw [kr (u3, V) (Option.some.inj h).symm]
    exact r_ri E hw dX10_open_103
  · rw [if_neg c23] at h
    refine lv_aload_n hx hb dX10_open_31 rfl (lv_at hl 0 rfl) ?_
    refine lv_iload hx hb dX10_open_32 (lv_at hl 4 rfl) ?_
    refine lv_iload_n hx hb dX10_open_34 rfl (lv_at hl 1 rfl) ?_
    obtain ⟨y8, V9, h7, h⟩ := ob_I_some h
    refine c_VI E hw (kX10_seersNow (l := l) (G := G) hB  h7) yy_X10_seersNow lm_RX10_318 rfl (by decide) rfl rfl hl.1 (by decide) (by decide) rfl (Nat.le_of_ble_eq_true rfl) dX10_open_35 (fun H locs hw => ?_)
    refine lv_istore (lv' := [(5, .int y8), (0, .ref (G.2.2 22)), (1, .int u1), (2, .int u2), (3, .int u3), (4, .int u4)]) hx hb dX10_open_38 hl (by decide) rfl (fun ls hl => ?_)
    refine lv_iload_n hx hb dX10_open_40 rfl (lv_at hl 3 rfl) ?_
    refine lv_if_eq (tgt := 57) hx hb dX10_open_41 (by decide) (fun c22 => ?_) (fun c22 => ?_)
    · rw [if_pos c22] at h
      refine lv_aload_n hx hb dX10_open_57 rfl (lv_at hl 1 rfl) ?_
      obtain ⟨y11, h10, h⟩ := ob_R_some h
      refine c_VI E hw (kX10_houses (l := l) (G := G) hB  h10) yy_X10_houses lm_RX10_62 rfl (by decide) rfl rfl hl.1 (by decide) (by decide) rfl (Nat.le_of_ble_eq_true rfl) dX10_open_58 (fun H locs hw => ?_)
      refine lv_if_le (tgt := 77) hx hb dX10_open_61 (by decide) (fun c20 => ?_) (fun c20 => ?_)
      · rw [if_pos c20] at h
        exact wX10_open_j77_24 E h kc kr hw (lv_sub hl [1, 2, 3, 4, 5] rfl)
      · rw [if_neg c20] at h
        refine lv_iload hx hb dX10_open_64 (lv_at hl 0 rfl) ?_
        refine lv_aload_n hx hb dX10_open_66 rfl (lv_at hl 1 rfl) ?_
        obtain ⟨y18, h17, h⟩ := ob_R_some h
        refine c_VI E hw (kX10_allHouses (l := l) (G := G) hB  h17) yy_X10_allHouses lm_RX10_321 rfl (by decide) rfl rfl hl.1 (by decide) (by decide) rfl (Nat.le_of_ble_eq_true rfl) dX10_open_67 (fun H locs hw => ?_)
        refine lv_icmp_ne (tgt := 77) hx hb dX10_open_70 (by decide) (fun c19 => ?_) (fun c19 => ?_)
        · rw [if_neg c19] at h
          exact wX10_open_j77_24 E h kc kr hw (lv_sub hl [1, 2, 3, 4, 5] rfl)
        · rw [if_pos c19] at h
          refine lv_iconst (v := (1 : Int32)) hx hb dX10_open_73 (by decide) ?_
          refine lv_goto (tgt := 78) hx hb dX10_open_74 (by decide) ?_
          exact wX10_open_j78_24 E h kc kr hw (lv_sub hl [1, 2, 3, 4, 5] rfl)
    · rw [if_neg c22] at h
      refine lv_iload hx hb dX10_open_44 (lv_at hl 0 rfl) ?_
      refine lv_if_ne (tgt := 53) hx hb dX10_open_46 (by decide) (fun c21 => ?_) (fun c21 => ?_)
      · rw [if_neg c21] at h
        refine lv_iconst (v := (0 : Int32)) hx hb dX10_open_53 (by decide) ?_
        refine lv_goto (tgt := 78) hx hb dX10_open_54 (by decide) ?_
        exact wX10_open_j78_24 E h kc kr hw (lv_sub hl [1, 2, 3, 4, 5] rfl)
      · rw [if_pos c21] at h
        refine lv_iconst (v := (1 : Int32)) hx hb dX10_open_49 (by decide) ?_
        refine lv_goto (tgt := 78) hx hb dX10_open_50 (by decide) ?_
        exact wX10_open_j78_24 E h kc kr hw (lv_sub hl [1, 2, 3, 4, 5] rfl)
set_option maxHeartbeats 4000000 in
set_option maxRecDepth 100000 in
theorem kX10_open {l : Launch} {G : GT} {B : BGt} (hB : BGok B) {V : VT} {x1 : Int32} {x2 : Int32} {r : (Int32 × VT)} (h : fX10_open V x1 x2 = some r) : CI l G B yX10_open (.code yX10_open cX10_open 7 (some .int)) 13 [.ref (G.2.2 22), .int x1, .int x2] V r.1 r.2 := by
  intro sz
  refine met_of (Qs := fun sz => QI G sz (r.1) (r.2)) hB (by decide) (Nat.le_of_ble_eq_true rfl) ?_ sz
  intro p e s m args below meth c ls E hw hl
  have hx := en_x E
  have hb := en_b E
  generalize hQ : MQ _ _ _ _ _ _ _ = Q
  have kr : Q = MQ below (QI G s.heap.size r.1 r.2) args s 0 0 (gA G s.heap.size) := hQ.symm
  have hl : lv_has ls 7 [(0, .ref (G.2.2 22)), (1, .int x1), (2, .int x2)] := hl
  obtain ⟨H, eH⟩ : ∃ H, H = s.heap := ⟨_, rfl⟩
  obtain ⟨locs, elocs⟩ : ∃ z : List Loc, z = [] := ⟨_, rfl⟩
  have hw : HW G s.heap V H locs := by rw [eH, elocs]; exact hw
  show W p l e _ s m args below meth c s.heap [] 0 0 Q (F0 m 0 ls [])
  rw [← eH, ← elocs]
  unfold fX10_open at h
  refine lv_aload_n hx hb dX10_open_0 rfl (lv_at hl 0 rfl) ?_
  refine lv_iconst (v := (0 : Int32)) hx hb dX10_open_1 (by decide) ?_
  obtain ⟨V1, eV1, h⟩ := lt_some h
  refine r_pi E hw 22 0 (N := 29) (C := RX10) (T := TX10) (ty0 := tyX10) (ty := .int) (by decide) rfl rfl (by decide) rfl iw_10 rfl tyX10_ok nmX10 rfl rfl (vp_nar_int _) rfl lf_RX10_3 eV1 dX10_open_2 (fun H locs hw => ?_)
  refine lv_aload_n hx hb dX10_open_5 rfl (lv_at hl 0 rfl) ?_
  refine lv_iload_n hx hb dX10_open_6 rfl (lv_at hl 1 rfl) ?_
  obtain ⟨y3, h2, h⟩ := ob_R_some h
  refine c_SI E hw (kX10_noHour (l := l) (G := G) hB  h2) yy_X10_noHour lm_RX10_315 rfl hl.1 (by decide) (by decide) rfl (Nat.le_of_ble_eq_true rfl) dX10_open_7 (fun H locs hw => ?_)
  refine lv_iconst (v := (1 : Int32)) hx hb dX10_open_10 (by decide) ?_
  obtain ⟨y5, V6, h4, h⟩ := ob_I_some h
  refine c_VI E hw (kX10_throwsIf (l := l) (G := G) hB  h4) yy_X10_throwsIf lm_RX10_233 rfl (by decide) rfl rfl hl.1 (by decide) (by decide) rfl (Nat.le_of_ble_eq_true rfl) dX10_open_11 (fun H locs hw => ?_)
  refine lv_if_eq (tgt := 19) hx hb dX10_open_14 (by decide) (fun c26 => ?_) (fun c26 => ?_)
  · rw [if_pos c26] at h
    refine lv_iconst (v := (0 : Int32)) hx hb dX10_open_19 (by decide) ?_
    refine lv_istore_n (lv' := [(3, .int (0 : Int32)), (0, .ref (G.2.2 22)), (1, .int x1), (2, .int x2)]) hx hb dX10_open_20 rfl hl (by decide) rfl (fun ls hl => ?_)
    refine lv_iconst (v := (0 : Int32)) hx hb dX10_open_21 (by decide) ?_
    refine lv_istore (lv' := [(4, .int (0 : Int32)), (3, .int (0 : Int32)), (0, .ref (G.2.2 22)), (1, .int x1), (2, .int x2)]) hx hb dX10_open_22 hl (by decide) rfl (fun ls hl => ?_)
    obtain ⟨x25, h24, h⟩ := ob_R_some h
    have h := Option.some.inj h
    subst h
    exact wX10_open_L24 E (fun q e => by subst e; exact kr) FV (V6, x1, x2, (0 : Int32), (0 : Int32)) h24 H locs ls hw (lv_sub hl [2, 3, 4, 1, 0] rfl)
  · rw [if_neg c26] at h
    refine lv_iconst (v := (0 : Int32)) hx hb dX10_open_17 (by decide) ?_
    have h := Option.some.inj h
    subst h
    rw [kr]
    exact r_ri E hw dX10_open_18
/-! ===== AllSawItModel.best()I ===== -/
theorem dX10_best_0 : decode cX10_best 0 = .ok (.aload_n 0, 1) := by decide +kernel
theorem dX10_best_1 : decode cX10_best 1 = .ok (.iconst 0, 1) := by decide +kernel
theorem dX10_best_2 : decode cX10_best 2 = .ok (.putfield 3, 3) := by decide +kernel
theorem dX10_best_5 : decode cX10_best 5 = .ok (.iconst (-1), 1) := by decide +kernel
theorem dX10_best_6 : decode cX10_best 6 = .ok (.istore_n 1, 1) := by decide +kernel
theorem dX10_best_7 : decode cX10_best 7 = .ok (.iconst (-1), 1) := by decide +kernel
theorem dX10_best_8 : decode cX10_best 8 = .ok (.istore_n 2, 1) := by decide +kernel
theorem dX10_best_9 : decode cX10_best 9 = .ok (.iconst 0, 1) := by decide +kernel
theorem dX10_best_10 : decode cX10_best 10 = .ok (.istore_n 3, 1) := by decide +kernel
theorem dX10_best_11 : decode cX10_best 11 = .ok (.iload_n 3, 1) := by decide +kernel
theorem dX10_best_12 : decode cX10_best 12 = .ok (.bipush 24, 2) := by decide +kernel
theorem dX10_best_14 : decode cX10_best 14 = .ok (.if_icmp .ge 64, 3) := by decide +kernel
theorem dX10_best_17 : decode cX10_best 17 = .ok (.aload_n 0, 1) := by decide +kernel
theorem dX10_best_18 : decode cX10_best 18 = .ok (.invokevirtual 62, 3) := by decide +kernel
theorem dX10_best_21 : decode cX10_best 21 = .ok (.ifCond .le 57, 3) := by decide +kernel
theorem dX10_best_24 : decode cX10_best 24 = .ok (.iconst 0, 1) := by decide +kernel
theorem dX10_best_25 : decode cX10_best 25 = .ok (.istore 4, 2) := by decide +kernel
theorem dX10_best_27 : decode cX10_best 27 = .ok (.iload 4, 2) := by decide +kernel
theorem dX10_best_29 : decode cX10_best 29 = .ok (.bipush 24, 2) := by decide +kernel
theorem dX10_best_31 : decode cX10_best 31 = .ok (.if_icmp .ge 41, 3) := by decide +kernel
theorem dX10_best_34 : decode cX10_best 34 = .ok (.aload_n 0, 1) := by decide +kernel
theorem dX10_best_35 : decode cX10_best 35 = .ok (.iload 4, 2) := by decide +kernel
theorem dX10_best_37 : decode cX10_best 37 = .ok (.iload_n 3, 1) := by decide +kernel
theorem dX10_best_38 : decode cX10_best 38 = .ok (.invokevirtual 318, 3) := by decide +kernel
theorem dX10_best_41 : decode cX10_best 41 = .ok (.invokestatic 324, 3) := by decide +kernel
theorem dX10_best_44 : decode cX10_best 44 = .ok (.istore 5, 2) := by decide +kernel
theorem dX10_best_46 : decode cX10_best 46 = .ok (.iload 5, 2) := by decide +kernel
theorem dX10_best_48 : decode cX10_best 48 = .ok (.iload_n 2, 1) := by decide +kernel
theorem dX10_best_49 : decode cX10_best 49 = .ok (.if_icmp .gt 6, 3) := by decide +kernel
theorem dX10_best_52 : decode cX10_best 52 = .ok (.goto 14, 3) := by decide +kernel
theorem dX10_best_55 : decode cX10_best 55 = .ok (.bipush 100, 2) := by decide +kernel
theorem dX10_best_57 : decode cX10_best 57 = .ok (.iload_n 3, 1) := by decide +kernel
theorem dX10_best_58 : decode cX10_best 58 = .ok (.imul, 1) := by decide +kernel
theorem dX10_best_59 : decode cX10_best 59 = .ok (.iload 4, 2) := by decide +kernel
theorem dX10_best_61 : decode cX10_best 61 = .ok (.iadd, 1) := by decide +kernel
theorem dX10_best_62 : decode cX10_best 62 = .ok (.istore_n 1, 1) := by decide +kernel
theorem dX10_best_63 : decode cX10_best 63 = .ok (.iload 5, 2) := by decide +kernel
theorem dX10_best_65 : decode cX10_best 65 = .ok (.istore_n 2, 1) := by decide +kernel
theorem dX10_best_66 : decode cX10_best 66 = .ok (.iinc 4 1, 3) := by decide +kernel
theorem dX10_best_69 : decode cX10_best 69 = .ok (.goto (-42), 3) := by decide +kernel
theorem dX10_best_72 : decode cX10_best 72 = .ok (.iinc 3 1, 3) := by decide +kernel
theorem dX10_best_75 : decode cX10_best 75 = .ok (.goto (-64), 3) := by decide +kernel
theorem dX10_best_78 : decode cX10_best 78 = .ok (.iload_n 1, 1) := by decide +kernel
theorem dX10_best_79 : decode cX10_best 79 = .ok (.ireturn, 1) := by decide +kernel
noncomputable def fX10_best_L27 (V : VT) (u1 : Int32) (u2 : Int32) (u3 : Int32) (u4 : Int32) : Option ((VT × Int32 × Int32 × Int32 × Int32) ⊕ (VT × Int32 × Int32 × Int32)) := if (24 : Int32) ≤ u4 then (some (.inr ((V, u1, u2, u3)))) else (ob_I (fX10_seersNow V u4 u3) fun y5 V6 => ob_R (fJ6_bitCount_0f7a4 V6 y5) fun y8 => if u2 < y8 then (lt_ (((100 : Int32) * u3) + u4) fun y9 => lt_ (u4 + (1 : Int32)) fun y10 => some (.inl (V6, y9, y8, u3, y10))) else (lt_ (u4 + (1 : Int32)) fun y11 => some (.inl (V6, u1, u2, u3, y11))))
noncomputable def iX10_best_L27 : (VT × Int32 × Int32 × Int32 × Int32) → Option ((VT × Int32 × Int32 × Int32 × Int32) ⊕ (VT × Int32 × Int32 × Int32)) := fun q => fX10_best_L27 (q.1) (q.2.1) (q.2.2.1) (q.2.2.2.1) (q.2.2.2.2)
noncomputable def fX10_best_L11 (V : VT) (u1 : Int32) (u2 : Int32) (u3 : Int32) : Option ((VT × Int32 × Int32 × Int32) ⊕ (Int32 × VT)) := if (24 : Int32) ≤ u3 then (some (.inr ((u1, V)))) else (ob_R (fX10_houses V ) fun y3 => if y3 ≤ 0 then (some (.inr ((u1, V)))) else (ob_R (it_ (iX10_best_L27) FV (V, u1, u2, u3, (0 : Int32))) fun x15 => (dt4_ x15 fun V19 y16 y17 y18 => lt_ (y18 + (1 : Int32)) fun y20 => some (.inl (V19, y16, y17, y20)))))
noncomputable def iX10_best_L11 : (VT × Int32 × Int32 × Int32) → Option ((VT × Int32 × Int32 × Int32) ⊕ (Int32 × VT)) := fun q => fX10_best_L11 (q.1) (q.2.1) (q.2.2.1) (q.2.2.2)
noncomputable def fX10_best (V : VT) : Option (Int32 × VT) := lt_ (va_up V 22 (upd (V 22) 0 (0 : Int32))) fun V1 => ob_R (it_ (iX10_best_L11) FV (V1, (-1 : Int32), (-1 : Int32), (0 : Int32))) fun x24 => some x24
set_option maxHeartbeats 4000000 in
set_option maxRecDepth 100000 in
theorem wX10_best_L27 {p : Program} {l : Launch} {e : Env} {s : State} {m : MethodId} {args : Array Value} {below : List Frame} {meth : Method} {c : Code} {G : GT} {B : BGt} {Q : State → Prop} (E : En p s m args c meth cX10_best 6 RX10 (some .int) G B) {x : (VT × Int32 × Int32 × Int32)} (ke : ∀ q : (VT × Int32 × Int32 × Int32), x = q → ∀ (H : Heap) (locs : List Loc) (ls : Array Slot), HW G s.heap (q.1) H locs → lv_has ls 6 [(0, .ref (G.2.2 22)), (1, .int (q.2.1)), (2, .int (q.2.2.1)), (3, .int (q.2.2.2))] → W p l e (rmD 13) s m args below meth c H locs 0 0 Q (F0 m 72 ls [])) : ∀ (n : Nat) (q : (VT × Int32 × Int32 × Int32 × Int32)), it_ (iX10_best_L27) n q = some x → ∀ (H : Heap) (locs : List Loc) (ls : Array Slot), HW G s.heap (q.1) H locs → lv_has ls 6 [(0, .ref (G.2.2 22)), (1, .int (q.2.1)), (2, .int (q.2.2.1)), (3, .int (q.2.2.2.1)), (4, .int (q.2.2.2.2))] → W p l e (rmD 13) s m args below meth c H locs 0 0 Q (F0 m 27 ls []) := by
  have hx := en_x E
  have hb := en_b E
  have hB := en_B E
  refine it_W (fun q : (VT × Int32 × Int32 × Int32 × Int32) => ∀ (H : Heap) (locs : List Loc) (ls : Array Slot), HW G s.heap (q.1) H locs → lv_has ls 6 [(0, .ref (G.2.2 22)), (1, .int (q.2.1)), (2, .int (q.2.2.1)), (3, .int (q.2.2.2.1)), (4, .int (q.2.2.2.2))] → W p l e (rmD 13) s m args below meth c H locs 0 0 Q (F0 m 27 ls [])) x ?_
  intro q r h kc kx
  obtain ⟨V, u1, u2, u3, u4⟩ := q
  intro H locs ls hw hl
  have h : fX10_best_L27 V u1 u2 u3 u4 = some r := h
  have hw : HW G s.heap V H locs := hw
  have hl : lv_has ls 6 [(0, .ref (G.2.2 22)), (1, .int u1), (2, .int u2), (3, .int u3), (4, .int u4)] := hl
  have ke : ∀ q : (VT × Int32 × Int32 × Int32), r = .inr (q) → ∀ (H : Heap) (locs : List Loc) (ls : Array Slot), HW G s.heap (q.1) H locs → lv_has ls 6 [(0, .ref (G.2.2 22)), (1, .int (q.2.1)), (2, .int (q.2.2.1)), (3, .int (q.2.2.2))] → W p l e (rmD 13) s m args below meth c H locs 0 0 Q (F0 m 72 ls []) := fun q e => ke q (kx _ e).symm
  unfold fX10_best_L27 at h
  refine lv_iload hx hb dX10_best_27 (lv_at hl 4 rfl) ?_
  refine lv_bipush (v := (24 : Int32)) hx hb dX10_best_29 (by decide) ?_
  refine lv_icmp_ge (tgt := 72) hx hb dX10_best_31 (by decide) (fun c13 => ?_) (fun c13 => ?_)
  · rw [if_pos c13] at h
    exact ke (V, u1, u2, u3) (Option.some.inj h).symm H locs ls hw (lv_sub hl [0, 1, 2, 3] rfl)
  · rw [if_neg c13] at h
    refine lv_aload_n hx hb dX10_best_34 rfl (lv_at hl 0 rfl) ?_
    refine lv_iload hx hb dX10_best_35 (lv_at hl 4 rfl) ?_
    refine lv_iload_n hx hb dX10_best_37 rfl (lv_at hl 3 rfl) ?_
    obtain ⟨y5, V6, h4, h⟩ := ob_I_some h
    refine c_VI E hw (kX10_seersNow (l := l) (G := G) hB  h4) yy_X10_seersNow lm_RX10_318 rfl (by decide) rfl rfl hl.1 (by decide) (by decide) rfl (Nat.le_of_ble_eq_true rfl) dX10_best_38 (fun H locs hw => ?_)
    obtain ⟨y8, h7, h⟩ := ob_R_some h
    refine c_SI E hw (kJ6_bitCount_0f7a4 (l := l) (G := G) hB  h7) yy_J6_bitCount_0f7a4 lm_RX10_324 rfl hl.1 (by decide) (by decide) rfl (Nat.le_of_ble_eq_true rfl) dX10_best_41 (fun H locs hw => ?_)
    refine lv_istore (lv' := [(5, .int y8), (0, .ref (G.2.2 22)), (1, .int u1), (2, .int u2), (3, .int u3), (4, .int u4)]) hx hb dX10_best_44 hl (by decide) rfl (fun ls hl => ?_)
    refine lv_iload hx hb dX10_best_46 (lv_at hl 0 rfl) ?_
    refine lv_iload_n hx hb dX10_best_48 rfl (lv_at hl 3 rfl) ?_
    refine lv_icmp_gt (tgt := 55) hx hb dX10_best_49 (by decide) (fun c12 => ?_) (fun c12 => ?_)
    · rw [if_pos c12] at h
      refine lv_bipush (v := (100 : Int32)) hx hb dX10_best_55 (by decide) ?_
      refine lv_iload_n hx hb dX10_best_57 rfl (lv_at hl 4 rfl) ?_
      refine lv_imul hx hb dX10_best_58 ?_
      refine lv_iload hx hb dX10_best_59 (lv_at hl 5 rfl) ?_
      refine lv_iadd hx hb dX10_best_61 ?_
      obtain ⟨y9, ey9, h⟩ := lt_some h
      refine lv_eqi ey9 ?_
      refine lv_istore_n (lv' := [(1, .int y9), (5, .int y8), (0, .ref (G.2.2 22)), (2, .int u2), (3, .int u3), (4, .int u4)]) hx hb dX10_best_62 rfl hl (by decide) rfl (fun ls hl => ?_)
      refine lv_iload hx hb dX10_best_63 (lv_at hl 1 rfl) ?_
      refine lv_istore_n (lv' := [(2, .int y8), (1, .int y9), (5, .int y8), (0, .ref (G.2.2 22)), (3, .int u3), (4, .int u4)]) hx hb dX10_best_65 rfl hl (by decide) rfl (fun ls hl => ?_)
      obtain ⟨y10, ey10, h⟩ := lt_some h
      refine lv_iinc (v := y10) (lv' := [(4, .int y10), (2, .int y8), (1, .int y9), (5, .int y8), (0, .ref (G.2.2 22)), (3, .int u3)]) hx hb dX10_best_66 hl (k := 5) rfl (by rw [ey10]; rfl) (by decide) rfl (fun ls hl => ?_)
      refine lv_goto (tgt := 27) hx hb dX10_best_69 (by decide) ?_
      exact kc (V6, y9, y8, u3, y10) (Option.some.inj h).symm H locs ls hw (lv_sub hl [4, 2, 1, 5, 0] rfl)
    · rw [if_neg c12] at h
      refine lv_goto (tgt := 66) hx hb dX10_best_52 (by decide) ?_
      obtain ⟨y11, ey11, h⟩ := lt_some h
      refine lv_iinc (v := y11) (lv' := [(4, .int y11), (5, .int y8), (0, .ref (G.2.2 22)), (1, .int u1), (2, .int u2), (3, .int u3)]) hx hb dX10_best_66 hl (k := 5) rfl (by rw [ey11]; rfl) (by decide) rfl (fun ls hl => ?_)
      refine lv_goto (tgt := 27) hx hb dX10_best_69 (by decide) ?_
      exact kc (V6, u1, u2, u3, y11) (Option.some.inj h).symm H locs ls hw (lv_sub hl [2, 3, 4, 5, 0] rfl)
set_option maxHeartbeats 4000000 in
set_option maxRecDepth 100000 in
theorem wX10_best_L11 {p : Program} {l : Launch} {e : Env} {s : State} {m : MethodId} {args : Array Value} {below : List Frame} {meth : Method} {c : Code} {G : GT} {B : BGt} {Q : State → Prop} (E : En p s m args c meth cX10_best 6 RX10 (some .int) G B) {x : (Int32 × VT)} (kr : ∀ q : (Int32 × VT), x = q → Q = MQ below (QI G s.heap.size q.1 q.2) args s 0 0 (gA G s.heap.size)) : ∀ (n : Nat) (q : (VT × Int32 × Int32 × Int32)), it_ (iX10_best_L11) n q = some x → ∀ (H : Heap) (locs : List Loc) (ls : Array Slot), HW G s.heap (q.1) H locs → lv_has ls 6 [(0, .ref (G.2.2 22)), (1, .int (q.2.1)), (2, .int (q.2.2.1)), (3, .int (q.2.2.2))] → W p l e (rmD 13) s m args below meth c H locs 0 0 Q (F0 m 11 ls []) := by
  have hx := en_x E
  have hb := en_b E
  have hB := en_B E
  refine it_W (fun q : (VT × Int32 × Int32 × Int32) => ∀ (H : Heap) (locs : List Loc) (ls : Array Slot), HW G s.heap (q.1) H locs → lv_has ls 6 [(0, .ref (G.2.2 22)), (1, .int (q.2.1)), (2, .int (q.2.2.1)), (3, .int (q.2.2.2))] → W p l e (rmD 13) s m args below meth c H locs 0 0 Q (F0 m 11 ls [])) x ?_
  intro q r h kc kx
  obtain ⟨V, u1, u2, u3⟩ := q
  intro H locs ls hw hl
  have h : fX10_best_L11 V u1 u2 u3 = some r := h
  have hw : HW G s.heap V H locs := hw
  have hl : lv_has ls 6 [(0, .ref (G.2.2 22)), (1, .int u1), (2, .int u2), (3, .int u3)] := hl
  have kr : ∀ q : (Int32 × VT), r = .inr (q) → Q = MQ below (QI G s.heap.size q.1 q.2) args s 0 0 (gA G s.heap.size) := fun q e => kr q (kx _ e).symm
  unfold fX10_best_L11 at h
  refine lv_iload_n hx hb dX10_best_11 rfl (lv_at hl 3 rfl) ?_
  refine lv_bipush (v := (24 : Int32)) hx hb dX10_best_12 (by decide) ?_
  refine lv_icmp_ge (tgt := 78) hx hb dX10_best_14 (by decide) (fun c22 => ?_) (fun c22 => ?_)
  · rw [if_pos c22] at h
    refine lv_iload_n hx hb dX10_best_78 rfl (lv_at hl 1 rfl) ?_
    rw [kr (u1, V) (Option.some.inj h).symm]
    exact r_ri E hw dX10_best_79
  · rw [if_neg c22] at h
    refine lv_aload_n hx hb dX10_best_17 rfl (lv_at hl 0 rfl) ?_
    obtain ⟨y3, h2, h⟩ := ob_R_some h
    refine c_VI E hw (kX10_houses (l := l) (G := G) hB  h2) yy_X10_houses lm_RX10_62 rfl (by decide) rfl rfl hl.1 (by decide) (by decide) rfl (Nat.le_of_ble_eq_true rfl) dX10_best_18 (fun H locs hw => ?_)
    refine lv_if_le (tgt := 78) hx hb dX10_best_21 (by decide) (fun c21 => ?_) (fun c21 => ?_)
    · rw [if_pos c21] at h
      refine lv_iload_n hx hb dX10_best_78 rfl (lv_at hl 1 rfl) ?_
      rw [kr (u1, V) (Option.some.inj h).symm]
      exact r_ri E hw dX10_best_79
    · rw [if_neg c21] at h
      refine lv_iconst (v := (0 : Int32)) hx hb dX10_best_24 (by decide) ?_
      refine lv_istore (lv' := [(4, .int (0 : Int32)), (0, .ref (G.2.2 22)), (1, .int u1), (2, .int u2), (3, .int u3)]) hx hb dX10_best_25 hl (by decide) rfl (fun ls hl => ?_)
      obtain ⟨x15, h14, h⟩ := ob_R_some h
      obtain ⟨V19, y16, y17, y18⟩ := x15
      refine wX10_best_L27 E (fun q e H locs ls hw hl => ?_) FV (V, u1, u2, u3, (0 : Int32)) h14 H locs ls hw (lv_sub hl [1, 2, 3, 4, 0] rfl)
      subst e
      have hw : HW G s.heap V19 H locs := hw
      have hl : lv_has ls 6 [(0, .ref (G.2.2 22)), (1, .int y16), (2, .int y17), (3, .int y18)] := hl
      have h := dt4_eq h
      obtain ⟨y20, ey20, h⟩ := lt_some h
      refine lv_iinc (v := y20) (lv' := [(3, .int y20), (0, .ref (G.2.2 22)), (1, .int y16), (2, .int y17)]) hx hb dX10_best_72 hl (k := 3) rfl (by rw [ey20]; rfl) (by decide) rfl (fun ls hl => ?_)
      refine lv_goto (tgt := 11) hx hb dX10_best_75 (by decide) ?_
      exact kc (V19, y16, y17, y20) (Option.some.inj h).symm H locs ls hw (lv_sub hl [1, 2, 3, 0] rfl)
set_option maxHeartbeats 4000000 in
set_option maxRecDepth 100000 in
theorem kX10_best {l : Launch} {G : GT} {B : BGt} (hB : BGok B) {V : VT} {r : (Int32 × VT)} (h : fX10_best V = some r) : CI l G B yX10_best (.code yX10_best cX10_best 6 (some .int)) 13 [.ref (G.2.2 22)] V r.1 r.2 := by
  intro sz
  refine met_of (Qs := fun sz => QI G sz (r.1) (r.2)) hB (by decide) (Nat.le_of_ble_eq_true rfl) ?_ sz
  intro p e s m args below meth c ls E hw hl
  have hx := en_x E
  have hb := en_b E
  generalize hQ : MQ _ _ _ _ _ _ _ = Q
  have kr : Q = MQ below (QI G s.heap.size r.1 r.2) args s 0 0 (gA G s.heap.size) := hQ.symm
  have hl : lv_has ls 6 [(0, .ref (G.2.2 22))] := hl
  obtain ⟨H, eH⟩ : ∃ H, H = s.heap := ⟨_, rfl⟩
  obtain ⟨locs, elocs⟩ : ∃ z : List Loc, z = [] := ⟨_, rfl⟩
  have hw : HW G s.heap V H locs := by rw [eH, elocs]; exact hw
  show W p l e _ s m args below meth c s.heap [] 0 0 Q (F0 m 0 ls [])
  rw [← eH, ← elocs]
  unfold fX10_best at h
  refine lv_aload_n hx hb dX10_best_0 rfl (lv_at hl 0 rfl) ?_
  refine lv_iconst (v := (0 : Int32)) hx hb dX10_best_1 (by decide) ?_
  obtain ⟨V1, eV1, h⟩ := lt_some h
  refine r_pi E hw 22 0 (N := 29) (C := RX10) (T := TX10) (ty0 := tyX10) (ty := .int) (by decide) rfl rfl (by decide) rfl iw_10 rfl tyX10_ok nmX10 rfl rfl (vp_nar_int _) rfl lf_RX10_3 eV1 dX10_best_2 (fun H locs hw => ?_)
  refine lv_iconst (v := (-1 : Int32)) hx hb dX10_best_5 (by decide) ?_
  refine lv_istore_n (lv' := [(1, .int (-1 : Int32)), (0, .ref (G.2.2 22))]) hx hb dX10_best_6 rfl hl (by decide) rfl (fun ls hl => ?_)
  refine lv_iconst (v := (-1 : Int32)) hx hb dX10_best_7 (by decide) ?_
  refine lv_istore_n (lv' := [(2, .int (-1 : Int32)), (1, .int (-1 : Int32)), (0, .ref (G.2.2 22))]) hx hb dX10_best_8 rfl hl (by decide) rfl (fun ls hl => ?_)
  refine lv_iconst (v := (0 : Int32)) hx hb dX10_best_9 (by decide) ?_
  refine lv_istore_n (lv' := [(3, .int (0 : Int32)), (2, .int (-1 : Int32)), (1, .int (-1 : Int32)), (0, .ref (G.2.2 22))]) hx hb dX10_best_10 rfl hl (by decide) rfl (fun ls hl => ?_)
  obtain ⟨x24, h23, h⟩ := ob_R_some h
  have h := Option.some.inj h
  subst h
  exact wX10_best_L11 E (fun q e => by subst e; exact kr) FV (V1, (-1 : Int32), (-1 : Int32), (0 : Int32)) h23 H locs ls hw (lv_sub hl [3, 2, 1, 0] rfl)
/-! ===== AllSawItModel.wake(II)I ===== -/
theorem dX10_wake_0 : decode cX10_wake 0 = .ok (.aload_n 0, 1) := by decide +kernel
theorem dX10_wake_1 : decode cX10_wake 1 = .ok (.iconst 0, 1) := by decide +kernel
theorem dX10_wake_2 : decode cX10_wake 2 = .ok (.putfield 3, 3) := by decide +kernel
theorem dX10_wake_5 : decode cX10_wake 5 = .ok (.aload_n 0, 1) := by decide +kernel
theorem dX10_wake_6 : decode cX10_wake 6 = .ok (.iload_n 1, 1) := by decide +kernel
theorem dX10_wake_7 : decode cX10_wake 7 = .ok (.invokestatic 312, 3) := by decide +kernel
theorem dX10_wake_10 : decode cX10_wake 10 = .ok (.ifCond .ne 10, 3) := by decide +kernel
theorem dX10_wake_13 : decode cX10_wake 13 = .ok (.iload_n 2, 1) := by decide +kernel
theorem dX10_wake_14 : decode cX10_wake 14 = .ok (.invokestatic 315, 3) := by decide +kernel
theorem dX10_wake_17 : decode cX10_wake 17 = .ok (.ifCond .eq 7, 3) := by decide +kernel
theorem dX10_wake_20 : decode cX10_wake 20 = .ok (.iconst 1, 1) := by decide +kernel
theorem dX10_wake_21 : decode cX10_wake 21 = .ok (.goto 4, 3) := by decide +kernel
theorem dX10_wake_24 : decode cX10_wake 24 = .ok (.iconst 0, 1) := by decide +kernel
theorem dX10_wake_25 : decode cX10_wake 25 = .ok (.iconst 1, 1) := by decide +kernel
theorem dX10_wake_26 : decode cX10_wake 26 = .ok (.invokevirtual 233, 3) := by decide +kernel
theorem dX10_wake_29 : decode cX10_wake 29 = .ok (.ifCond .eq 5, 3) := by decide +kernel
theorem dX10_wake_32 : decode cX10_wake 32 = .ok (.iconst 0, 1) := by decide +kernel
theorem dX10_wake_33 : decode cX10_wake 33 = .ok (.ireturn, 1) := by decide +kernel
theorem dX10_wake_34 : decode cX10_wake 34 = .ok (.iconst 0, 1) := by decide +kernel
theorem dX10_wake_35 : decode cX10_wake 35 = .ok (.istore_n 3, 1) := by decide +kernel
theorem dX10_wake_36 : decode cX10_wake 36 = .ok (.iconst 0, 1) := by decide +kernel
theorem dX10_wake_37 : decode cX10_wake 37 = .ok (.istore 4, 2) := by decide +kernel
theorem dX10_wake_39 : decode cX10_wake 39 = .ok (.iload 4, 2) := by decide +kernel
theorem dX10_wake_41 : decode cX10_wake 41 = .ok (.aload_n 0, 1) := by decide +kernel
theorem dX10_wake_42 : decode cX10_wake 42 = .ok (.invokevirtual 62, 3) := by decide +kernel
theorem dX10_wake_45 : decode cX10_wake 45 = .ok (.if_icmp .ge 57, 3) := by decide +kernel
theorem dX10_wake_48 : decode cX10_wake 48 = .ok (.aload_n 0, 1) := by decide +kernel
theorem dX10_wake_49 : decode cX10_wake 49 = .ok (.iload 4, 2) := by decide +kernel
theorem dX10_wake_51 : decode cX10_wake 51 = .ok (.iload_n 1, 1) := by decide +kernel
theorem dX10_wake_52 : decode cX10_wake 52 = .ok (.iload_n 2, 1) := by decide +kernel
theorem dX10_wake_53 : decode cX10_wake 53 = .ok (.aload_n 0, 1) := by decide +kernel
theorem dX10_wake_54 : decode cX10_wake 54 = .ok (.getfield 13, 3) := by decide +kernel
theorem dX10_wake_57 : decode cX10_wake 57 = .ok (.iconst 5, 1) := by decide +kernel
theorem dX10_wake_58 : decode cX10_wake 58 = .ok (.iaload, 1) := by decide +kernel
theorem dX10_wake_59 : decode cX10_wake 59 = .ok (.invokevirtual 301, 3) := by decide +kernel
theorem dX10_wake_62 : decode cX10_wake 62 = .ok (.ifCond .eq 6, 3) := by decide +kernel
theorem dX10_wake_65 : decode cX10_wake 65 = .ok (.goto 31, 3) := by decide +kernel
theorem dX10_wake_68 : decode cX10_wake 68 = .ok (.aload_n 0, 1) := by decide +kernel
theorem dX10_wake_69 : decode cX10_wake 69 = .ok (.iconst 1, 1) := by decide +kernel
theorem dX10_wake_70 : decode cX10_wake 70 = .ok (.putfield 272, 3) := by decide +kernel
theorem dX10_wake_73 : decode cX10_wake 73 = .ok (.aload_n 0, 1) := by decide +kernel
theorem dX10_wake_74 : decode cX10_wake 74 = .ok (.iconst 0, 1) := by decide +kernel
theorem dX10_wake_75 : decode cX10_wake 75 = .ok (.putfield 275, 3) := by decide +kernel
theorem dX10_wake_78 : decode cX10_wake 78 = .ok (.iload_n 3, 1) := by decide +kernel
theorem dX10_wake_79 : decode cX10_wake 79 = .ok (.aload_n 0, 1) := by decide +kernel
theorem dX10_wake_80 : decode cX10_wake 80 = .ok (.invokevirtual 298, 3) := by decide +kernel
theorem dX10_wake_83 : decode cX10_wake 83 = .ok (.ifCond .eq 10, 3) := by decide +kernel
theorem dX10_wake_86 : decode cX10_wake 86 = .ok (.iconst 1, 1) := by decide +kernel
theorem dX10_wake_87 : decode cX10_wake 87 = .ok (.iload 4, 2) := by decide +kernel
theorem dX10_wake_89 : decode cX10_wake 89 = .ok (.ishl, 1) := by decide +kernel
theorem dX10_wake_90 : decode cX10_wake 90 = .ok (.goto 4, 3) := by decide +kernel
theorem dX10_wake_93 : decode cX10_wake 93 = .ok (.iconst 0, 1) := by decide +kernel
theorem dX10_wake_94 : decode cX10_wake 94 = .ok (.ior, 1) := by decide +kernel
theorem dX10_wake_95 : decode cX10_wake 95 = .ok (.istore_n 3, 1) := by decide +kernel
theorem dX10_wake_96 : decode cX10_wake 96 = .ok (.iinc 4 1, 3) := by decide +kernel
theorem dX10_wake_99 : decode cX10_wake 99 = .ok (.goto (-60), 3) := by decide +kernel
theorem dX10_wake_102 : decode cX10_wake 102 = .ok (.iload_n 3, 1) := by decide +kernel
theorem dX10_wake_103 : decode cX10_wake 103 = .ok (.ireturn, 1) := by decide +kernel
noncomputable def fX10_wake_L39 (V : VT) (u1 : Int32) (u2 : Int32) (u3 : Int32) (u4 : Int32) : Option ((VT × Int32 × Int32 × Int32 × Int32) ⊕ (Int32 × VT)) := ob_R (fX10_houses V ) fun y8 => if y8 ≤ u4 then (some (.inr ((u3, V)))) else (rd_ (5 : Int32) 1988 (ob_I (fX10_doesSee V u4 u1 u2 (V 76 (5 : Int32).toNatClampNeg)) fun y11 V12 => if y11 = 0 then (zo_ (1 : Int32) (lt_ (va_up V12 22 (upd (V12 22) 23 (1 : Int32))) fun V13 => zo_ (0 : Int32) (lt_ (va_up V13 22 (upd (V13 22) 24 (0 : Int32))) fun V14 => ob_I (fX10_isSeen V14 ) fun y16 V17 => if y16 = 0 then (lt_ (u3 ||| (0 : Int32)) fun y18 => lt_ (u4 + (1 : Int32)) fun y19 => some (.inl (V17, u1, u2, y18, y19))) else (lt_ (u3 ||| ((1 : Int32) <<< (u4 &&& 31))) fun y20 => lt_ (u4 + (1 : Int32)) fun y21 => some (.inl (V17, u1, u2, y20, y21)))))) else (lt_ (u4 + (1 : Int32)) fun y25 => some (.inl (V12, u1, u2, u3, y25)))))
noncomputable def iX10_wake_L39 : (VT × Int32 × Int32 × Int32 × Int32) → Option ((VT × Int32 × Int32 × Int32 × Int32) ⊕ (Int32 × VT)) := fun q => fX10_wake_L39 (q.1) (q.2.1) (q.2.2.1) (q.2.2.2.1) (q.2.2.2.2)
noncomputable def fX10_wake_j25 (V : VT) (u1 : Int32) (u2 : Int32) (t0 : Int32) : Option (Int32 × VT) := ob_I (fX10_throwsIf V t0 (1 : Int32)) fun y5 V6 => if y5 = 0 then (ob_R (it_ (iX10_wake_L39) FV (V6, u1, u2, (0 : Int32), (0 : Int32))) fun x29 => some x29) else (some ((0 : Int32), V6))
noncomputable def fX10_wake_j20 (V : VT) (u1 : Int32) (u2 : Int32) : Option (Int32 × VT) := fX10_wake_j25 V u1 u2 (1 : Int32)
noncomputable def fX10_wake (V : VT) (x1 : Int32) (x2 : Int32) : Option (Int32 × VT) := lt_ (va_up V 22 (upd (V 22) 0 (0 : Int32))) fun V1 => ob_R (fX10_noPlace V1 x1) fun y3 => if y3 = 0 then (ob_R (fX10_noHour V1 x2) fun y32 => if y32 = 0 then (fX10_wake_j25 V1 x1 x2 (0 : Int32)) else (fX10_wake_j20 V1 x1 x2)) else (fX10_wake_j20 V1 x1 x2)
set_option maxHeartbeats 4000000 in
set_option maxRecDepth 100000 in
theorem wX10_wake_L39 {p : Program} {l : Launch} {e : Env} {s : State} {m : MethodId} {args : Array Value} {below : List Frame} {meth : Method} {c : Code} {G : GT} {B : BGt} {Q : State → Prop} (E : En p s m args c meth cX10_wake 5 RX10 (some .int) G B) {x : (Int32 × VT)} (kr : ∀ q : (Int32 × VT), x = q → Q = MQ below (QI G s.heap.size q.1 q.2) args s 0 0 (gA G s.heap.size)) : ∀ (n : Nat) (q : (VT × Int32 × Int32 × Int32 × Int32)), it_ (iX10_wake_L39) n q = some x → ∀ (H : Heap) (locs : List Loc) (ls : Array Slot), HW G s.heap (q.1) H locs → lv_has ls 5 [(0, .ref (G.2.2 22)), (1, .int (q.2.1)), (2, .int (q.2.2.1)), (3, .int (q.2.2.2.1)), (4, .int (q.2.2.2.2))] → W p l e (rmD 11) s m args below meth c H locs 0 0 Q (F0 m 39 ls []) := by
  have hx := en_x E
  have hb := en_b E
  have hB := en_B E
  refine it_W (fun q : (VT × Int32 × Int32 × Int32 × Int32) => ∀ (H : Heap) (locs : List Loc) (ls : Array Slot), HW G s.heap (q.1) H locs → lv_has ls 5 [(0, .ref (G.2.2 22)), (1, .int (q.2.1)), (2, .int (q.2.2.1)), (3, .int (q.2.2.2.1)), (4, .int (q.2.2.2.2))] → W p l e (rmD 11) s m args below meth c H locs 0 0 Q (F0 m 39 ls [])) x ?_
  intro q r h kc kx
  obtain ⟨V, u1, u2, u3, u4⟩ := q
  intro H locs ls hw hl
  have h : fX10_wake_L39 V u1 u2 u3 u4 = some r := h
  have hw : HW G s.heap V H locs := hw
  have hl : lv_has ls 5 [(0, .ref (G.2.2 22)), (1, .int u1), (2, .int u2), (3, .int u3), (4, .int u4)] := hl
  have kr : ∀ q : (Int32 × VT), r = .inr (q) → Q = MQ below (QI G s.heap.size q.1 q.2) args s 0 0 (gA G s.heap.size) := fun q e => kr q (kx _ e).symm
  unfold fX10_wake_L39 at h
  refine lv_iload hx hb dX10_wake_39 (lv_at hl 4 rfl) ?_
  refine lv_aload_n hx hb dX10_wake_41 rfl (lv_at hl 0 rfl) ?_
  obtain ⟨y8, h7, h⟩ := ob_R_some h
  refine c_VI E hw (kX10_houses (l := l) (G := G) hB  h7) yy_X10_houses lm_RX10_62 rfl (by decide) rfl rfl hl.1 (by decide) (by decide) rfl (Nat.le_of_ble_eq_true rfl) dX10_wake_42 (fun H locs hw => ?_)
  refine lv_icmp_ge (tgt := 102) hx hb dX10_wake_45 (by decide) (fun c27 => ?_) (fun c27 => ?_)
  · rw [if_pos c27] at h
    refine lv_iload_n hx hb dX10_wake_102 rfl (lv_at hl 3 rfl) ?_
    rw [kr (u3, V) (Option.some.inj h).symm]
    exact r_ri E hw dX10_wake_103
  · rw [if_neg c27] at h
    refine lv_aload_n hx hb dX10_wake_48 rfl (lv_at hl 0 rfl) ?_
    refine lv_iload hx hb dX10_wake_49 (lv_at hl 4 rfl) ?_
    refine lv_iload_n hx hb dX10_wake_51 rfl (lv_at hl 1 rfl) ?_
    refine lv_iload_n hx hb dX10_wake_52 rfl (lv_at hl 2 rfl) ?_
    refine lv_aload_n hx hb dX10_wake_53 rfl (lv_at hl 0 rfl) ?_
    refine r_gr E hw 22 1 76 (N := 29) (C := RX10) (T := TX10) (by decide) rfl rfl (by decide) rfl iw_10 rfl lf_RX10_13 dX10_wake_54 ?_
    refine lv_iconst (v := (5 : Int32)) hx hb dX10_wake_57 (by decide) ?_
    obtain ⟨b9, h⟩ := rd_some h
    refine r_ia E hw 76 1988 (by decide) (by decide) (by decide) rfl rfl b9 dX10_wake_58 ?_
    obtain ⟨y11, V12, h10, h⟩ := ob_I_some h
    refine c_VI E hw (kX10_doesSee (l := l) (G := G) hB  h10) yy_X10_doesSee lm_RX10_301 rfl (by decide) rfl rfl hl.1 (by decide) (by decide) rfl (Nat.le_of_ble_eq_true rfl) dX10_wake_59 (fun H locs hw => ?_)
    refine lv_if_eq (tgt := 68) hx hb dX10_wake_62 (by decide) (fun c26 => ?_) (fun c26 => ?_)
    · rw [if_pos c26] at h
      refine lv_aload_n hx hb dX10_wake_68 rfl (lv_at hl 0 rfl) ?_
      refine lv_iconst (v := (1 : Int32)) hx hb dX10_wake_69 (by decide) ?_
      obtain ⟨z24, h⟩ := zo_some h
      obtain ⟨V13, eV13, h⟩ := lt_some h
      refine r_pi E hw 22 23 (N := 29) (C := RX10) (T := TX10) (ty0 := tyX10) (ty := .boolean) (by decide) rfl rfl (by decide) rfl iw_10 rfl tyX10_ok nmX10 rfl rfl (nar_z z24) (fit_z z24) lf_RX10_272 eV13 dX10_wake_70 (fun H locs hw => ?_)
      refine lv_aload_n hx hb dX10_wake_73 rfl (lv_at hl 0 rfl) ?_
      refine lv_iconst (v := (0 : Int32)) hx hb dX10_wake_74 (by decide) ?_
      obtain ⟨z23, h⟩ := zo_some h
      obtain ⟨V14, eV14, h⟩ := lt_some h
      refine r_pi E hw 22 24 (N := 29) (C := RX10) (T := TX10) (ty0 := tyX10) (ty := .boolean) (by decide) rfl rfl (by decide) rfl iw_10 rfl tyX10_ok nmX10 rfl rfl (nar_z z23) (fit_z z23) lf_RX10_275 eV14 dX10_wake_75 (fun H locs hw => ?_)
      refine lv_iload_n hx hb dX10_wake_78 rfl (lv_at hl 3 rfl) ?_
      refine lv_aload_n hx hb dX10_wake_79 rfl (lv_at hl 0 rfl) ?_
      obtain ⟨y16, V17, h15, h⟩ := ob_I_some h
      refine c_VI E hw (kX10_isSeen (l := l) (G := G) hB  h15) yy_X10_isSeen lm_RX10_298 rfl (by decide) rfl rfl hl.1 (by decide) (by decide) rfl (Nat.le_of_ble_eq_true rfl) dX10_wake_80 (fun H locs hw => ?_)
      refine lv_if_eq (tgt := 93) hx hb dX10_wake_83 (by decide) (fun c22 => ?_) (fun c22 => ?_)
      · rw [if_pos c22] at h
        refine lv_iconst (v := (0 : Int32)) hx hb dX10_wake_93 (by decide) ?_
        refine lv_ior hx hb dX10_wake_94 ?_
        obtain ⟨y18, ey18, h⟩ := lt_some h
        refine lv_eqi ey18 ?_
        refine lv_istore_n (lv' := [(3, .int y18), (0, .ref (G.2.2 22)), (1, .int u1), (2, .int u2), (4, .int u4)]) hx hb dX10_wake_95 rfl hl (by decide) rfl (fun ls hl => ?_)
        obtain ⟨y19, ey19, h⟩ := lt_some h
        refine lv_iinc (v := y19) (lv' := [(4, .int y19), (3, .int y18), (0, .ref (G.2.2 22)), (1, .int u1), (2, .int u2)]) hx hb dX10_wake_96 hl (k := 4) rfl (by rw [ey19]; rfl) (by decide) rfl (fun ls hl => ?_)
        refine lv_goto (tgt := 39) hx hb dX10_wake_99 (by decide) ?_
        exact kc (V17, u1, u2, y18, y19) (Option.some.inj h).symm H locs ls hw (lv_sub hl [2, 3, 4, 1, 0] rfl)
      · rw [if_neg c22] at h
        refine lv_iconst (v := (1 : Int32)) hx hb dX10_wake_86 (by decide) ?_
        refine lv_iload hx hb dX10_wake_87 (lv_at hl 4 rfl) ?_
        refine lv_ishl hx hb dX10_wake_89 ?_
        refine lv_goto (tgt := 94) hx hb dX10_wake_90 (by decide) ?_
        refine lv_ior hx hb dX10_wake_94 ?_
        obtain ⟨y20, ey20, h⟩ := lt_some h
        refine lv_eqi ey20 ?_
        refine lv_istore_n (lv' := [(3, .int y20), (0, .ref (G.2.2 22)), (1, .int u1), (2, .int u2), (4, .int u4)]) hx hb dX10_wake_95 rfl hl (by decide) rfl (fun ls hl => ?_)
        obtain ⟨y21, ey21, h⟩ := lt_some h
        refine lv_iinc (v := y21) (lv' := [(4, .int y21), (3, .int y20), (0, .ref (G.2.2 22)), (1, .int u1), (2, .int u2)]) hx hb dX10_wake_96 hl (k := 4) rfl (by rw [ey21]; rfl) (by decide) rfl (fun ls hl => ?_)
        refine lv_goto (tgt := 39) hx hb dX10_wake_99 (by decide) ?_
        exact kc (V17, u1, u2, y20, y21) (Option.some.inj h).symm H locs ls hw (lv_sub hl [2, 3, 4, 1, 0] rfl)
    · rw [if_neg c26] at h
      refine lv_goto (tgt := 96) hx hb dX10_wake_65 (by decide) ?_
      obtain ⟨y25, ey25, h⟩ := lt_some h
      refine lv_iinc (v := y25) (lv' := [(4, .int y25), (0, .ref (G.2.2 22)), (1, .int u1), (2, .int u2), (3, .int u3)]) hx hb dX10_wake_96 hl (k := 4) rfl (by rw [ey25]; rfl) (by decide) rfl (fun ls hl => ?_)
      refine lv_goto (tgt := 39) hx hb dX10_wake_99 (by decide) ?_
      exact kc (V12, u1, u2, u3, y25) (Option.some.inj h).symm H locs ls hw (lv_sub hl [1, 2, 3, 4, 0] rfl)
set_option maxHeartbeats 4000000 in
set_option maxRecDepth 100000 in
theorem wX10_wake_j25 {p : Program} {l : Launch} {e : Env} {s : State} {m : MethodId} {args : Array Value} {below : List Frame} {meth : Method} {c : Code} {G : GT} {B : BGt} {Q : State → Prop} (E : En p s m args c meth cX10_wake 5 RX10 (some .int) G B) {V : VT} {u1 : Int32} {u2 : Int32} {t0 : Int32} {r : (Int32 × VT)} (h : fX10_wake_j25 V u1 u2 t0 = some r) (kr : Q = MQ below (QI G s.heap.size r.1 r.2) args s 0 0 (gA G s.heap.size)) {H : Heap} {locs : List Loc} {ls : Array Slot} (hw : HW G s.heap V H locs) (hl : lv_has ls 5 [(0, .ref (G.2.2 22)), (1, .int u1), (2, .int u2)]) : W p l e (rmD 11) s m args below meth c H locs 0 0 Q (F0 m 25 ls [.int t0, .ref (G.2.2 22)]) := by
  have hx := en_x E
  have hb := en_b E
  have hB := en_B E
  unfold fX10_wake_j25 at h
  refine lv_iconst (v := (1 : Int32)) hx hb dX10_wake_25 (by decide) ?_
  obtain ⟨y5, V6, h4, h⟩ := ob_I_some h
  refine c_VI E hw (kX10_throwsIf (l := l) (G := G) hB  h4) yy_X10_throwsIf lm_RX10_233 rfl (by decide) rfl rfl hl.1 (by decide) (by decide) rfl (Nat.le_of_ble_eq_true rfl) dX10_wake_26 (fun H locs hw => ?_)
  refine lv_if_eq (tgt := 34) hx hb dX10_wake_29 (by decide) (fun c30 => ?_) (fun c30 => ?_)
  · rw [if_pos c30] at h
    refine lv_iconst (v := (0 : Int32)) hx hb dX10_wake_34 (by decide) ?_
    refine lv_istore_n (lv' := [(3, .int (0 : Int32)), (0, .ref (G.2.2 22)), (1, .int u1), (2, .int u2)]) hx hb dX10_wake_35 rfl hl (by decide) rfl (fun ls hl => ?_)
    refine lv_iconst (v := (0 : Int32)) hx hb dX10_wake_36 (by decide) ?_
    refine lv_istore (lv' := [(4, .int (0 : Int32)), (3, .int (0 : Int32)), (0, .ref (G.2.2 22)), (1, .int u1), (2, .int u2)]) hx hb dX10_wake_37 hl (by decide) rfl (fun ls hl => ?_)
    obtain ⟨x29, h28, h⟩ := ob_R_some h
    have h := Option.some.inj h
    subst h
    exact wX10_wake_L39 E (fun q e => by subst e; exact kr) FV (V6, u1, u2, (0 : Int32), (0 : Int32)) h28 H locs ls hw (lv_sub hl [2, 3, 4, 1, 0] rfl)
  · rw [if_neg c30] at h
    refine lv_iconst (v := (0 : Int32)) hx hb dX10_wake_32 (by decide) ?_
    have h := Option.some.inj h
    subst h
    rw [kr]
    exact r_ri E hw dX10_wake_33
set_option maxHeartbeats 4000000 in
set_option maxRecDepth 100000 in
theorem wX10_wake_j20 {p : Program} {l : Launch} {e : Env} {s : State} {m : MethodId} {args : Array Value} {below : List Frame} {meth : Method} {c : Code} {G : GT} {B : BGt} {Q : State → Prop} (E : En p s m args c meth cX10_wake 5 RX10 (some .int) G B) {V : VT} {u1 : Int32} {u2 : Int32} {r : (Int32 × VT)} (h : fX10_wake_j20 V u1 u2 = some r) (kr : Q = MQ below (QI G s.heap.size r.1 r.2) args s 0 0 (gA G s.heap.size)) {H : Heap} {locs : List Loc} {ls : Array Slot} (hw : HW G s.heap V H locs) (hl : lv_has ls 5 [(0, .ref (G.2.2 22)), (1, .int u1), (2, .int u2)]) : W p l e (rmD 11) s m args below meth c H locs 0 0 Q (F0 m 20 ls [.ref (G.2.2 22)]) := by
  have hx := en_x E
  have hb := en_b E
  have hB := en_B E
  unfold fX10_wake_j20 at h
  refine lv_iconst (v := (1 : Int32)) hx hb dX10_wake_20 (by decide) ?_
  refine lv_goto (tgt := 25) hx hb dX10_wake_21 (by decide) ?_
  exact wX10_wake_j25 E h kr hw (lv_sub hl [0, 1, 2] rfl)
set_option maxHeartbeats 4000000 in
set_option maxRecDepth 100000 in
theorem kX10_wake {l : Launch} {G : GT} {B : BGt} (hB : BGok B) {V : VT} {x1 : Int32} {x2 : Int32} {r : (Int32 × VT)} (h : fX10_wake V x1 x2 = some r) : CI l G B yX10_wake (.code yX10_wake cX10_wake 5 (some .int)) 11 [.ref (G.2.2 22), .int x1, .int x2] V r.1 r.2 := by
  intro sz
  refine met_of (Qs := fun sz => QI G sz (r.1) (r.2)) hB (by decide) (Nat.le_of_ble_eq_true rfl) ?_ sz
  intro p e s m args below meth c ls E hw hl
  have hx := en_x E
  have hb := en_b E
  generalize hQ : MQ _ _ _ _ _ _ _ = Q
  have kr : Q = MQ below (QI G s.heap.size r.1 r.2) args s 0 0 (gA G s.heap.size) := hQ.symm
  have hl : lv_has ls 5 [(0, .ref (G.2.2 22)), (1, .int x1), (2, .int x2)] := hl
  obtain ⟨H, eH⟩ : ∃ H, H = s.heap := ⟨_, rfl⟩
  obtain ⟨locs, elocs⟩ : ∃ z : List Loc, z = [] := ⟨_, rfl⟩
  have hw : HW G s.heap V H locs := by rw [eH, elocs]; exact hw
  show W p l e _ s m args below meth c s.heap [] 0 0 Q (F0 m 0 ls [])
  rw [← eH, ← elocs]
  unfold fX10_wake at h
  refine lv_aload_n hx hb dX10_wake_0 rfl (lv_at hl 0 rfl) ?_
  refine lv_iconst (v := (0 : Int32)) hx hb dX10_wake_1 (by decide) ?_
  obtain ⟨V1, eV1, h⟩ := lt_some h
  refine r_pi E hw 22 0 (N := 29) (C := RX10) (T := TX10) (ty0 := tyX10) (ty := .int) (by decide) rfl rfl (by decide) rfl iw_10 rfl tyX10_ok nmX10 rfl rfl (vp_nar_int _) rfl lf_RX10_3 eV1 dX10_wake_2 (fun H locs hw => ?_)
  refine lv_aload_n hx hb dX10_wake_5 rfl (lv_at hl 0 rfl) ?_
  refine lv_iload_n hx hb dX10_wake_6 rfl (lv_at hl 1 rfl) ?_
  obtain ⟨y3, h2, h⟩ := ob_R_some h
  refine c_SI E hw (kX10_noPlace (l := l) (G := G) hB  h2) yy_X10_noPlace lm_RX10_312 rfl hl.1 (by decide) (by decide) rfl (Nat.le_of_ble_eq_true rfl) dX10_wake_7 (fun H locs hw => ?_)
  refine lv_if_ne (tgt := 20) hx hb dX10_wake_10 (by decide) (fun c34 => ?_) (fun c34 => ?_)
  · rw [if_neg c34] at h
    exact wX10_wake_j20 E h kr hw (lv_sub hl [0, 1, 2] rfl)
  · rw [if_pos c34] at h
    refine lv_iload_n hx hb dX10_wake_13 rfl (lv_at hl 2 rfl) ?_
    obtain ⟨y32, h31, h⟩ := ob_R_some h
    refine c_SI E hw (kX10_noHour (l := l) (G := G) hB  h31) yy_X10_noHour lm_RX10_315 rfl hl.1 (by decide) (by decide) rfl (Nat.le_of_ble_eq_true rfl) dX10_wake_14 (fun H locs hw => ?_)
    refine lv_if_eq (tgt := 24) hx hb dX10_wake_17 (by decide) (fun c33 => ?_) (fun c33 => ?_)
    · rw [if_pos c33] at h
      refine lv_iconst (v := (0 : Int32)) hx hb dX10_wake_24 (by decide) ?_
      exact wX10_wake_j25 E h kr hw (lv_sub hl [0, 1, 2] rfl)
    · rw [if_neg c33] at h
      exact wX10_wake_j20 E h kr hw (lv_sub hl [0, 1, 2] rfl)
/-! ===== AllSawItModel.mirrorsFor(III)I ===== -/
theorem dX10_mirrorsFor_0 : decode cX10_mirrorsFor 0 = .ok (.aload_n 0, 1) := by decide +kernel
theorem dX10_mirrorsFor_1 : decode cX10_mirrorsFor 1 = .ok (.iload_n 1, 1) := by decide +kernel
theorem dX10_mirrorsFor_2 : decode cX10_mirrorsFor 2 = .ok (.iload_n 2, 1) := by decide +kernel
theorem dX10_mirrorsFor_3 : decode cX10_mirrorsFor 3 = .ok (.iload_n 3, 1) := by decide +kernel
theorem dX10_mirrorsFor_4 : decode cX10_mirrorsFor 4 = .ok (.aload_n 0, 1) := by decide +kernel
theorem dX10_mirrorsFor_5 : decode cX10_mirrorsFor 5 = .ok (.getfield 13, 3) := by decide +kernel
theorem dX10_mirrorsFor_8 : decode cX10_mirrorsFor 8 = .ok (.iconst 5, 1) := by decide +kernel
theorem dX10_mirrorsFor_9 : decode cX10_mirrorsFor 9 = .ok (.iaload, 1) := by decide +kernel
theorem dX10_mirrorsFor_10 : decode cX10_mirrorsFor 10 = .ok (.invokevirtual 294, 3) := by decide +kernel
theorem dX10_mirrorsFor_13 : decode cX10_mirrorsFor 13 = .ok (.iconst 0, 1) := by decide +kernel
theorem dX10_mirrorsFor_14 : decode cX10_mirrorsFor 14 = .ok (.istore 4, 2) := by decide +kernel
theorem dX10_mirrorsFor_16 : decode cX10_mirrorsFor 16 = .ok (.iload 4, 2) := by decide +kernel
theorem dX10_mirrorsFor_18 : decode cX10_mirrorsFor 18 = .ok (.aload_n 0, 1) := by decide +kernel
theorem dX10_mirrorsFor_19 : decode cX10_mirrorsFor 19 = .ok (.iload_n 1, 1) := by decide +kernel
theorem dX10_mirrorsFor_20 : decode cX10_mirrorsFor 20 = .ok (.bipush 6, 2) := by decide +kernel
theorem dX10_mirrorsFor_22 : decode cX10_mirrorsFor 22 = .ok (.invokevirtual 236, 3) := by decide +kernel
theorem dX10_mirrorsFor_25 : decode cX10_mirrorsFor 25 = .ok (.iadd, 1) := by decide +kernel
theorem dX10_mirrorsFor_26 : decode cX10_mirrorsFor 26 = .ok (.iconst 3, 1) := by decide +kernel
theorem dX10_mirrorsFor_27 : decode cX10_mirrorsFor 27 = .ok (.if_icmp .gt 33, 3) := by decide +kernel
theorem dX10_mirrorsFor_30 : decode cX10_mirrorsFor 30 = .ok (.aload_n 0, 1) := by decide +kernel
theorem dX10_mirrorsFor_31 : decode cX10_mirrorsFor 31 = .ok (.aload_n 0, 1) := by decide +kernel
theorem dX10_mirrorsFor_32 : decode cX10_mirrorsFor 32 = .ok (.iload_n 1, 1) := by decide +kernel
theorem dX10_mirrorsFor_33 : decode cX10_mirrorsFor 33 = .ok (.bipush 6, 2) := by decide +kernel
theorem dX10_mirrorsFor_35 : decode cX10_mirrorsFor 35 = .ok (.invokevirtual 236, 3) := by decide +kernel
theorem dX10_mirrorsFor_38 : decode cX10_mirrorsFor 38 = .ok (.iload 4, 2) := by decide +kernel
theorem dX10_mirrorsFor_40 : decode cX10_mirrorsFor 40 = .ok (.iadd, 1) := by decide +kernel
theorem dX10_mirrorsFor_41 : decode cX10_mirrorsFor 41 = .ok (.putfield 253, 3) := by decide +kernel
theorem dX10_mirrorsFor_44 : decode cX10_mirrorsFor 44 = .ok (.aload_n 0, 1) := by decide +kernel
theorem dX10_mirrorsFor_45 : decode cX10_mirrorsFor 45 = .ok (.invokevirtual 298, 3) := by decide +kernel
theorem dX10_mirrorsFor_48 : decode cX10_mirrorsFor 48 = .ok (.ifCond .eq 6, 3) := by decide +kernel
theorem dX10_mirrorsFor_51 : decode cX10_mirrorsFor 51 = .ok (.iload 4, 2) := by decide +kernel
theorem dX10_mirrorsFor_53 : decode cX10_mirrorsFor 53 = .ok (.ireturn, 1) := by decide +kernel
theorem dX10_mirrorsFor_54 : decode cX10_mirrorsFor 54 = .ok (.iinc 4 1, 3) := by decide +kernel
theorem dX10_mirrorsFor_57 : decode cX10_mirrorsFor 57 = .ok (.goto (-41), 3) := by decide +kernel
theorem dX10_mirrorsFor_60 : decode cX10_mirrorsFor 60 = .ok (.iconst (-1), 1) := by decide +kernel
theorem dX10_mirrorsFor_61 : decode cX10_mirrorsFor 61 = .ok (.ireturn, 1) := by decide +kernel
noncomputable def fX10_mirrorsFor_L16 (V : VT) (u1 : Int32) (u4 : Int32) : Option ((VT × Int32 × Int32) ⊕ (Int32 × VT)) := ob_R (fX10_of V u1 (6 : Int32)) fun y5 => if (3 : Int32) < (u4 + y5) then (some (.inr (((-1 : Int32), V)))) else (ob_R (fX10_of V u1 (6 : Int32)) fun y7 => lt_ (va_up V 22 (upd (V 22) 22 (y7 + u4))) fun V8 => ob_I (fX10_isSeen V8 ) fun y10 V11 => if y10 = 0 then (lt_ (u4 + (1 : Int32)) fun y12 => some (.inl (V11, u1, y12))) else (some (.inr ((u4, V11)))))
noncomputable def iX10_mirrorsFor_L16 : (VT × Int32 × Int32) → Option ((VT × Int32 × Int32) ⊕ (Int32 × VT)) := fun q => fX10_mirrorsFor_L16 (q.1) (q.2.1) (q.2.2)
noncomputable def fX10_mirrorsFor (V : VT) (x1 : Int32) (x2 : Int32) (x3 : Int32) : Option (Int32 × VT) := rd_ (5 : Int32) 1988 (ob_R (fX10_looks V x1 x2 x3 (V 76 (5 : Int32).toNatClampNeg)) fun V3 => ob_R (it_ (iX10_mirrorsFor_L16) FV (V3, x1, (0 : Int32))) fun x16 => some x16)
set_option maxHeartbeats 4000000 in
set_option maxRecDepth 100000 in
theorem wX10_mirrorsFor_L16 {p : Program} {l : Launch} {e : Env} {s : State} {m : MethodId} {args : Array Value} {below : List Frame} {meth : Method} {c : Code} {G : GT} {B : BGt} {Q : State → Prop} (E : En p s m args c meth cX10_mirrorsFor 5 RX10 (some .int) G B) {x : (Int32 × VT)} (kr : ∀ q : (Int32 × VT), x = q → Q = MQ below (QI G s.heap.size q.1 q.2) args s 0 0 (gA G s.heap.size)) : ∀ (n : Nat) (q : (VT × Int32 × Int32)), it_ (iX10_mirrorsFor_L16) n q = some x → ∀ (H : Heap) (locs : List Loc) (ls : Array Slot), HW G s.heap (q.1) H locs → lv_has ls 5 [(0, .ref (G.2.2 22)), (1, .int (q.2.1)), (4, .int (q.2.2))] → W p l e (rmD 10) s m args below meth c H locs 0 0 Q (F0 m 16 ls []) := by
  have hx := en_x E
  have hb := en_b E
  have hB := en_B E
  refine it_W (fun q : (VT × Int32 × Int32) => ∀ (H : Heap) (locs : List Loc) (ls : Array Slot), HW G s.heap (q.1) H locs → lv_has ls 5 [(0, .ref (G.2.2 22)), (1, .int (q.2.1)), (4, .int (q.2.2))] → W p l e (rmD 10) s m args below meth c H locs 0 0 Q (F0 m 16 ls [])) x ?_
  intro q r h kc kx
  obtain ⟨V, u1, u4⟩ := q
  intro H locs ls hw hl
  have h : fX10_mirrorsFor_L16 V u1 u4 = some r := h
  have hw : HW G s.heap V H locs := hw
  have hl : lv_has ls 5 [(0, .ref (G.2.2 22)), (1, .int u1), (4, .int u4)] := hl
  have kr : ∀ q : (Int32 × VT), r = .inr (q) → Q = MQ below (QI G s.heap.size q.1 q.2) args s 0 0 (gA G s.heap.size) := fun q e => kr q (kx _ e).symm
  unfold fX10_mirrorsFor_L16 at h
  refine lv_iload hx hb dX10_mirrorsFor_16 (lv_at hl 2 rfl) ?_
  refine lv_aload_n hx hb dX10_mirrorsFor_18 rfl (lv_at hl 0 rfl) ?_
  refine lv_iload_n hx hb dX10_mirrorsFor_19 rfl (lv_at hl 1 rfl) ?_
  refine lv_bipush (v := (6 : Int32)) hx hb dX10_mirrorsFor_20 (by decide) ?_
  obtain ⟨y5, h4, h⟩ := ob_R_some h
  refine c_VI E hw (kX10_of (l := l) (G := G) hB  h4) yy_X10_of lm_RX10_236 rfl (by decide) rfl rfl hl.1 (by decide) (by decide) rfl (Nat.le_of_ble_eq_true rfl) dX10_mirrorsFor_22 (fun H locs hw => ?_)
  refine lv_iadd hx hb dX10_mirrorsFor_25 ?_
  refine lv_iconst (v := (3 : Int32)) hx hb dX10_mirrorsFor_26 (by decide) ?_
  refine lv_icmp_gt (tgt := 60) hx hb dX10_mirrorsFor_27 (by decide) (fun c14 => ?_) (fun c14 => ?_)
  · rw [if_pos c14] at h
    refine lv_iconst (v := (-1 : Int32)) hx hb dX10_mirrorsFor_60 (by decide) ?_
    rw [kr ((-1 : Int32), V) (Option.some.inj h).symm]
    exact r_ri E hw dX10_mirrorsFor_61
  · rw [if_neg c14] at h
    refine lv_aload_n hx hb dX10_mirrorsFor_30 rfl (lv_at hl 0 rfl) ?_
    refine lv_aload_n hx hb dX10_mirrorsFor_31 rfl (lv_at hl 0 rfl) ?_
    refine lv_iload_n hx hb dX10_mirrorsFor_32 rfl (lv_at hl 1 rfl) ?_
    refine lv_bipush (v := (6 : Int32)) hx hb dX10_mirrorsFor_33 (by decide) ?_
    obtain ⟨y7, h6, h⟩ := ob_R_some h
    refine c_VI E hw (kX10_of (l := l) (G := G) hB  h6) yy_X10_of lm_RX10_236 rfl (by decide) rfl rfl hl.1 (by decide) (by decide) rfl (Nat.le_of_ble_eq_true rfl) dX10_mirrorsFor_35 (fun H locs hw => ?_)
    refine lv_iload hx hb dX10_mirrorsFor_38 (lv_at hl 2 rfl) ?_
    refine lv_iadd hx hb dX10_mirrorsFor_40 ?_
    obtain ⟨V8, eV8, h⟩ := lt_some h
    refine r_pi E hw 22 22 (N := 29) (C := RX10) (T := TX10) (ty0 := tyX10) (ty := .int) (by decide) rfl rfl (by decide) rfl iw_10 rfl tyX10_ok nmX10 rfl rfl (vp_nar_int _) rfl lf_RX10_253 eV8 dX10_mirrorsFor_41 (fun H locs hw => ?_)
    refine lv_aload_n hx hb dX10_mirrorsFor_44 rfl (lv_at hl 0 rfl) ?_
    obtain ⟨y10, V11, h9, h⟩ := ob_I_some h
    refine c_VI E hw (kX10_isSeen (l := l) (G := G) hB  h9) yy_X10_isSeen lm_RX10_298 rfl (by decide) rfl rfl hl.1 (by decide) (by decide) rfl (Nat.le_of_ble_eq_true rfl) dX10_mirrorsFor_45 (fun H locs hw => ?_)
    refine lv_if_eq (tgt := 54) hx hb dX10_mirrorsFor_48 (by decide) (fun c13 => ?_) (fun c13 => ?_)
    · rw [if_pos c13] at h
      obtain ⟨y12, ey12, h⟩ := lt_some h
      refine lv_iinc (v := y12) (lv' := [(4, .int y12), (0, .ref (G.2.2 22)), (1, .int u1)]) hx hb dX10_mirrorsFor_54 hl (k := 2) rfl (by rw [ey12]; rfl) (by decide) rfl (fun ls hl => ?_)
      refine lv_goto (tgt := 16) hx hb dX10_mirrorsFor_57 (by decide) ?_
      exact kc (V11, u1, y12) (Option.some.inj h).symm H locs ls hw (lv_sub hl [1, 2, 0] rfl)
    · rw [if_neg c13] at h
      refine lv_iload hx hb dX10_mirrorsFor_51 (lv_at hl 2 rfl) ?_
      rw [kr (u4, V11) (Option.some.inj h).symm]
      exact r_ri E hw dX10_mirrorsFor_53
set_option maxHeartbeats 4000000 in
set_option maxRecDepth 100000 in
theorem kX10_mirrorsFor {l : Launch} {G : GT} {B : BGt} (hB : BGok B) {V : VT} {x1 : Int32} {x2 : Int32} {x3 : Int32} {r : (Int32 × VT)} (h : fX10_mirrorsFor V x1 x2 x3 = some r) : CI l G B yX10_mirrorsFor (.code yX10_mirrorsFor cX10_mirrorsFor 5 (some .int)) 10 [.ref (G.2.2 22), .int x1, .int x2, .int x3] V r.1 r.2 := by
  intro sz
  refine met_of (Qs := fun sz => QI G sz (r.1) (r.2)) hB (by decide) (Nat.le_of_ble_eq_true rfl) ?_ sz
  intro p e s m args below meth c ls E hw hl
  have hx := en_x E
  have hb := en_b E
  generalize hQ : MQ _ _ _ _ _ _ _ = Q
  have kr : Q = MQ below (QI G s.heap.size r.1 r.2) args s 0 0 (gA G s.heap.size) := hQ.symm
  have hl : lv_has ls 5 [(0, .ref (G.2.2 22)), (1, .int x1), (2, .int x2), (3, .int x3)] := hl
  obtain ⟨H, eH⟩ : ∃ H, H = s.heap := ⟨_, rfl⟩
  obtain ⟨locs, elocs⟩ : ∃ z : List Loc, z = [] := ⟨_, rfl⟩
  have hw : HW G s.heap V H locs := by rw [eH, elocs]; exact hw
  show W p l e _ s m args below meth c s.heap [] 0 0 Q (F0 m 0 ls [])
  rw [← eH, ← elocs]
  unfold fX10_mirrorsFor at h
  refine lv_aload_n hx hb dX10_mirrorsFor_0 rfl (lv_at hl 0 rfl) ?_
  refine lv_iload_n hx hb dX10_mirrorsFor_1 rfl (lv_at hl 1 rfl) ?_
  refine lv_iload_n hx hb dX10_mirrorsFor_2 rfl (lv_at hl 2 rfl) ?_
  refine lv_iload_n hx hb dX10_mirrorsFor_3 rfl (lv_at hl 3 rfl) ?_
  refine lv_aload_n hx hb dX10_mirrorsFor_4 rfl (lv_at hl 0 rfl) ?_
  refine r_gr E hw 22 1 76 (N := 29) (C := RX10) (T := TX10) (by decide) rfl rfl (by decide) rfl iw_10 rfl lf_RX10_13 dX10_mirrorsFor_5 ?_
  refine lv_iconst (v := (5 : Int32)) hx hb dX10_mirrorsFor_8 (by decide) ?_
  obtain ⟨b1, h⟩ := rd_some h
  refine r_ia E hw 76 1988 (by decide) (by decide) (by decide) rfl rfl b1 dX10_mirrorsFor_9 ?_
  obtain ⟨V3, h2, h⟩ := ob_R_some h
  refine c_VV E hw (kX10_looks (l := l) (G := G) hB  h2) yy_X10_looks lm_RX10_294 rfl (by decide) rfl rfl hl.1 (by decide) (by decide) rfl (Nat.le_of_ble_eq_true rfl) dX10_mirrorsFor_10 (fun H locs hw => ?_)
  refine lv_iconst (v := (0 : Int32)) hx hb dX10_mirrorsFor_13 (by decide) ?_
  refine lv_istore (lv' := [(4, .int (0 : Int32)), (0, .ref (G.2.2 22)), (1, .int x1), (2, .int x2), (3, .int x3)]) hx hb dX10_mirrorsFor_14 hl (by decide) rfl (fun ls hl => ?_)
  obtain ⟨x16, h15, h⟩ := ob_R_some h
  have h := Option.some.inj h
  subst h
  exact wX10_mirrorsFor_L16 E (fun q e => by subst e; exact kr) FV (V3, x1, (0 : Int32)) h15 H locs ls hw (lv_sub hl [1, 2, 0] rfl)
/-! ===== AllSawItModel.mirrors(II)I ===== -/
theorem dX10_mirrors_0 : decode cX10_mirrors 0 = .ok (.aload_n 0, 1) := by decide +kernel
theorem dX10_mirrors_1 : decode cX10_mirrors 1 = .ok (.iconst 0, 1) := by decide +kernel
theorem dX10_mirrors_2 : decode cX10_mirrors 2 = .ok (.putfield 3, 3) := by decide +kernel
theorem dX10_mirrors_5 : decode cX10_mirrors 5 = .ok (.aload_n 0, 1) := by decide +kernel
theorem dX10_mirrors_6 : decode cX10_mirrors 6 = .ok (.iload_n 1, 1) := by decide +kernel
theorem dX10_mirrors_7 : decode cX10_mirrors 7 = .ok (.invokestatic 312, 3) := by decide +kernel
theorem dX10_mirrors_10 : decode cX10_mirrors 10 = .ok (.ifCond .ne 10, 3) := by decide +kernel
theorem dX10_mirrors_13 : decode cX10_mirrors 13 = .ok (.iload_n 2, 1) := by decide +kernel
theorem dX10_mirrors_14 : decode cX10_mirrors 14 = .ok (.invokestatic 315, 3) := by decide +kernel
theorem dX10_mirrors_17 : decode cX10_mirrors 17 = .ok (.ifCond .eq 7, 3) := by decide +kernel
theorem dX10_mirrors_20 : decode cX10_mirrors 20 = .ok (.iconst 1, 1) := by decide +kernel
theorem dX10_mirrors_21 : decode cX10_mirrors 21 = .ok (.goto 4, 3) := by decide +kernel
theorem dX10_mirrors_24 : decode cX10_mirrors 24 = .ok (.iconst 0, 1) := by decide +kernel
theorem dX10_mirrors_25 : decode cX10_mirrors 25 = .ok (.iconst 1, 1) := by decide +kernel
theorem dX10_mirrors_26 : decode cX10_mirrors 26 = .ok (.invokevirtual 233, 3) := by decide +kernel
theorem dX10_mirrors_29 : decode cX10_mirrors 29 = .ok (.ifCond .eq 5, 3) := by decide +kernel
theorem dX10_mirrors_32 : decode cX10_mirrors 32 = .ok (.iconst 0, 1) := by decide +kernel
theorem dX10_mirrors_33 : decode cX10_mirrors 33 = .ok (.ireturn, 1) := by decide +kernel
theorem dX10_mirrors_34 : decode cX10_mirrors 34 = .ok (.iconst 0, 1) := by decide +kernel
theorem dX10_mirrors_35 : decode cX10_mirrors 35 = .ok (.istore_n 3, 1) := by decide +kernel
theorem dX10_mirrors_36 : decode cX10_mirrors 36 = .ok (.iconst 0, 1) := by decide +kernel
theorem dX10_mirrors_37 : decode cX10_mirrors 37 = .ok (.istore 4, 2) := by decide +kernel
theorem dX10_mirrors_39 : decode cX10_mirrors 39 = .ok (.iload 4, 2) := by decide +kernel
theorem dX10_mirrors_41 : decode cX10_mirrors 41 = .ok (.aload_n 0, 1) := by decide +kernel
theorem dX10_mirrors_42 : decode cX10_mirrors 42 = .ok (.invokevirtual 62, 3) := by decide +kernel
theorem dX10_mirrors_45 : decode cX10_mirrors 45 = .ok (.if_icmp .ge 31, 3) := by decide +kernel
theorem dX10_mirrors_48 : decode cX10_mirrors 48 = .ok (.aload_n 0, 1) := by decide +kernel
theorem dX10_mirrors_49 : decode cX10_mirrors 49 = .ok (.iload 4, 2) := by decide +kernel
theorem dX10_mirrors_51 : decode cX10_mirrors 51 = .ok (.iload_n 1, 1) := by decide +kernel
theorem dX10_mirrors_52 : decode cX10_mirrors 52 = .ok (.iload_n 2, 1) := by decide +kernel
theorem dX10_mirrors_53 : decode cX10_mirrors 53 = .ok (.invokevirtual 329, 3) := by decide +kernel
theorem dX10_mirrors_56 : decode cX10_mirrors 56 = .ok (.istore 5, 2) := by decide +kernel
theorem dX10_mirrors_58 : decode cX10_mirrors 58 = .ok (.iload 5, 2) := by decide +kernel
theorem dX10_mirrors_60 : decode cX10_mirrors 60 = .ok (.ifCond .ge 5, 3) := by decide +kernel
theorem dX10_mirrors_63 : decode cX10_mirrors 63 = .ok (.iconst (-1), 1) := by decide +kernel
theorem dX10_mirrors_64 : decode cX10_mirrors 64 = .ok (.ireturn, 1) := by decide +kernel
theorem dX10_mirrors_65 : decode cX10_mirrors 65 = .ok (.iload_n 3, 1) := by decide +kernel
theorem dX10_mirrors_66 : decode cX10_mirrors 66 = .ok (.iload 5, 2) := by decide +kernel
theorem dX10_mirrors_68 : decode cX10_mirrors 68 = .ok (.iadd, 1) := by decide +kernel
theorem dX10_mirrors_69 : decode cX10_mirrors 69 = .ok (.istore_n 3, 1) := by decide +kernel
theorem dX10_mirrors_70 : decode cX10_mirrors 70 = .ok (.iinc 4 1, 3) := by decide +kernel
theorem dX10_mirrors_73 : decode cX10_mirrors 73 = .ok (.goto (-34), 3) := by decide +kernel
theorem dX10_mirrors_76 : decode cX10_mirrors 76 = .ok (.iload_n 3, 1) := by decide +kernel
theorem dX10_mirrors_77 : decode cX10_mirrors 77 = .ok (.ireturn, 1) := by decide +kernel
noncomputable def fX10_mirrors_L39 (V : VT) (u1 : Int32) (u2 : Int32) (u3 : Int32) (u4 : Int32) : Option ((VT × Int32 × Int32 × Int32 × Int32) ⊕ (Int32 × VT)) := ob_R (fX10_houses V ) fun y8 => if y8 ≤ u4 then (some (.inr ((u3, V)))) else (ob_I (fX10_mirrorsFor V u4 u1 u2) fun y10 V11 => if 0 ≤ y10 then (lt_ (u3 + y10) fun y12 => lt_ (u4 + (1 : Int32)) fun y13 => some (.inl (V11, u1, u2, y12, y13))) else (some (.inr (((-1 : Int32), V11)))))
noncomputable def iX10_mirrors_L39 : (VT × Int32 × Int32 × Int32 × Int32) → Option ((VT × Int32 × Int32 × Int32 × Int32) ⊕ (Int32 × VT)) := fun q => fX10_mirrors_L39 (q.1) (q.2.1) (q.2.2.1) (q.2.2.2.1) (q.2.2.2.2)
noncomputable def fX10_mirrors_j25 (V : VT) (u1 : Int32) (u2 : Int32) (t0 : Int32) : Option (Int32 × VT) := ob_I (fX10_throwsIf V t0 (1 : Int32)) fun y5 V6 => if y5 = 0 then (ob_R (it_ (iX10_mirrors_L39) FV (V6, u1, u2, (0 : Int32), (0 : Int32))) fun x17 => some x17) else (some ((0 : Int32), V6))
noncomputable def fX10_mirrors_j20 (V : VT) (u1 : Int32) (u2 : Int32) : Option (Int32 × VT) := fX10_mirrors_j25 V u1 u2 (1 : Int32)
noncomputable def fX10_mirrors (V : VT) (x1 : Int32) (x2 : Int32) : Option (Int32 × VT) := lt_ (va_up V 22 (upd (V 22) 0 (0 : Int32))) fun V1 => ob_R (fX10_noPlace V1 x1) fun y3 => if y3 = 0 then (ob_R (fX10_noHour V1 x2) fun y20 => if y20 = 0 then (fX10_mirrors_j25 V1 x1 x2 (0 : Int32)) else (fX10_mirrors_j20 V1 x1 x2)) else (fX10_mirrors_j20 V1 x1 x2)
set_option maxHeartbeats 4000000 in
set_option maxRecDepth 100000 in
theorem wX10_mirrors_L39 {p : Program} {l : Launch} {e : Env} {s : State} {m : MethodId} {args : Array Value} {below : List Frame} {meth : Method} {c : Code} {G : GT} {B : BGt} {Q : State → Prop} (E : En p s m args c meth cX10_mirrors 6 RX10 (some .int) G B) {x : (Int32 × VT)} (kr : ∀ q : (Int32 × VT), x = q → Q = MQ below (QI G s.heap.size q.1 q.2) args s 0 0 (gA G s.heap.size)) : ∀ (n : Nat) (q : (VT × Int32 × Int32 × Int32 × Int32)), it_ (iX10_mirrors_L39) n q = some x → ∀ (H : Heap) (locs : List Loc) (ls : Array Slot), HW G s.heap (q.1) H locs → lv_has ls 6 [(0, .ref (G.2.2 22)), (1, .int (q.2.1)), (2, .int (q.2.2.1)), (3, .int (q.2.2.2.1)), (4, .int (q.2.2.2.2))] → W p l e (rmD 11) s m args below meth c H locs 0 0 Q (F0 m 39 ls []) := by
  have hx := en_x E
  have hb := en_b E
  have hB := en_B E
  refine it_W (fun q : (VT × Int32 × Int32 × Int32 × Int32) => ∀ (H : Heap) (locs : List Loc) (ls : Array Slot), HW G s.heap (q.1) H locs → lv_has ls 6 [(0, .ref (G.2.2 22)), (1, .int (q.2.1)), (2, .int (q.2.2.1)), (3, .int (q.2.2.2.1)), (4, .int (q.2.2.2.2))] → W p l e (rmD 11) s m args below meth c H locs 0 0 Q (F0 m 39 ls [])) x ?_
  intro q r h kc kx
  obtain ⟨V, u1, u2, u3, u4⟩ := q
  intro H locs ls hw hl
  have h : fX10_mirrors_L39 V u1 u2 u3 u4 = some r := h
  have hw : HW G s.heap V H locs := hw
  have hl : lv_has ls 6 [(0, .ref (G.2.2 22)), (1, .int u1), (2, .int u2), (3, .int u3), (4, .int u4)] := hl
  have kr : ∀ q : (Int32 × VT), r = .inr (q) → Q = MQ below (QI G s.heap.size q.1 q.2) args s 0 0 (gA G s.heap.size) := fun q e => kr q (kx _ e).symm
  unfold fX10_mirrors_L39 at h
  refine lv_iload hx hb dX10_mirrors_39 (lv_at hl 4 rfl) ?_
  refine lv_aload_n hx hb dX10_mirrors_41 rfl (lv_at hl 0 rfl) ?_
  obtain ⟨y8, h7, h⟩ := ob_R_some h
  refine c_VI E hw (kX10_houses (l := l) (G := G) hB  h7) yy_X10_houses lm_RX10_62 rfl (by decide) rfl rfl hl.1 (by decide) (by decide) rfl (Nat.le_of_ble_eq_true rfl) dX10_mirrors_42 (fun H locs hw => ?_)
  refine lv_icmp_ge (tgt := 76) hx hb dX10_mirrors_45 (by decide) (fun c15 => ?_) (fun c15 => ?_)
  · rw [if_pos c15] at h
    refine lv_iload_n hx hb dX10_mirrors_76 rfl (lv_at hl 3 rfl) ?_
    rw [kr (u3, V) (Option.some.inj h).symm]
    exact r_ri E hw dX10_mirrors_77
  · rw [if_neg c15] at h
    refine lv_aload_n hx hb dX10_mirrors_48 rfl (lv_at hl 0 rfl) ?_
    refine lv_iload hx hb dX10_mirrors_49 (lv_at hl 4 rfl) ?_
    refine lv_iload_n hx hb dX10_mirrors_51 rfl (lv_at hl 1 rfl) ?_
    refine lv_iload_n hx hb dX10_mirrors_52 rfl (lv_at hl 2 rfl) ?_
    obtain ⟨y10, V11, h9, h⟩ := ob_I_some h
    refine c_VI E hw (kX10_mirrorsFor (l := l) (G := G) hB  h9) yy_X10_mirrorsFor lm_RX10_329 rfl (by decide) rfl rfl hl.1 (by decide) (by decide) rfl (Nat.le_of_ble_eq_true rfl) dX10_mirrors_53 (fun H locs hw => ?_)
    refine lv_istore (lv' := [(5, .int y10), (0, .ref (G.2.2 22)), (1, .int u1), (2, .int u2), (3, .int u3), (4, .int u4)]) hx hb dX10_mirrors_56 hl (by decide) rfl (fun ls hl => ?_)
    refine lv_iload hx hb dX10_mirrors_58 (lv_at hl 0 rfl) ?_
    refine lv_if_ge (tgt := 65) hx hb dX10_mirrors_60 (by decide) (fun c14 => ?_) (fun c14 => ?_)
    · rw [if_pos c14] at h
      refine lv_iload_n hx hb dX10_mirrors_65 rfl (lv_at hl 4 rfl) ?_
      refine lv_iload hx hb dX10_mirrors_66 (lv_at hl 0 rfl) ?_
      refine lv_iadd hx hb dX10_mirrors_68 ?_
      obtain ⟨y12, ey12, h⟩ := lt_some h
      refine lv_eqi ey12 ?_
      refine lv_istore_n (lv' := [(3, .int y12), (5, .int y10), (0, .ref (G.2.2 22)), (1, .int u1), (2, .int u2), (4, .int u4)]) hx hb dX10_mirrors_69 rfl hl (by decide) rfl (fun ls hl => ?_)
      obtain ⟨y13, ey13, h⟩ := lt_some h
      refine lv_iinc (v := y13) (lv' := [(4, .int y13), (3, .int y12), (5, .int y10), (0, .ref (G.2.2 22)), (1, .int u1), (2, .int u2)]) hx hb dX10_mirrors_70 hl (k := 5) rfl (by rw [ey13]; rfl) (by decide) rfl (fun ls hl => ?_)
      refine lv_goto (tgt := 39) hx hb dX10_mirrors_73 (by decide) ?_
      exact kc (V11, u1, u2, y12, y13) (Option.some.inj h).symm H locs ls hw (lv_sub hl [3, 4, 5, 1, 0] rfl)
    · rw [if_neg c14] at h
      refine lv_iconst (v := (-1 : Int32)) hx hb dX10_mirrors_63 (by decide) ?_
      rw [kr ((-1 : Int32), V11) (Option.some.inj h).symm]
      exact r_ri E hw dX10_mirrors_64
set_option maxHeartbeats 4000000 in
set_option maxRecDepth 100000 in
theorem wX10_mirrors_j25 {p : Program} {l : Launch} {e : Env} {s : State} {m : MethodId} {args : Array Value} {below : List Frame} {meth : Method} {c : Code} {G : GT} {B : BGt} {Q : State → Prop} (E : En p s m args c meth cX10_mirrors 6 RX10 (some .int) G B) {V : VT} {u1 : Int32} {u2 : Int32} {t0 : Int32} {r : (Int32 × VT)} (h : fX10_mirrors_j25 V u1 u2 t0 = some r) (kr : Q = MQ below (QI G s.heap.size r.1 r.2) args s 0 0 (gA G s.heap.size)) {H : Heap} {locs : List Loc} {ls : Array Slot} (hw : HW G s.heap V H locs) (hl : lv_has ls 6 [(0, .ref (G.2.2 22)), (1, .int u1), (2, .int u2)]) : W p l e (rmD 11) s m args below meth c H locs 0 0 Q (F0 m 25 ls [.int t0, .ref (G.2.2 22)]) := by
  have hx := en_x E
  have hb := en_b E
  have hB := en_B E
  unfold fX10_mirrors_j25 at h
  refine lv_iconst (v := (1 : Int32)) hx hb dX10_mirrors_25 (by decide) ?_
  obtain ⟨y5, V6, h4, h⟩ := ob_I_some h
  refine c_VI E hw (kX10_throwsIf (l := l) (G := G) hB  h4) yy_X10_throwsIf lm_RX10_233 rfl (by decide) rfl rfl hl.1 (by decide) (by decide) rfl (Nat.le_of_ble_eq_true rfl) dX10_mirrors_26 (fun H locs hw => ?_)
  refine lv_if_eq (tgt := 34) hx hb dX10_mirrors_29 (by decide) (fun c18 => ?_) (fun c18 => ?_)
  · rw [if_pos c18] at h
    refine lv_iconst (v := (0 : Int32)) hx hb dX10_mirrors_34 (by decide) ?_
    refine lv_istore_n (lv' := [(3, .int (0 : Int32)), (0, .ref (G.2.2 22)), (1, .int u1), (2, .int u2)]) hx hb dX10_mirrors_35 rfl hl (by decide) rfl (fun ls hl => ?_)
    refine lv_iconst (v := (0 : Int32)) hx hb dX10_mirrors_36 (by decide) ?_
    refine lv_istore (lv' := [(4, .int (0 : Int32)), (3, .int (0 : Int32)), (0, .ref (G.2.2 22)), (1, .int u1), (2, .int u2)]) hx hb dX10_mirrors_37 hl (by decide) rfl (fun ls hl => ?_)
    obtain ⟨x17, h16, h⟩ := ob_R_some h
    have h := Option.some.inj h
    subst h
    exact wX10_mirrors_L39 E (fun q e => by subst e; exact kr) FV (V6, u1, u2, (0 : Int32), (0 : Int32)) h16 H locs ls hw (lv_sub hl [2, 3, 4, 1, 0] rfl)
  · rw [if_neg c18] at h
    refine lv_iconst (v := (0 : Int32)) hx hb dX10_mirrors_32 (by decide) ?_
    have h := Option.some.inj h
    subst h
    rw [kr]
    exact r_ri E hw dX10_mirrors_33
set_option maxHeartbeats 4000000 in
set_option maxRecDepth 100000 in
theorem wX10_mirrors_j20 {p : Program} {l : Launch} {e : Env} {s : State} {m : MethodId} {args : Array Value} {below : List Frame} {meth : Method} {c : Code} {G : GT} {B : BGt} {Q : State → Prop} (E : En p s m args c meth cX10_mirrors 6 RX10 (some .int) G B) {V : VT} {u1 : Int32} {u2 : Int32} {r : (Int32 × VT)} (h : fX10_mirrors_j20 V u1 u2 = some r) (kr : Q = MQ below (QI G s.heap.size r.1 r.2) args s 0 0 (gA G s.heap.size)) {H : Heap} {locs : List Loc} {ls : Array Slot} (hw : HW G s.heap V H locs) (hl : lv_has ls 6 [(0, .ref (G.2.2 22)), (1, .int u1), (2, .int u2)]) : W p l e (rmD 11) s m args below meth c H locs 0 0 Q (F0 m 20 ls [.ref (G.2.2 22)]) := by
  have hx := en_x E
  have hb := en_b E
  have hB := en_B E
  unfold fX10_mirrors_j20 at h
  refine lv_iconst (v := (1 : Int32)) hx hb dX10_mirrors_20 (by decide) ?_
  refine lv_goto (tgt := 25) hx hb dX10_mirrors_21 (by decide) ?_
  exact wX10_mirrors_j25 E h kr hw (lv_sub hl [0, 1, 2] rfl)
set_option maxHeartbeats 4000000 in
set_option maxRecDepth 100000 in
theorem kX10_mirrors {l : Launch} {G : GT} {B : BGt} (hB : BGok B) {V : VT} {x1 : Int32} {x2 : Int32} {r : (Int32 × VT)} (h : fX10_mirrors V x1 x2 = some r) : CI l G B yX10_mirrors (.code yX10_mirrors cX10_mirrors 6 (some .int)) 11 [.ref (G.2.2 22), .int x1, .int x2] V r.1 r.2 := by
  intro sz
  refine met_of (Qs := fun sz => QI G sz (r.1) (r.2)) hB (by decide) (Nat.le_of_ble_eq_true rfl) ?_ sz
  intro p e s m args below meth c ls E hw hl
  have hx := en_x E
  have hb := en_b E
  generalize hQ : MQ _ _ _ _ _ _ _ = Q
  have kr : Q = MQ below (QI G s.heap.size r.1 r.2) args s 0 0 (gA G s.heap.size) := hQ.symm
  have hl : lv_has ls 6 [(0, .ref (G.2.2 22)), (1, .int x1), (2, .int x2)] := hl
  obtain ⟨H, eH⟩ : ∃ H, H = s.heap := ⟨_, rfl⟩
  obtain ⟨locs, elocs⟩ : ∃ z : List Loc, z = [] := ⟨_, rfl⟩
  have hw : HW G s.heap V H locs := by rw [eH, elocs]; exact hw
  show W p l e _ s m args below meth c s.heap [] 0 0 Q (F0 m 0 ls [])
  rw [← eH, ← elocs]
  unfold fX10_mirrors at h
  refine lv_aload_n hx hb dX10_mirrors_0 rfl (lv_at hl 0 rfl) ?_
  refine lv_iconst (v := (0 : Int32)) hx hb dX10_mirrors_1 (by decide) ?_
  obtain ⟨V1, eV1, h⟩ := lt_some h
  refine r_pi E hw 22 0 (N := 29) (C := RX10) (T := TX10) (ty0 := tyX10) (ty := .int) (by decide) rfl rfl (by decide) rfl iw_10 rfl tyX10_ok nmX10 rfl rfl (vp_nar_int _) rfl lf_RX10_3 eV1 dX10_mirrors_2 (fun H locs hw => ?_)
  refine lv_aload_n hx hb dX10_mirrors_5 rfl (lv_at hl 0 rfl) ?_
  refine lv_iload_n hx hb dX10_mirrors_6 rfl (lv_at hl 1 rfl) ?_
  obtain ⟨y3, h2, h⟩ := ob_R_some h
  refine c_SI E hw (kX10_noPlace (l := l) (G := G) hB  h2) yy_X10_noPlace lm_RX10_312 rfl hl.1 (by decide) (by decide) rfl (Nat.le_of_ble_eq_true rfl) dX10_mirrors_7 (fun H locs hw => ?_)
  refine lv_if_ne (tgt := 20) hx hb dX10_mirrors_10 (by decide) (fun c22 => ?_) (fun c22 => ?_)
  · rw [if_neg c22] at h
    exact wX10_mirrors_j20 E h kr hw (lv_sub hl [0, 1, 2] rfl)
  · rw [if_pos c22] at h
    refine lv_iload_n hx hb dX10_mirrors_13 rfl (lv_at hl 2 rfl) ?_
    obtain ⟨y20, h19, h⟩ := ob_R_some h
    refine c_SI E hw (kX10_noHour (l := l) (G := G) hB  h19) yy_X10_noHour lm_RX10_315 rfl hl.1 (by decide) (by decide) rfl (Nat.le_of_ble_eq_true rfl) dX10_mirrors_14 (fun H locs hw => ?_)
    refine lv_if_eq (tgt := 24) hx hb dX10_mirrors_17 (by decide) (fun c21 => ?_) (fun c21 => ?_)
    · rw [if_pos c21] at h
      refine lv_iconst (v := (0 : Int32)) hx hb dX10_mirrors_24 (by decide) ?_
      exact wX10_mirrors_j25 E h kr hw (lv_sub hl [0, 1, 2] rfl)
    · rw [if_neg c21] at h
      exact wX10_mirrors_j20 E h kr hw (lv_sub hl [0, 1, 2] rfl)
/-! ===== AllSawItModel.unseen(I)I ===== -/
theorem dX10_unseen_0 : decode cX10_unseen 0 = .ok (.aload_n 0, 1) := by decide +kernel
theorem dX10_unseen_1 : decode cX10_unseen 1 = .ok (.iconst 0, 1) := by decide +kernel
theorem dX10_unseen_2 : decode cX10_unseen 2 = .ok (.putfield 3, 3) := by decide +kernel
theorem dX10_unseen_5 : decode cX10_unseen 5 = .ok (.aload_n 0, 1) := by decide +kernel
theorem dX10_unseen_6 : decode cX10_unseen 6 = .ok (.iload_n 1, 1) := by decide +kernel
theorem dX10_unseen_7 : decode cX10_unseen 7 = .ok (.invokestatic 312, 3) := by decide +kernel
theorem dX10_unseen_10 : decode cX10_unseen 10 = .ok (.iconst 1, 1) := by decide +kernel
theorem dX10_unseen_11 : decode cX10_unseen 11 = .ok (.invokevirtual 233, 3) := by decide +kernel
theorem dX10_unseen_14 : decode cX10_unseen 14 = .ok (.ifCond .eq 5, 3) := by decide +kernel
theorem dX10_unseen_17 : decode cX10_unseen 17 = .ok (.iconst 0, 1) := by decide +kernel
theorem dX10_unseen_18 : decode cX10_unseen 18 = .ok (.ireturn, 1) := by decide +kernel
theorem dX10_unseen_19 : decode cX10_unseen 19 = .ok (.iconst 0, 1) := by decide +kernel
theorem dX10_unseen_20 : decode cX10_unseen 20 = .ok (.istore_n 2, 1) := by decide +kernel
theorem dX10_unseen_21 : decode cX10_unseen 21 = .ok (.iconst 0, 1) := by decide +kernel
theorem dX10_unseen_22 : decode cX10_unseen 22 = .ok (.istore_n 3, 1) := by decide +kernel
theorem dX10_unseen_23 : decode cX10_unseen 23 = .ok (.iload_n 3, 1) := by decide +kernel
theorem dX10_unseen_24 : decode cX10_unseen 24 = .ok (.bipush 24, 2) := by decide +kernel
theorem dX10_unseen_26 : decode cX10_unseen 26 = .ok (.if_icmp .ge 47, 3) := by decide +kernel
theorem dX10_unseen_29 : decode cX10_unseen 29 = .ok (.iconst 0, 1) := by decide +kernel
theorem dX10_unseen_30 : decode cX10_unseen 30 = .ok (.istore 4, 2) := by decide +kernel
theorem dX10_unseen_32 : decode cX10_unseen 32 = .ok (.iload 4, 2) := by decide +kernel
theorem dX10_unseen_34 : decode cX10_unseen 34 = .ok (.bipush 24, 2) := by decide +kernel
theorem dX10_unseen_36 : decode cX10_unseen 36 = .ok (.if_icmp .ge 24, 3) := by decide +kernel
theorem dX10_unseen_39 : decode cX10_unseen 39 = .ok (.aload_n 0, 1) := by decide +kernel
theorem dX10_unseen_40 : decode cX10_unseen 40 = .ok (.iload_n 1, 1) := by decide +kernel
theorem dX10_unseen_41 : decode cX10_unseen 41 = .ok (.iload_n 3, 1) := by decide +kernel
theorem dX10_unseen_42 : decode cX10_unseen 42 = .ok (.iload 4, 2) := by decide +kernel
theorem dX10_unseen_44 : decode cX10_unseen 44 = .ok (.iadd, 1) := by decide +kernel
theorem dX10_unseen_45 : decode cX10_unseen 45 = .ok (.bipush 24, 2) := by decide +kernel
theorem dX10_unseen_47 : decode cX10_unseen 47 = .ok (.irem, 1) := by decide +kernel
theorem dX10_unseen_48 : decode cX10_unseen 48 = .ok (.invokevirtual 318, 3) := by decide +kernel
theorem dX10_unseen_51 : decode cX10_unseen 51 = .ok (.ifCond .ne 9, 3) := by decide +kernel
theorem dX10_unseen_54 : decode cX10_unseen 54 = .ok (.iinc 4 1, 3) := by decide +kernel
theorem dX10_unseen_57 : decode cX10_unseen 57 = .ok (.goto (-25), 3) := by decide +kernel
theorem dX10_unseen_60 : decode cX10_unseen 60 = .ok (.iload_n 2, 1) := by decide +kernel
theorem dX10_unseen_61 : decode cX10_unseen 61 = .ok (.iload 4, 2) := by decide +kernel
theorem dX10_unseen_63 : decode cX10_unseen 63 = .ok (.invokestatic 239, 3) := by decide +kernel
theorem dX10_unseen_66 : decode cX10_unseen 66 = .ok (.istore_n 2, 1) := by decide +kernel
theorem dX10_unseen_67 : decode cX10_unseen 67 = .ok (.iinc 3 1, 3) := by decide +kernel
theorem dX10_unseen_70 : decode cX10_unseen 70 = .ok (.goto (-47), 3) := by decide +kernel
theorem dX10_unseen_73 : decode cX10_unseen 73 = .ok (.iload_n 2, 1) := by decide +kernel
theorem dX10_unseen_74 : decode cX10_unseen 74 = .ok (.ireturn, 1) := by decide +kernel
noncomputable def fX10_unseen_L32 (V : VT) (u1 : Int32) (u2 : Int32) (u3 : Int32) (u4 : Int32) : Option ((VT × Int32 × Int32 × Int32 × Int32) ⊕ (VT × Int32 × Int32 × Int32 × Int32)) := if (24 : Int32) ≤ u4 then (some (.inr ((V, u1, u2, u3, u4)))) else (ob_I (fX10_seersNow V u1 ((u3 + u4) - (u3 + u4) / (24 : Int32) * (24 : Int32))) fun y8 V9 => if y8 = 0 then (lt_ (u4 + (1 : Int32)) fun y10 => some (.inl (V9, u1, u2, u3, y10))) else (some (.inr ((V9, u1, u2, u3, u4)))))
noncomputable def iX10_unseen_L32 : (VT × Int32 × Int32 × Int32 × Int32) → Option ((VT × Int32 × Int32 × Int32 × Int32) ⊕ (VT × Int32 × Int32 × Int32 × Int32)) := fun q => fX10_unseen_L32 (q.1) (q.2.1) (q.2.2.1) (q.2.2.2.1) (q.2.2.2.2)
noncomputable def fX10_unseen_L23 (V : VT) (u1 : Int32) (u2 : Int32) (u3 : Int32) : Option ((VT × Int32 × Int32 × Int32) ⊕ (Int32 × VT)) := if (24 : Int32) ≤ u3 then (some (.inr ((u2, V)))) else (ob_R (it_ (iX10_unseen_L32) FV (V, u1, u2, u3, (0 : Int32))) fun x14 => (dt5_ x14 fun V19 y15 y16 y17 y18 => lt_ (if y16 < y18 then y18 else y16) fun y20 => lt_ (y17 + (1 : Int32)) fun y21 => some (.inl (V19, y15, y20, y21))))
noncomputable def iX10_unseen_L23 : (VT × Int32 × Int32 × Int32) → Option ((VT × Int32 × Int32 × Int32) ⊕ (Int32 × VT)) := fun q => fX10_unseen_L23 (q.1) (q.2.1) (q.2.2.1) (q.2.2.2)
noncomputable def fX10_unseen (V : VT) (x1 : Int32) : Option (Int32 × VT) := lt_ (va_up V 22 (upd (V 22) 0 (0 : Int32))) fun V1 => ob_R (fX10_noPlace V1 x1) fun y3 => ob_I (fX10_throwsIf V1 y3 (1 : Int32)) fun y5 V6 => if y5 = 0 then (ob_R (it_ (iX10_unseen_L23) FV (V6, x1, (0 : Int32), (0 : Int32))) fun x24 => some x24) else (some ((0 : Int32), V6))
set_option maxHeartbeats 4000000 in
set_option maxRecDepth 100000 in
theorem wX10_unseen_L32 {p : Program} {l : Launch} {e : Env} {s : State} {m : MethodId} {args : Array Value} {below : List Frame} {meth : Method} {c : Code} {G : GT} {B : BGt} {Q : State → Prop} (E : En p s m args c meth cX10_unseen 5 RX10 (some .int) G B) {x : (VT × Int32 × Int32 × Int32 × Int32)} (ke : ∀ q : (VT × Int32 × Int32 × Int32 × Int32), x = q → ∀ (H : Heap) (locs : List Loc) (ls : Array Slot), HW G s.heap (q.1) H locs → lv_has ls 5 [(0, .ref (G.2.2 22)), (1, .int (q.2.1)), (2, .int (q.2.2.1)), (3, .int (q.2.2.2.1)), (4, .int (q.2.2.2.2))] → W p l e (rmD 13) s m args below meth c H locs 0 0 Q (F0 m 60 ls [])) : ∀ (n : Nat) (q : (VT × Int32 × Int32 × Int32 × Int32)), it_ (iX10_unseen_L32) n q = some x → ∀ (H : Heap) (locs : List Loc) (ls : Array Slot), HW G s.heap (q.1) H locs → lv_has ls 5 [(0, .ref (G.2.2 22)), (1, .int (q.2.1)), (2, .int (q.2.2.1)), (3, .int (q.2.2.2.1)), (4, .int (q.2.2.2.2))] → W p l e (rmD 13) s m args below meth c H locs 0 0 Q (F0 m 32 ls []) := by
  have hx := en_x E
  have hb := en_b E
  have hB := en_B E
  refine it_W (fun q : (VT × Int32 × Int32 × Int32 × Int32) => ∀ (H : Heap) (locs : List Loc) (ls : Array Slot), HW G s.heap (q.1) H locs → lv_has ls 5 [(0, .ref (G.2.2 22)), (1, .int (q.2.1)), (2, .int (q.2.2.1)), (3, .int (q.2.2.2.1)), (4, .int (q.2.2.2.2))] → W p l e (rmD 13) s m args below meth c H locs 0 0 Q (F0 m 32 ls [])) x ?_
  intro q r h kc kx
  obtain ⟨V, u1, u2, u3, u4⟩ := q
  intro H locs ls hw hl
  have h : fX10_unseen_L32 V u1 u2 u3 u4 = some r := h
  have hw : HW G s.heap V H locs := hw
  have hl : lv_has ls 5 [(0, .ref (G.2.2 22)), (1, .int u1), (2, .int u2), (3, .int u3), (4, .int u4)] := hl
  have ke : ∀ q : (VT × Int32 × Int32 × Int32 × Int32), r = .inr (q) → ∀ (H : Heap) (locs : List Loc) (ls : Array Slot), HW G s.heap (q.1) H locs → lv_has ls 5 [(0, .ref (G.2.2 22)), (1, .int (q.2.1)), (2, .int (q.2.2.1)), (3, .int (q.2.2.2.1)), (4, .int (q.2.2.2.2))] → W p l e (rmD 13) s m args below meth c H locs 0 0 Q (F0 m 60 ls []) := fun q e => ke q (kx _ e).symm
  unfold fX10_unseen_L32 at h
  refine lv_iload hx hb dX10_unseen_32 (lv_at hl 4 rfl) ?_
  refine lv_bipush (v := (24 : Int32)) hx hb dX10_unseen_34 (by decide) ?_
  refine lv_icmp_ge (tgt := 60) hx hb dX10_unseen_36 (by decide) (fun c12 => ?_) (fun c12 => ?_)
  · rw [if_pos c12] at h
    exact ke (V, u1, u2, u3, u4) (Option.some.inj h).symm H locs ls hw (lv_sub hl [0, 1, 2, 3, 4] rfl)
  · rw [if_neg c12] at h
    refine lv_aload_n hx hb dX10_unseen_39 rfl (lv_at hl 0 rfl) ?_
    refine lv_iload_n hx hb dX10_unseen_40 rfl (lv_at hl 1 rfl) ?_
    refine lv_iload_n hx hb dX10_unseen_41 rfl (lv_at hl 3 rfl) ?_
    refine lv_iload hx hb dX10_unseen_42 (lv_at hl 4 rfl) ?_
    refine lv_iadd hx hb dX10_unseen_44 ?_
    refine lv_bipush (v := (24 : Int32)) hx hb dX10_unseen_45 (by decide) ?_
    refine lv_irem hx hb dX10_unseen_47 (by decide) ?_
    obtain ⟨y8, V9, h7, h⟩ := ob_I_some h
    refine c_VI E hw (kX10_seersNow (l := l) (G := G) hB  h7) yy_X10_seersNow lm_RX10_318 rfl (by decide) rfl rfl hl.1 (by decide) (by decide) rfl (Nat.le_of_ble_eq_true rfl) dX10_unseen_48 (fun H locs hw => ?_)
    refine lv_if_ne (tgt := 60) hx hb dX10_unseen_51 (by decide) (fun c11 => ?_) (fun c11 => ?_)
    · rw [if_neg c11] at h
      exact ke (V9, u1, u2, u3, u4) (Option.some.inj h).symm H locs ls hw (lv_sub hl [0, 1, 2, 3, 4] rfl)
    · rw [if_pos c11] at h
      obtain ⟨y10, ey10, h⟩ := lt_some h
      refine lv_iinc (v := y10) (lv' := [(4, .int y10), (0, .ref (G.2.2 22)), (1, .int u1), (2, .int u2), (3, .int u3)]) hx hb dX10_unseen_54 hl (k := 4) rfl (by rw [ey10]; rfl) (by decide) rfl (fun ls hl => ?_)
      refine lv_goto (tgt := 32) hx hb dX10_unseen_57 (by decide) ?_
      exact kc (V9, u1, u2, u3, y10) (Option.some.inj h).symm H locs ls hw (lv_sub hl [1, 2, 3, 4, 0] rfl)
set_option maxHeartbeats 4000000 in
set_option maxRecDepth 100000 in
theorem wX10_unseen_L23 {p : Program} {l : Launch} {e : Env} {s : State} {m : MethodId} {args : Array Value} {below : List Frame} {meth : Method} {c : Code} {G : GT} {B : BGt} {Q : State → Prop} (E : En p s m args c meth cX10_unseen 5 RX10 (some .int) G B) {x : (Int32 × VT)} (kr : ∀ q : (Int32 × VT), x = q → Q = MQ below (QI G s.heap.size q.1 q.2) args s 0 0 (gA G s.heap.size)) : ∀ (n : Nat) (q : (VT × Int32 × Int32 × Int32)), it_ (iX10_unseen_L23) n q = some x → ∀ (H : Heap) (locs : List Loc) (ls : Array Slot), HW G s.heap (q.1) H locs → lv_has ls 5 [(0, .ref (G.2.2 22)), (1, .int (q.2.1)), (2, .int (q.2.2.1)), (3, .int (q.2.2.2))] → W p l e (rmD 13) s m args below meth c H locs 0 0 Q (F0 m 23 ls []) := by
  have hx := en_x E
  have hb := en_b E
  have hB := en_B E
  refine it_W (fun q : (VT × Int32 × Int32 × Int32) => ∀ (H : Heap) (locs : List Loc) (ls : Array Slot), HW G s.heap (q.1) H locs → lv_has ls 5 [(0, .ref (G.2.2 22)), (1, .int (q.2.1)), (2, .int (q.2.2.1)), (3, .int (q.2.2.2))] → W p l e (rmD 13) s m args below meth c H locs 0 0 Q (F0 m 23 ls [])) x ?_
  intro q r h kc kx
  obtain ⟨V, u1, u2, u3⟩ := q
  intro H locs ls hw hl
  have h : fX10_unseen_L23 V u1 u2 u3 = some r := h
  have hw : HW G s.heap V H locs := hw
  have hl : lv_has ls 5 [(0, .ref (G.2.2 22)), (1, .int u1), (2, .int u2), (3, .int u3)] := hl
  have kr : ∀ q : (Int32 × VT), r = .inr (q) → Q = MQ below (QI G s.heap.size q.1 q.2) args s 0 0 (gA G s.heap.size) := fun q e => kr q (kx _ e).symm
  unfold fX10_unseen_L23 at h
  refine lv_iload_n hx hb dX10_unseen_23 rfl (lv_at hl 3 rfl) ?_
  refine lv_bipush (v := (24 : Int32)) hx hb dX10_unseen_24 (by decide) ?_
  refine lv_icmp_ge (tgt := 73) hx hb dX10_unseen_26 (by decide) (fun c22 => ?_) (fun c22 => ?_)
  · rw [if_pos c22] at h
    refine lv_iload_n hx hb dX10_unseen_73 rfl (lv_at hl 2 rfl) ?_
    rw [kr (u2, V) (Option.some.inj h).symm]
    exact r_ri E hw dX10_unseen_74
  · rw [if_neg c22] at h
    refine lv_iconst (v := (0 : Int32)) hx hb dX10_unseen_29 (by decide) ?_
    refine lv_istore (lv' := [(4, .int (0 : Int32)), (0, .ref (G.2.2 22)), (1, .int u1), (2, .int u2), (3, .int u3)]) hx hb dX10_unseen_30 hl (by decide) rfl (fun ls hl => ?_)
    obtain ⟨x14, h13, h⟩ := ob_R_some h
    obtain ⟨V19, y15, y16, y17, y18⟩ := x14
    refine wX10_unseen_L32 E (fun q e H locs ls hw hl => ?_) FV (V, u1, u2, u3, (0 : Int32)) h13 H locs ls hw (lv_sub hl [1, 2, 3, 4, 0] rfl)
    subst e
    have hw : HW G s.heap V19 H locs := hw
    have hl : lv_has ls 5 [(0, .ref (G.2.2 22)), (1, .int y15), (2, .int y16), (3, .int y17), (4, .int y18)] := hl
    have h := dt5_eq h
    refine lv_iload_n hx hb dX10_unseen_60 rfl (lv_at hl 2 rfl) ?_
    refine lv_iload hx hb dX10_unseen_61 (lv_at hl 4 rfl) ?_
    refine r_max E hl.1 lm_RX10_239 (by decide) (Nat.le_of_ble_eq_true rfl) dX10_unseen_63 ?_
    obtain ⟨y20, ey20, h⟩ := lt_some h
    refine lv_eqi ey20 ?_
    refine lv_istore_n (lv' := [(2, .int y20), (0, .ref (G.2.2 22)), (1, .int y15), (3, .int y17), (4, .int y18)]) hx hb dX10_unseen_66 rfl hl (by decide) rfl (fun ls hl => ?_)
    obtain ⟨y21, ey21, h⟩ := lt_some h
    refine lv_iinc (v := y21) (lv' := [(3, .int y21), (2, .int y20), (0, .ref (G.2.2 22)), (1, .int y15), (4, .int y18)]) hx hb dX10_unseen_67 hl (k := 3) rfl (by rw [ey21]; rfl) (by decide) rfl (fun ls hl => ?_)
    refine lv_goto (tgt := 23) hx hb dX10_unseen_70 (by decide) ?_
    exact kc (V19, y15, y20, y21) (Option.some.inj h).symm H locs ls hw (lv_sub hl [2, 3, 1, 0] rfl)
set_option maxHeartbeats 4000000 in
set_option maxRecDepth 100000 in
theorem kX10_unseen {l : Launch} {G : GT} {B : BGt} (hB : BGok B) {V : VT} {x1 : Int32} {r : (Int32 × VT)} (h : fX10_unseen V x1 = some r) : CI l G B yX10_unseen (.code yX10_unseen cX10_unseen 5 (some .int)) 13 [.ref (G.2.2 22), .int x1] V r.1 r.2 := by
  intro sz
  refine met_of (Qs := fun sz => QI G sz (r.1) (r.2)) hB (by decide) (Nat.le_of_ble_eq_true rfl) ?_ sz
  intro p e s m args below meth c ls E hw hl
  have hx := en_x E
  have hb := en_b E
  generalize hQ : MQ _ _ _ _ _ _ _ = Q
  have kr : Q = MQ below (QI G s.heap.size r.1 r.2) args s 0 0 (gA G s.heap.size) := hQ.symm
  have hl : lv_has ls 5 [(0, .ref (G.2.2 22)), (1, .int x1)] := hl
  obtain ⟨H, eH⟩ : ∃ H, H = s.heap := ⟨_, rfl⟩
  obtain ⟨locs, elocs⟩ : ∃ z : List Loc, z = [] := ⟨_, rfl⟩
  have hw : HW G s.heap V H locs := by rw [eH, elocs]; exact hw
  show W p l e _ s m args below meth c s.heap [] 0 0 Q (F0 m 0 ls [])
  rw [← eH, ← elocs]
  unfold fX10_unseen at h
  refine lv_aload_n hx hb dX10_unseen_0 rfl (lv_at hl 0 rfl) ?_
  refine lv_iconst (v := (0 : Int32)) hx hb dX10_unseen_1 (by decide) ?_
  obtain ⟨V1, eV1, h⟩ := lt_some h
  refine r_pi E hw 22 0 (N := 29) (C := RX10) (T := TX10) (ty0 := tyX10) (ty := .int) (by decide) rfl rfl (by decide) rfl iw_10 rfl tyX10_ok nmX10 rfl rfl (vp_nar_int _) rfl lf_RX10_3 eV1 dX10_unseen_2 (fun H locs hw => ?_)
  refine lv_aload_n hx hb dX10_unseen_5 rfl (lv_at hl 0 rfl) ?_
  refine lv_iload_n hx hb dX10_unseen_6 rfl (lv_at hl 1 rfl) ?_
  obtain ⟨y3, h2, h⟩ := ob_R_some h
  refine c_SI E hw (kX10_noPlace (l := l) (G := G) hB  h2) yy_X10_noPlace lm_RX10_312 rfl hl.1 (by decide) (by decide) rfl (Nat.le_of_ble_eq_true rfl) dX10_unseen_7 (fun H locs hw => ?_)
  refine lv_iconst (v := (1 : Int32)) hx hb dX10_unseen_10 (by decide) ?_
  obtain ⟨y5, V6, h4, h⟩ := ob_I_some h
  refine c_VI E hw (kX10_throwsIf (l := l) (G := G) hB  h4) yy_X10_throwsIf lm_RX10_233 rfl (by decide) rfl rfl hl.1 (by decide) (by decide) rfl (Nat.le_of_ble_eq_true rfl) dX10_unseen_11 (fun H locs hw => ?_)
  refine lv_if_eq (tgt := 19) hx hb dX10_unseen_14 (by decide) (fun c25 => ?_) (fun c25 => ?_)
  · rw [if_pos c25] at h
    refine lv_iconst (v := (0 : Int32)) hx hb dX10_unseen_19 (by decide) ?_
    refine lv_istore_n (lv' := [(2, .int (0 : Int32)), (0, .ref (G.2.2 22)), (1, .int x1)]) hx hb dX10_unseen_20 rfl hl (by decide) rfl (fun ls hl => ?_)
    refine lv_iconst (v := (0 : Int32)) hx hb dX10_unseen_21 (by decide) ?_
    refine lv_istore_n (lv' := [(3, .int (0 : Int32)), (2, .int (0 : Int32)), (0, .ref (G.2.2 22)), (1, .int x1)]) hx hb dX10_unseen_22 rfl hl (by decide) rfl (fun ls hl => ?_)
    obtain ⟨x24, h23, h⟩ := ob_R_some h
    have h := Option.some.inj h
    subst h
    exact wX10_unseen_L23 E (fun q e => by subst e; exact kr) FV (V6, x1, (0 : Int32), (0 : Int32)) h23 H locs ls hw (lv_sub hl [2, 3, 1, 0] rfl)
  · rw [if_neg c25] at h
    refine lv_iconst (v := (0 : Int32)) hx hb dX10_unseen_17 (by decide) ?_
    have h := Option.some.inj h
    subst h
    rw [kr]
    exact r_ri E hw dX10_unseen_18
/-! ===== AllSawItModel.laysSights(I)V ===== -/
theorem dX10_laysSights_0 : decode cX10_laysSights 0 = .ok (.iconst 0, 1) := by decide +kernel
theorem dX10_laysSights_1 : decode cX10_laysSights 1 = .ok (.istore_n 2, 1) := by decide +kernel
theorem dX10_laysSights_2 : decode cX10_laysSights 2 = .ok (.iload_n 2, 1) := by decide +kernel
theorem dX10_laysSights_3 : decode cX10_laysSights 3 = .ok (.bipush 24, 2) := by decide +kernel
theorem dX10_laysSights_5 : decode cX10_laysSights 5 = .ok (.if_icmp .ge 24, 3) := by decide +kernel
theorem dX10_laysSights_8 : decode cX10_laysSights 8 = .ok (.aload_n 0, 1) := by decide +kernel
theorem dX10_laysSights_9 : decode cX10_laysSights 9 = .ok (.getfield 45, 3) := by decide +kernel
theorem dX10_laysSights_12 : decode cX10_laysSights 12 = .ok (.iload_n 2, 1) := by decide +kernel
theorem dX10_laysSights_13 : decode cX10_laysSights 13 = .ok (.aload_n 0, 1) := by decide +kernel
theorem dX10_laysSights_14 : decode cX10_laysSights 14 = .ok (.iload_n 2, 1) := by decide +kernel
theorem dX10_laysSights_15 : decode cX10_laysSights 15 = .ok (.iload_n 1, 1) := by decide +kernel
theorem dX10_laysSights_16 : decode cX10_laysSights 16 = .ok (.invokevirtual 318, 3) := by decide +kernel
theorem dX10_laysSights_19 : decode cX10_laysSights 19 = .ok (.invokestatic 324, 3) := by decide +kernel
theorem dX10_laysSights_22 : decode cX10_laysSights 22 = .ok (.iastore, 1) := by decide +kernel
theorem dX10_laysSights_23 : decode cX10_laysSights 23 = .ok (.iinc 2 1, 3) := by decide +kernel
theorem dX10_laysSights_26 : decode cX10_laysSights 26 = .ok (.goto (-24), 3) := by decide +kernel
theorem dX10_laysSights_29 : decode cX10_laysSights 29 = .ok (.return_, 1) := by decide +kernel
noncomputable def fX10_laysSights_L2 (V : VT) (u1 : Int32) (u2 : Int32) : Option ((VT × Int32 × Int32) ⊕ VT) := if (24 : Int32) ≤ u2 then (some (.inr (V))) else (ob_I (fX10_seersNow V u2 u1) fun y2 V3 => ob_R (fJ6_bitCount_0f7a4 V3 y2) fun y5 => rd_ u2 24 (lt_ (va_up V3 85 (upd (V3 85) u2.toNatClampNeg y5)) fun V7 => lt_ (u2 + (1 : Int32)) fun y8 => some (.inl (V7, u1, y8))))
noncomputable def iX10_laysSights_L2 : (VT × Int32 × Int32) → Option ((VT × Int32 × Int32) ⊕ VT) := fun q => fX10_laysSights_L2 (q.1) (q.2.1) (q.2.2)
noncomputable def fX10_laysSights (V : VT) (x1 : Int32) : Option VT := ob_R (it_ (iX10_laysSights_L2) FV (V, x1, (0 : Int32))) fun x11 => some x11
set_option maxHeartbeats 4000000 in
set_option maxRecDepth 100000 in
theorem wX10_laysSights_L2 {p : Program} {l : Launch} {e : Env} {s : State} {m : MethodId} {args : Array Value} {below : List Frame} {meth : Method} {c : Code} {G : GT} {B : BGt} {Q : State → Prop} (E : En p s m args c meth cX10_laysSights 3 RX10 none G B) {x : VT} (kr : ∀ q : VT, x = q → Q = MQ below (QV G s.heap.size q) args s 0 0 (gA G s.heap.size)) : ∀ (n : Nat) (q : (VT × Int32 × Int32)), it_ (iX10_laysSights_L2) n q = some x → ∀ (H : Heap) (locs : List Loc) (ls : Array Slot), HW G s.heap (q.1) H locs → lv_has ls 3 [(0, .ref (G.2.2 22)), (1, .int (q.2.1)), (2, .int (q.2.2))] → W p l e (rmD 13) s m args below meth c H locs 0 0 Q (F0 m 2 ls []) := by
  have hx := en_x E
  have hb := en_b E
  have hB := en_B E
  refine it_W (fun q : (VT × Int32 × Int32) => ∀ (H : Heap) (locs : List Loc) (ls : Array Slot), HW G s.heap (q.1) H locs → lv_has ls 3 [(0, .ref (G.2.2 22)), (1, .int (q.2.1)), (2, .int (q.2.2))] → W p l e (rmD 13) s m args below meth c H locs 0 0 Q (F0 m 2 ls [])) x ?_
  intro q r h kc kx
  obtain ⟨V, u1, u2⟩ := q
  intro H locs ls hw hl
  have h : fX10_laysSights_L2 V u1 u2 = some r := h
  have hw : HW G s.heap V H locs := hw
  have hl : lv_has ls 3 [(0, .ref (G.2.2 22)), (1, .int u1), (2, .int u2)] := hl
  have kr : ∀ q : VT, r = .inr (q) → Q = MQ below (QV G s.heap.size q) args s 0 0 (gA G s.heap.size) := fun q e => kr q (kx _ e).symm
  unfold fX10_laysSights_L2 at h
  refine lv_iload_n hx hb dX10_laysSights_2 rfl (lv_at hl 2 rfl) ?_
  refine lv_bipush (v := (24 : Int32)) hx hb dX10_laysSights_3 (by decide) ?_
  refine lv_icmp_ge (tgt := 29) hx hb dX10_laysSights_5 (by decide) (fun c9 => ?_) (fun c9 => ?_)
  · rw [if_pos c9] at h
    rw [kr V (Option.some.inj h).symm]
    exact r_rv E hw dX10_laysSights_29
  · rw [if_neg c9] at h
    refine lv_aload_n hx hb dX10_laysSights_8 rfl (lv_at hl 0 rfl) ?_
    refine r_gr E hw 22 26 85 (N := 29) (C := RX10) (T := TX10) (by decide) rfl rfl (by decide) rfl iw_10 rfl lf_RX10_45 dX10_laysSights_9 ?_
    refine lv_iload_n hx hb dX10_laysSights_12 rfl (lv_at hl 2 rfl) ?_
    refine lv_aload_n hx hb dX10_laysSights_13 rfl (lv_at hl 0 rfl) ?_
    refine lv_iload_n hx hb dX10_laysSights_14 rfl (lv_at hl 2 rfl) ?_
    refine lv_iload_n hx hb dX10_laysSights_15 rfl (lv_at hl 1 rfl) ?_
    obtain ⟨y2, V3, h1, h⟩ := ob_I_some h
    refine c_VI E hw (kX10_seersNow (l := l) (G := G) hB  h1) yy_X10_seersNow lm_RX10_318 rfl (by decide) rfl rfl hl.1 (by decide) (by decide) rfl (Nat.le_of_ble_eq_true rfl) dX10_laysSights_16 (fun H locs hw => ?_)
    obtain ⟨y5, h4, h⟩ := ob_R_some h
    refine c_SI E hw (kJ6_bitCount_0f7a4 (l := l) (G := G) hB  h4) yy_J6_bitCount_0f7a4 lm_RX10_324 rfl hl.1 (by decide) (by decide) rfl (Nat.le_of_ble_eq_true rfl) dX10_laysSights_19 (fun H locs hw => ?_)
    obtain ⟨b6, h⟩ := rd_some h
    obtain ⟨V7, eV7, h⟩ := lt_some h
    refine r_is E hw 85 24 (by decide) (by decide) (by decide) rfl rfl b6 eV7 dX10_laysSights_22 (fun H locs hw => ?_)
    obtain ⟨y8, ey8, h⟩ := lt_some h
    refine lv_iinc (v := y8) (lv' := [(2, .int y8), (0, .ref (G.2.2 22)), (1, .int u1)]) hx hb dX10_laysSights_23 hl (k := 2) rfl (by rw [ey8]; rfl) (by decide) rfl (fun ls hl => ?_)
    refine lv_goto (tgt := 2) hx hb dX10_laysSights_26 (by decide) ?_
    exact kc (V7, u1, y8) (Option.some.inj h).symm H locs ls hw (lv_sub hl [1, 2, 0] rfl)
set_option maxHeartbeats 4000000 in
set_option maxRecDepth 100000 in
theorem kX10_laysSights {l : Launch} {G : GT} {B : BGt} (hB : BGok B) {V : VT} {x1 : Int32} {r : VT} (h : fX10_laysSights V x1 = some r) : CV l G B yX10_laysSights (.code yX10_laysSights cX10_laysSights 3 none) 13 [.ref (G.2.2 22), .int x1] V r := by
  intro sz
  refine met_of (Qs := fun sz => QV G sz r) hB (by decide) (Nat.le_of_ble_eq_true rfl) ?_ sz
  intro p e s m args below meth c ls E hw hl
  have hx := en_x E
  have hb := en_b E
  generalize hQ : MQ _ _ _ _ _ _ _ = Q
  have kr : Q = MQ below (QV G s.heap.size r) args s 0 0 (gA G s.heap.size) := hQ.symm
  have hl : lv_has ls 3 [(0, .ref (G.2.2 22)), (1, .int x1)] := hl
  obtain ⟨H, eH⟩ : ∃ H, H = s.heap := ⟨_, rfl⟩
  obtain ⟨locs, elocs⟩ : ∃ z : List Loc, z = [] := ⟨_, rfl⟩
  have hw : HW G s.heap V H locs := by rw [eH, elocs]; exact hw
  show W p l e _ s m args below meth c s.heap [] 0 0 Q (F0 m 0 ls [])
  rw [← eH, ← elocs]
  unfold fX10_laysSights at h
  refine lv_iconst (v := (0 : Int32)) hx hb dX10_laysSights_0 (by decide) ?_
  refine lv_istore_n (lv' := [(2, .int (0 : Int32)), (0, .ref (G.2.2 22)), (1, .int x1)]) hx hb dX10_laysSights_1 rfl hl (by decide) rfl (fun ls hl => ?_)
  obtain ⟨x11, h10, h⟩ := ob_R_some h
  have h := Option.some.inj h
  subst h
  exact wX10_laysSights_L2 E (fun q e => by subst e; exact kr) FV (V, x1, (0 : Int32)) h10 H locs ls hw (lv_sub hl [1, 2, 0] rfl)
/-! ===== AllSawItModel.goesAlong()V ===== -/
theorem dX10_goesAlong_0 : decode cX10_goesAlong 0 = .ok (.iconst 1, 1) := by decide +kernel
theorem dX10_goesAlong_1 : decode cX10_goesAlong 1 = .ok (.istore_n 1, 1) := by decide +kernel
theorem dX10_goesAlong_2 : decode cX10_goesAlong 2 = .ok (.iload_n 1, 1) := by decide +kernel
theorem dX10_goesAlong_3 : decode cX10_goesAlong 3 = .ok (.bipush 24, 2) := by decide +kernel
theorem dX10_goesAlong_5 : decode cX10_goesAlong 5 = .ok (.if_icmp .ge 39, 3) := by decide +kernel
theorem dX10_goesAlong_8 : decode cX10_goesAlong 8 = .ok (.aload_n 0, 1) := by decide +kernel
theorem dX10_goesAlong_9 : decode cX10_goesAlong 9 = .ok (.getfield 42, 3) := by decide +kernel
theorem dX10_goesAlong_12 : decode cX10_goesAlong 12 = .ok (.iload_n 1, 1) := by decide +kernel
theorem dX10_goesAlong_13 : decode cX10_goesAlong 13 = .ok (.aload_n 0, 1) := by decide +kernel
theorem dX10_goesAlong_14 : decode cX10_goesAlong 14 = .ok (.getfield 42, 3) := by decide +kernel
theorem dX10_goesAlong_17 : decode cX10_goesAlong 17 = .ok (.iload_n 1, 1) := by decide +kernel
theorem dX10_goesAlong_18 : decode cX10_goesAlong 18 = .ok (.iaload, 1) := by decide +kernel
theorem dX10_goesAlong_19 : decode cX10_goesAlong 19 = .ok (.aload_n 0, 1) := by decide +kernel
theorem dX10_goesAlong_20 : decode cX10_goesAlong 20 = .ok (.getfield 42, 3) := by decide +kernel
theorem dX10_goesAlong_23 : decode cX10_goesAlong 23 = .ok (.iload_n 1, 1) := by decide +kernel
theorem dX10_goesAlong_24 : decode cX10_goesAlong 24 = .ok (.iconst 1, 1) := by decide +kernel
theorem dX10_goesAlong_25 : decode cX10_goesAlong 25 = .ok (.isub, 1) := by decide +kernel
theorem dX10_goesAlong_26 : decode cX10_goesAlong 26 = .ok (.iaload, 1) := by decide +kernel
theorem dX10_goesAlong_27 : decode cX10_goesAlong 27 = .ok (.aload_n 0, 1) := by decide +kernel
theorem dX10_goesAlong_28 : decode cX10_goesAlong 28 = .ok (.getfield 45, 3) := by decide +kernel
theorem dX10_goesAlong_31 : decode cX10_goesAlong 31 = .ok (.iload_n 1, 1) := by decide +kernel
theorem dX10_goesAlong_32 : decode cX10_goesAlong 32 = .ok (.iaload, 1) := by decide +kernel
theorem dX10_goesAlong_33 : decode cX10_goesAlong 33 = .ok (.iadd, 1) := by decide +kernel
theorem dX10_goesAlong_34 : decode cX10_goesAlong 34 = .ok (.invokestatic 244, 3) := by decide +kernel
theorem dX10_goesAlong_37 : decode cX10_goesAlong 37 = .ok (.iastore, 1) := by decide +kernel
theorem dX10_goesAlong_38 : decode cX10_goesAlong 38 = .ok (.iinc 1 1, 3) := by decide +kernel
theorem dX10_goesAlong_41 : decode cX10_goesAlong 41 = .ok (.goto (-39), 3) := by decide +kernel
theorem dX10_goesAlong_44 : decode cX10_goesAlong 44 = .ok (.bipush 22, 2) := by decide +kernel
theorem dX10_goesAlong_46 : decode cX10_goesAlong 46 = .ok (.istore_n 1, 1) := by decide +kernel
theorem dX10_goesAlong_47 : decode cX10_goesAlong 47 = .ok (.iload_n 1, 1) := by decide +kernel
theorem dX10_goesAlong_48 : decode cX10_goesAlong 48 = .ok (.ifCond .lt 39, 3) := by decide +kernel
theorem dX10_goesAlong_51 : decode cX10_goesAlong 51 = .ok (.aload_n 0, 1) := by decide +kernel
theorem dX10_goesAlong_52 : decode cX10_goesAlong 52 = .ok (.getfield 42, 3) := by decide +kernel
theorem dX10_goesAlong_55 : decode cX10_goesAlong 55 = .ok (.iload_n 1, 1) := by decide +kernel
theorem dX10_goesAlong_56 : decode cX10_goesAlong 56 = .ok (.aload_n 0, 1) := by decide +kernel
theorem dX10_goesAlong_57 : decode cX10_goesAlong 57 = .ok (.getfield 42, 3) := by decide +kernel
theorem dX10_goesAlong_60 : decode cX10_goesAlong 60 = .ok (.iload_n 1, 1) := by decide +kernel
theorem dX10_goesAlong_61 : decode cX10_goesAlong 61 = .ok (.iaload, 1) := by decide +kernel
theorem dX10_goesAlong_62 : decode cX10_goesAlong 62 = .ok (.aload_n 0, 1) := by decide +kernel
theorem dX10_goesAlong_63 : decode cX10_goesAlong 63 = .ok (.getfield 42, 3) := by decide +kernel
theorem dX10_goesAlong_66 : decode cX10_goesAlong 66 = .ok (.iload_n 1, 1) := by decide +kernel
theorem dX10_goesAlong_67 : decode cX10_goesAlong 67 = .ok (.iconst 1, 1) := by decide +kernel
theorem dX10_goesAlong_68 : decode cX10_goesAlong 68 = .ok (.iadd, 1) := by decide +kernel
theorem dX10_goesAlong_69 : decode cX10_goesAlong 69 = .ok (.iaload, 1) := by decide +kernel
theorem dX10_goesAlong_70 : decode cX10_goesAlong 70 = .ok (.aload_n 0, 1) := by decide +kernel
theorem dX10_goesAlong_71 : decode cX10_goesAlong 71 = .ok (.getfield 45, 3) := by decide +kernel
theorem dX10_goesAlong_74 : decode cX10_goesAlong 74 = .ok (.iload_n 1, 1) := by decide +kernel
theorem dX10_goesAlong_75 : decode cX10_goesAlong 75 = .ok (.iaload, 1) := by decide +kernel
theorem dX10_goesAlong_76 : decode cX10_goesAlong 76 = .ok (.iadd, 1) := by decide +kernel
theorem dX10_goesAlong_77 : decode cX10_goesAlong 77 = .ok (.invokestatic 244, 3) := by decide +kernel
theorem dX10_goesAlong_80 : decode cX10_goesAlong 80 = .ok (.iastore, 1) := by decide +kernel
theorem dX10_goesAlong_81 : decode cX10_goesAlong 81 = .ok (.iinc 1 (-1), 3) := by decide +kernel
theorem dX10_goesAlong_84 : decode cX10_goesAlong 84 = .ok (.goto (-37), 3) := by decide +kernel
theorem dX10_goesAlong_87 : decode cX10_goesAlong 87 = .ok (.return_, 1) := by decide +kernel
noncomputable def fX10_goesAlong_L2 (V : VT) (u1 : Int32) : Option ((VT × Int32) ⊕ VT) := if (24 : Int32) ≤ u1 then (some (.inr (V))) else (rd_ u1 24 (rd_ (u1 - (1 : Int32)) 24 (rd_ u1 24 (rd_ u1 24 (lt_ (va_up V 84 (upd (V 84) u1.toNatClampNeg (if ((V 84 (u1 - (1 : Int32)).toNatClampNeg) + (V 85 u1.toNatClampNeg)) < (V 84 u1.toNatClampNeg) then ((V 84 (u1 - (1 : Int32)).toNatClampNeg) + (V 85 u1.toNatClampNeg)) else (V 84 u1.toNatClampNeg)))) fun V5 => lt_ (u1 + (1 : Int32)) fun y6 => some (.inl (V5, y6)))))))
noncomputable def iX10_goesAlong_L2 : (VT × Int32) → Option ((VT × Int32) ⊕ VT) := fun q => fX10_goesAlong_L2 (q.1) (q.2)
noncomputable def fX10_goesAlong_L47 (V : VT) (u1 : Int32) : Option ((VT × Int32) ⊕ VT) := if u1 < 0 then (some (.inr (V))) else (rd_ u1 24 (rd_ (u1 + (1 : Int32)) 24 (rd_ u1 24 (rd_ u1 24 (lt_ (va_up V 84 (upd (V 84) u1.toNatClampNeg (if ((V 84 (u1 + (1 : Int32)).toNatClampNeg) + (V 85 u1.toNatClampNeg)) < (V 84 u1.toNatClampNeg) then ((V 84 (u1 + (1 : Int32)).toNatClampNeg) + (V 85 u1.toNatClampNeg)) else (V 84 u1.toNatClampNeg)))) fun V15 => lt_ (u1 + (-1 : Int32)) fun y16 => some (.inl (V15, y16)))))))
noncomputable def iX10_goesAlong_L47 : (VT × Int32) → Option ((VT × Int32) ⊕ VT) := fun q => fX10_goesAlong_L47 (q.1) (q.2)
noncomputable def fX10_goesAlong (V : VT) : Option VT := ob_R (it_ (iX10_goesAlong_L2) FV (V, (1 : Int32))) fun x9 => (lt_ x9 fun V10 => ob_R (it_ (iX10_goesAlong_L47) FV (V10, (22 : Int32))) fun x19 => some x19)
set_option maxHeartbeats 4000000 in
set_option maxRecDepth 100000 in
theorem wX10_goesAlong_L2 {p : Program} {l : Launch} {e : Env} {s : State} {m : MethodId} {args : Array Value} {below : List Frame} {meth : Method} {c : Code} {G : GT} {B : BGt} {Q : State → Prop} (E : En p s m args c meth cX10_goesAlong 2 RX10 none G B) {x : VT} (ke : ∀ q : VT, x = q → ∀ (H : Heap) (locs : List Loc) (ls : Array Slot), HW G s.heap q H locs → lv_has ls 2 [(0, .ref (G.2.2 22))] → W p l e (rmD 2) s m args below meth c H locs 0 0 Q (F0 m 44 ls [])) : ∀ (n : Nat) (q : (VT × Int32)), it_ (iX10_goesAlong_L2) n q = some x → ∀ (H : Heap) (locs : List Loc) (ls : Array Slot), HW G s.heap (q.1) H locs → lv_has ls 2 [(0, .ref (G.2.2 22)), (1, .int (q.2))] → W p l e (rmD 2) s m args below meth c H locs 0 0 Q (F0 m 2 ls []) := by
  have hx := en_x E
  have hb := en_b E
  have hB := en_B E
  refine it_W (fun q : (VT × Int32) => ∀ (H : Heap) (locs : List Loc) (ls : Array Slot), HW G s.heap (q.1) H locs → lv_has ls 2 [(0, .ref (G.2.2 22)), (1, .int (q.2))] → W p l e (rmD 2) s m args below meth c H locs 0 0 Q (F0 m 2 ls [])) x ?_
  intro q r h kc kx
  obtain ⟨V, u1⟩ := q
  intro H locs ls hw hl
  have h : fX10_goesAlong_L2 V u1 = some r := h
  have hw : HW G s.heap V H locs := hw
  have hl : lv_has ls 2 [(0, .ref (G.2.2 22)), (1, .int u1)] := hl
  have ke : ∀ q : VT, r = .inr (q) → ∀ (H : Heap) (locs : List Loc) (ls : Array Slot), HW G s.heap q H locs → lv_has ls 2 [(0, .ref (G.2.2 22))] → W p l e (rmD 2) s m args below meth c H locs 0 0 Q (F0 m 44 ls []) := fun q e => ke q (kx _ e).symm
  unfold fX10_goesAlong_L2 at h
  refine lv_iload_n hx hb dX10_goesAlong_2 rfl (lv_at hl 1 rfl) ?_
  refine lv_bipush (v := (24 : Int32)) hx hb dX10_goesAlong_3 (by decide) ?_
  refine lv_icmp_ge (tgt := 44) hx hb dX10_goesAlong_5 (by decide) (fun c7 => ?_) (fun c7 => ?_)
  · rw [if_pos c7] at h
    exact ke V (Option.some.inj h).symm H locs ls hw (lv_sub hl [0] rfl)
  · rw [if_neg c7] at h
    refine lv_aload_n hx hb dX10_goesAlong_8 rfl (lv_at hl 0 rfl) ?_
    refine r_gr E hw 22 25 84 (N := 29) (C := RX10) (T := TX10) (by decide) rfl rfl (by decide) rfl iw_10 rfl lf_RX10_42 dX10_goesAlong_9 ?_
    refine lv_iload_n hx hb dX10_goesAlong_12 rfl (lv_at hl 1 rfl) ?_
    refine lv_aload_n hx hb dX10_goesAlong_13 rfl (lv_at hl 0 rfl) ?_
    refine r_gr E hw 22 25 84 (N := 29) (C := RX10) (T := TX10) (by decide) rfl rfl (by decide) rfl iw_10 rfl lf_RX10_42 dX10_goesAlong_14 ?_
    refine lv_iload_n hx hb dX10_goesAlong_17 rfl (lv_at hl 1 rfl) ?_
    obtain ⟨b1, h⟩ := rd_some h
    refine r_ia E hw 84 24 (by decide) (by decide) (by decide) rfl rfl b1 dX10_goesAlong_18 ?_
    refine lv_aload_n hx hb dX10_goesAlong_19 rfl (lv_at hl 0 rfl) ?_
    refine r_gr E hw 22 25 84 (N := 29) (C := RX10) (T := TX10) (by decide) rfl rfl (by decide) rfl iw_10 rfl lf_RX10_42 dX10_goesAlong_20 ?_
    refine lv_iload_n hx hb dX10_goesAlong_23 rfl (lv_at hl 1 rfl) ?_
    refine lv_iconst (v := (1 : Int32)) hx hb dX10_goesAlong_24 (by decide) ?_
    refine lv_isub hx hb dX10_goesAlong_25 ?_
    obtain ⟨b2, h⟩ := rd_some h
    refine r_ia E hw 84 24 (by decide) (by decide) (by decide) rfl rfl b2 dX10_goesAlong_26 ?_
    refine lv_aload_n hx hb dX10_goesAlong_27 rfl (lv_at hl 0 rfl) ?_
    refine r_gr E hw 22 26 85 (N := 29) (C := RX10) (T := TX10) (by decide) rfl rfl (by decide) rfl iw_10 rfl lf_RX10_45 dX10_goesAlong_28 ?_
    refine lv_iload_n hx hb dX10_goesAlong_31 rfl (lv_at hl 1 rfl) ?_
    obtain ⟨b3, h⟩ := rd_some h
    refine r_ia E hw 85 24 (by decide) (by decide) (by decide) rfl rfl b3 dX10_goesAlong_32 ?_
    refine lv_iadd hx hb dX10_goesAlong_33 ?_
    refine r_min E hl.1 lm_RX10_244 (by decide) (Nat.le_of_ble_eq_true rfl) dX10_goesAlong_34 ?_
    obtain ⟨b4, h⟩ := rd_some h
    obtain ⟨V5, eV5, h⟩ := lt_some h
    refine r_is E hw 84 24 (by decide) (by decide) (by decide) rfl rfl b4 eV5 dX10_goesAlong_37 (fun H locs hw => ?_)
    obtain ⟨y6, ey6, h⟩ := lt_some h
    refine lv_iinc (v := y6) (lv' := [(1, .int y6), (0, .ref (G.2.2 22))]) hx hb dX10_goesAlong_38 hl (k := 1) rfl (by rw [ey6]; rfl) (by decide) rfl (fun ls hl => ?_)
    refine lv_goto (tgt := 2) hx hb dX10_goesAlong_41 (by decide) ?_
    exact kc (V5, y6) (Option.some.inj h).symm H locs ls hw (lv_sub hl [1, 0] rfl)
set_option maxHeartbeats 4000000 in
set_option maxRecDepth 100000 in
theorem wX10_goesAlong_L47 {p : Program} {l : Launch} {e : Env} {s : State} {m : MethodId} {args : Array Value} {below : List Frame} {meth : Method} {c : Code} {G : GT} {B : BGt} {Q : State → Prop} (E : En p s m args c meth cX10_goesAlong 2 RX10 none G B) {x : VT} (kr : ∀ q : VT, x = q → Q = MQ below (QV G s.heap.size q) args s 0 0 (gA G s.heap.size)) : ∀ (n : Nat) (q : (VT × Int32)), it_ (iX10_goesAlong_L47) n q = some x → ∀ (H : Heap) (locs : List Loc) (ls : Array Slot), HW G s.heap (q.1) H locs → lv_has ls 2 [(0, .ref (G.2.2 22)), (1, .int (q.2))] → W p l e (rmD 2) s m args below meth c H locs 0 0 Q (F0 m 47 ls []) := by
  have hx := en_x E
  have hb := en_b E
  have hB := en_B E
  refine it_W (fun q : (VT × Int32) => ∀ (H : Heap) (locs : List Loc) (ls : Array Slot), HW G s.heap (q.1) H locs → lv_has ls 2 [(0, .ref (G.2.2 22)), (1, .int (q.2))] → W p l e (rmD 2) s m args below meth c H locs 0 0 Q (F0 m 47 ls [])) x ?_
  intro q r h kc kx
  obtain ⟨V, u1⟩ := q
  intro H locs ls hw hl
  have h : fX10_goesAlong_L47 V u1 = some r := h
  have hw : HW G s.heap V H locs := hw
  have hl : lv_has ls 2 [(0, .ref (G.2.2 22)), (1, .int u1)] := hl
  have kr : ∀ q : VT, r = .inr (q) → Q = MQ below (QV G s.heap.size q) args s 0 0 (gA G s.heap.size) := fun q e => kr q (kx _ e).symm
  unfold fX10_goesAlong_L47 at h
  refine lv_iload_n hx hb dX10_goesAlong_47 rfl (lv_at hl 1 rfl) ?_
  refine lv_if_lt (tgt := 87) hx hb dX10_goesAlong_48 (by decide) (fun c17 => ?_) (fun c17 => ?_)
  · rw [if_pos c17] at h
    rw [kr V (Option.some.inj h).symm]
    exact r_rv E hw dX10_goesAlong_87
  · rw [if_neg c17] at h
    refine lv_aload_n hx hb dX10_goesAlong_51 rfl (lv_at hl 0 rfl) ?_
    refine r_gr E hw 22 25 84 (N := 29) (C := RX10) (T := TX10) (by decide) rfl rfl (by decide) rfl iw_10 rfl lf_RX10_42 dX10_goesAlong_52 ?_
    refine lv_iload_n hx hb dX10_goesAlong_55 rfl (lv_at hl 1 rfl) ?_
    refine lv_aload_n hx hb dX10_goesAlong_56 rfl (lv_at hl 0 rfl) ?_
    refine r_gr E hw 22 25 84 (N := 29) (C := RX10) (T := TX10) (by decide) rfl rfl (by decide) rfl iw_10 rfl lf_RX10_42 dX10_goesAlong_57 ?_
    refine lv_iload_n hx hb dX10_goesAlong_60 rfl (lv_at hl 1 rfl) ?_
    obtain ⟨b11, h⟩ := rd_some h
    refine r_ia E hw 84 24 (by decide) (by decide) (by decide) rfl rfl b11 dX10_goesAlong_61 ?_
    refine lv_aload_n hx hb dX10_goesAlong_62 rfl (lv_at hl 0 rfl) ?_
    refine r_gr E hw 22 25 84 (N := 29) (C := RX10) (T := TX10) (by decide) rfl rfl (by decide) rfl iw_10 rfl lf_RX10_42 dX10_goesAlong_63 ?_
    refine lv_iload_n hx hb dX10_goesAlong_66 rfl (lv_at hl 1 rfl) ?_
    refine lv_iconst (v := (1 : Int32)) hx hb dX10_goesAlong_67 (by decide) ?_
    refine lv_iadd hx hb dX10_goesAlong_68 ?_
    obtain ⟨b12, h⟩ := rd_some h
    refine r_ia E hw 84 24 (by decide) (by decide) (by decide) rfl rfl b12 dX10_goesAlong_69 ?_
    refine lv_aload_n hx hb dX10_goesAlong_70 rfl (lv_at hl 0 rfl) ?_
    refine r_gr E hw 22 26 85 (N := 29) (C := RX10) (T := TX10) (by decide) rfl rfl (by decide) rfl iw_10 rfl lf_RX10_45 dX10_goesAlong_71 ?_
    refine lv_iload_n hx hb dX10_goesAlong_74 rfl (lv_at hl 1 rfl) ?_
    obtain ⟨b13, h⟩ := rd_some h
    refine r_ia E hw 85 24 (by decide) (by decide) (by decide) rfl rfl b13 dX10_goesAlong_75 ?_
    refine lv_iadd hx hb dX10_goesAlong_76 ?_
    refine r_min E hl.1 lm_RX10_244 (by decide) (Nat.le_of_ble_eq_true rfl) dX10_goesAlong_77 ?_
    obtain ⟨b14, h⟩ := rd_some h
    obtain ⟨V15, eV15, h⟩ := lt_some h
    refine r_is E hw 84 24 (by decide) (by decide) (by decide) rfl rfl b14 eV15 dX10_goesAlong_80 (fun H locs hw => ?_)
    obtain ⟨y16, ey16, h⟩ := lt_some h
    refine lv_iinc (v := y16) (lv' := [(1, .int y16), (0, .ref (G.2.2 22))]) hx hb dX10_goesAlong_81 hl (k := 1) rfl (by rw [ey16]; rfl) (by decide) rfl (fun ls hl => ?_)
    refine lv_goto (tgt := 47) hx hb dX10_goesAlong_84 (by decide) ?_
    exact kc (V15, y16) (Option.some.inj h).symm H locs ls hw (lv_sub hl [1, 0] rfl)
set_option maxHeartbeats 4000000 in
set_option maxRecDepth 100000 in
theorem kX10_goesAlong {l : Launch} {G : GT} {B : BGt} (hB : BGok B) {V : VT} {r : VT} (h : fX10_goesAlong V = some r) : CV l G B yX10_goesAlong (.code yX10_goesAlong cX10_goesAlong 2 none) 2 [.ref (G.2.2 22)] V r := by
  intro sz
  refine met_of (Qs := fun sz => QV G sz r) hB (by decide) (Nat.le_of_ble_eq_true rfl) ?_ sz
  intro p e s m args below meth c ls E hw hl
  have hx := en_x E
  have hb := en_b E
  generalize hQ : MQ _ _ _ _ _ _ _ = Q
  have kr : Q = MQ below (QV G s.heap.size r) args s 0 0 (gA G s.heap.size) := hQ.symm
  have hl : lv_has ls 2 [(0, .ref (G.2.2 22))] := hl
  obtain ⟨H, eH⟩ : ∃ H, H = s.heap := ⟨_, rfl⟩
  obtain ⟨locs, elocs⟩ : ∃ z : List Loc, z = [] := ⟨_, rfl⟩
  have hw : HW G s.heap V H locs := by rw [eH, elocs]; exact hw
  show W p l e _ s m args below meth c s.heap [] 0 0 Q (F0 m 0 ls [])
  rw [← eH, ← elocs]
  unfold fX10_goesAlong at h
  refine lv_iconst (v := (1 : Int32)) hx hb dX10_goesAlong_0 (by decide) ?_
  refine lv_istore_n (lv' := [(1, .int (1 : Int32)), (0, .ref (G.2.2 22))]) hx hb dX10_goesAlong_1 rfl hl (by decide) rfl (fun ls hl => ?_)
  obtain ⟨x9, h8, h⟩ := ob_R_some h
  obtain ⟨V10, rfl⟩ : ∃ z, z = x9 := ⟨_, rfl⟩
  refine wX10_goesAlong_L2 E (fun q e H locs ls hw hl => ?_) FV (V, (1 : Int32)) h8 H locs ls hw (lv_sub hl [1, 0] rfl)
  subst e
  have hw : HW G s.heap V10 H locs := hw
  have hl : lv_has ls 2 [(0, .ref (G.2.2 22))] := hl
  have h := lt_eq h
  refine lv_bipush (v := (22 : Int32)) hx hb dX10_goesAlong_44 (by decide) ?_
  refine lv_istore_n (lv' := [(1, .int (22 : Int32)), (0, .ref (G.2.2 22))]) hx hb dX10_goesAlong_46 rfl hl (by decide) rfl (fun ls hl => ?_)
  obtain ⟨x19, h18, h⟩ := ob_R_some h
  have h := Option.some.inj h
  subst h
  exact wX10_goesAlong_L47 E (fun q e => by subst e; exact kr) FV (V10, (22 : Int32)) h18 H locs ls hw (lv_sub hl [1, 0] rfl)
/-! ===== AllSawItModel.thief(III)I ===== -/
theorem dX10_thief_0 : decode cX10_thief 0 = .ok (.aload_n 0, 1) := by decide +kernel
theorem dX10_thief_1 : decode cX10_thief 1 = .ok (.iconst 0, 1) := by decide +kernel
theorem dX10_thief_2 : decode cX10_thief 2 = .ok (.putfield 3, 3) := by decide +kernel
theorem dX10_thief_5 : decode cX10_thief 5 = .ok (.aload_n 0, 1) := by decide +kernel
theorem dX10_thief_6 : decode cX10_thief 6 = .ok (.iload_n 1, 1) := by decide +kernel
theorem dX10_thief_7 : decode cX10_thief 7 = .ok (.invokestatic 312, 3) := by decide +kernel
theorem dX10_thief_10 : decode cX10_thief 10 = .ok (.ifCond .ne 17, 3) := by decide +kernel
theorem dX10_thief_13 : decode cX10_thief 13 = .ok (.iload_n 2, 1) := by decide +kernel
theorem dX10_thief_14 : decode cX10_thief 14 = .ok (.invokestatic 312, 3) := by decide +kernel
theorem dX10_thief_17 : decode cX10_thief 17 = .ok (.ifCond .ne 10, 3) := by decide +kernel
theorem dX10_thief_20 : decode cX10_thief 20 = .ok (.iload_n 3, 1) := by decide +kernel
theorem dX10_thief_21 : decode cX10_thief 21 = .ok (.invokestatic 315, 3) := by decide +kernel
theorem dX10_thief_24 : decode cX10_thief 24 = .ok (.ifCond .eq 7, 3) := by decide +kernel
theorem dX10_thief_27 : decode cX10_thief 27 = .ok (.iconst 1, 1) := by decide +kernel
theorem dX10_thief_28 : decode cX10_thief 28 = .ok (.goto 4, 3) := by decide +kernel
theorem dX10_thief_31 : decode cX10_thief 31 = .ok (.iconst 0, 1) := by decide +kernel
theorem dX10_thief_32 : decode cX10_thief 32 = .ok (.iconst 1, 1) := by decide +kernel
theorem dX10_thief_33 : decode cX10_thief 33 = .ok (.invokevirtual 233, 3) := by decide +kernel
theorem dX10_thief_36 : decode cX10_thief 36 = .ok (.ifCond .eq 5, 3) := by decide +kernel
theorem dX10_thief_39 : decode cX10_thief 39 = .ok (.iconst 0, 1) := by decide +kernel
theorem dX10_thief_40 : decode cX10_thief 40 = .ok (.ireturn, 1) := by decide +kernel
theorem dX10_thief_41 : decode cX10_thief 41 = .ok (.aload_n 0, 1) := by decide +kernel
theorem dX10_thief_42 : decode cX10_thief 42 = .ok (.iload_n 3, 1) := by decide +kernel
theorem dX10_thief_43 : decode cX10_thief 43 = .ok (.invokevirtual 332, 3) := by decide +kernel
theorem dX10_thief_46 : decode cX10_thief 46 = .ok (.iconst 0, 1) := by decide +kernel
theorem dX10_thief_47 : decode cX10_thief 47 = .ok (.istore 4, 2) := by decide +kernel
theorem dX10_thief_49 : decode cX10_thief 49 = .ok (.iload 4, 2) := by decide +kernel
theorem dX10_thief_51 : decode cX10_thief 51 = .ok (.bipush 24, 2) := by decide +kernel
theorem dX10_thief_53 : decode cX10_thief 53 = .ok (.if_icmp .ge 35, 3) := by decide +kernel
theorem dX10_thief_56 : decode cX10_thief 56 = .ok (.aload_n 0, 1) := by decide +kernel
theorem dX10_thief_57 : decode cX10_thief 57 = .ok (.getfield 42, 3) := by decide +kernel
theorem dX10_thief_60 : decode cX10_thief 60 = .ok (.iload 4, 2) := by decide +kernel
theorem dX10_thief_62 : decode cX10_thief 62 = .ok (.iload 4, 2) := by decide +kernel
theorem dX10_thief_64 : decode cX10_thief 64 = .ok (.iload_n 1, 1) := by decide +kernel
theorem dX10_thief_65 : decode cX10_thief 65 = .ok (.if_icmp .ne 13, 3) := by decide +kernel
theorem dX10_thief_68 : decode cX10_thief 68 = .ok (.aload_n 0, 1) := by decide +kernel
theorem dX10_thief_69 : decode cX10_thief 69 = .ok (.getfield 45, 3) := by decide +kernel
theorem dX10_thief_72 : decode cX10_thief 72 = .ok (.iload 4, 2) := by decide +kernel
theorem dX10_thief_74 : decode cX10_thief 74 = .ok (.iaload, 1) := by decide +kernel
theorem dX10_thief_75 : decode cX10_thief 75 = .ok (.goto 6, 3) := by decide +kernel
theorem dX10_thief_78 : decode cX10_thief 78 = .ok (.ldc_w 336, 3) := by decide +kernel
theorem dX10_thief_81 : decode cX10_thief 81 = .ok (.iastore, 1) := by decide +kernel
theorem dX10_thief_82 : decode cX10_thief 82 = .ok (.iinc 4 1, 3) := by decide +kernel
theorem dX10_thief_85 : decode cX10_thief 85 = .ok (.goto (-36), 3) := by decide +kernel
theorem dX10_thief_88 : decode cX10_thief 88 = .ok (.aload_n 0, 1) := by decide +kernel
theorem dX10_thief_89 : decode cX10_thief 89 = .ok (.invokevirtual 337, 3) := by decide +kernel
theorem dX10_thief_92 : decode cX10_thief 92 = .ok (.aload_n 0, 1) := by decide +kernel
theorem dX10_thief_93 : decode cX10_thief 93 = .ok (.getfield 42, 3) := by decide +kernel
theorem dX10_thief_96 : decode cX10_thief 96 = .ok (.iload_n 2, 1) := by decide +kernel
theorem dX10_thief_97 : decode cX10_thief 97 = .ok (.iaload, 1) := by decide +kernel
theorem dX10_thief_98 : decode cX10_thief 98 = .ok (.istore 4, 2) := by decide +kernel
theorem dX10_thief_100 : decode cX10_thief 100 = .ok (.iconst 1, 1) := by decide +kernel
theorem dX10_thief_101 : decode cX10_thief 101 = .ok (.istore 5, 2) := by decide +kernel
theorem dX10_thief_103 : decode cX10_thief 103 = .ok (.iload 5, 2) := by decide +kernel
theorem dX10_thief_105 : decode cX10_thief 105 = .ok (.bipush 24, 2) := by decide +kernel
theorem dX10_thief_107 : decode cX10_thief 107 = .ok (.if_icmp .ge 70, 3) := by decide +kernel
theorem dX10_thief_110 : decode cX10_thief 110 = .ok (.aload_n 0, 1) := by decide +kernel
theorem dX10_thief_111 : decode cX10_thief 111 = .ok (.iload_n 3, 1) := by decide +kernel
theorem dX10_thief_112 : decode cX10_thief 112 = .ok (.iload 5, 2) := by decide +kernel
theorem dX10_thief_114 : decode cX10_thief 114 = .ok (.iadd, 1) := by decide +kernel
theorem dX10_thief_115 : decode cX10_thief 115 = .ok (.bipush 24, 2) := by decide +kernel
theorem dX10_thief_117 : decode cX10_thief 117 = .ok (.irem, 1) := by decide +kernel
theorem dX10_thief_118 : decode cX10_thief 118 = .ok (.invokevirtual 332, 3) := by decide +kernel
theorem dX10_thief_121 : decode cX10_thief 121 = .ok (.iconst 0, 1) := by decide +kernel
theorem dX10_thief_122 : decode cX10_thief 122 = .ok (.istore 6, 2) := by decide +kernel
theorem dX10_thief_124 : decode cX10_thief 124 = .ok (.iload 6, 2) := by decide +kernel
theorem dX10_thief_126 : decode cX10_thief 126 = .ok (.bipush 24, 2) := by decide +kernel
theorem dX10_thief_128 : decode cX10_thief 128 = .ok (.if_icmp .ge 26, 3) := by decide +kernel
theorem dX10_thief_131 : decode cX10_thief 131 = .ok (.aload_n 0, 1) := by decide +kernel
theorem dX10_thief_132 : decode cX10_thief 132 = .ok (.getfield 42, 3) := by decide +kernel
theorem dX10_thief_135 : decode cX10_thief 135 = .ok (.iload 6, 2) := by decide +kernel
theorem dX10_thief_137 : decode cX10_thief 137 = .ok (.dup2, 1) := by decide +kernel
theorem dX10_thief_138 : decode cX10_thief 138 = .ok (.iaload, 1) := by decide +kernel
theorem dX10_thief_139 : decode cX10_thief 139 = .ok (.aload_n 0, 1) := by decide +kernel
theorem dX10_thief_140 : decode cX10_thief 140 = .ok (.getfield 45, 3) := by decide +kernel
theorem dX10_thief_143 : decode cX10_thief 143 = .ok (.iload 6, 2) := by decide +kernel
theorem dX10_thief_145 : decode cX10_thief 145 = .ok (.iaload, 1) := by decide +kernel
theorem dX10_thief_146 : decode cX10_thief 146 = .ok (.iadd, 1) := by decide +kernel
theorem dX10_thief_147 : decode cX10_thief 147 = .ok (.iastore, 1) := by decide +kernel
theorem dX10_thief_148 : decode cX10_thief 148 = .ok (.iinc 6 1, 3) := by decide +kernel
theorem dX10_thief_151 : decode cX10_thief 151 = .ok (.goto (-27), 3) := by decide +kernel
theorem dX10_thief_154 : decode cX10_thief 154 = .ok (.aload_n 0, 1) := by decide +kernel
theorem dX10_thief_155 : decode cX10_thief 155 = .ok (.invokevirtual 337, 3) := by decide +kernel
theorem dX10_thief_158 : decode cX10_thief 158 = .ok (.iload 4, 2) := by decide +kernel
theorem dX10_thief_160 : decode cX10_thief 160 = .ok (.aload_n 0, 1) := by decide +kernel
theorem dX10_thief_161 : decode cX10_thief 161 = .ok (.getfield 42, 3) := by decide +kernel
theorem dX10_thief_164 : decode cX10_thief 164 = .ok (.iload_n 2, 1) := by decide +kernel
theorem dX10_thief_165 : decode cX10_thief 165 = .ok (.iaload, 1) := by decide +kernel
theorem dX10_thief_166 : decode cX10_thief 166 = .ok (.invokestatic 244, 3) := by decide +kernel
theorem dX10_thief_169 : decode cX10_thief 169 = .ok (.istore 4, 2) := by decide +kernel
theorem dX10_thief_171 : decode cX10_thief 171 = .ok (.iinc 5 1, 3) := by decide +kernel
theorem dX10_thief_174 : decode cX10_thief 174 = .ok (.goto (-71), 3) := by decide +kernel
theorem dX10_thief_177 : decode cX10_thief 177 = .ok (.iload 4, 2) := by decide +kernel
theorem dX10_thief_179 : decode cX10_thief 179 = .ok (.ireturn, 1) := by decide +kernel
noncomputable def fX10_thief_L49 (V : VT) (u1 : Int32) (u2 : Int32) (u3 : Int32) (u4 : Int32) : Option ((VT × Int32 × Int32 × Int32 × Int32) ⊕ (VT × Int32 × Int32)) := if (24 : Int32) ≤ u4 then (some (.inr ((V, u2, u3)))) else (if u4 = u1 then (rd_ u4 24 (rd_ u4 24 (lt_ (va_up V 84 (upd (V 84) u4.toNatClampNeg (V 85 u4.toNatClampNeg))) fun V14 => lt_ (u4 + (1 : Int32)) fun y15 => some (.inl (V14, u1, u2, u3, y15))))) else (rd_ u4 24 (lt_ (va_up V 84 (upd (V 84) u4.toNatClampNeg (1000000 : Int32))) fun V10 => lt_ (u4 + (1 : Int32)) fun y11 => some (.inl (V10, u1, u2, u3, y11)))))
noncomputable def iX10_thief_L49 : (VT × Int32 × Int32 × Int32 × Int32) → Option ((VT × Int32 × Int32 × Int32 × Int32) ⊕ (VT × Int32 × Int32)) := fun q => fX10_thief_L49 (q.1) (q.2.1) (q.2.2.1) (q.2.2.2.1) (q.2.2.2.2)
noncomputable def fX10_thief_L124 (V : VT) (u2 : Int32) (u3 : Int32) (u4 : Int32) (u5 : Int32) (u6 : Int32) : Option ((VT × Int32 × Int32 × Int32 × Int32 × Int32) ⊕ (VT × Int32 × Int32 × Int32 × Int32)) := if (24 : Int32) ≤ u6 then (some (.inr ((V, u2, u3, u4, u5)))) else (rd_ u6 24 (rd_ u6 24 (rd_ u6 24 (lt_ (va_up V 84 (upd (V 84) u6.toNatClampNeg ((V 84 u6.toNatClampNeg) + (V 85 u6.toNatClampNeg)))) fun V32 => lt_ (u6 + (1 : Int32)) fun y33 => some (.inl (V32, u2, u3, u4, u5, y33))))))
noncomputable def iX10_thief_L124 : (VT × Int32 × Int32 × Int32 × Int32 × Int32) → Option ((VT × Int32 × Int32 × Int32 × Int32 × Int32) ⊕ (VT × Int32 × Int32 × Int32 × Int32)) := fun q => fX10_thief_L124 (q.1) (q.2.1) (q.2.2.1) (q.2.2.2.1) (q.2.2.2.2.1) (q.2.2.2.2.2)
noncomputable def fX10_thief_L103 (V : VT) (u2 : Int32) (u3 : Int32) (u4 : Int32) (u5 : Int32) : Option ((VT × Int32 × Int32 × Int32 × Int32) ⊕ (Int32 × VT)) := if (24 : Int32) ≤ u5 then (some (.inr ((u4, V)))) else (ob_R (fX10_laysSights V ((u3 + u5) - (u3 + u5) / (24 : Int32) * (24 : Int32))) fun V28 => ob_R (it_ (iX10_thief_L124) FV (V28, u2, u3, u4, u5, (0 : Int32))) fun x36 => (dt5_ x36 fun V41 y37 y38 y39 y40 => ob_R (fX10_goesAlong V41 ) fun V43 => rd_ y37 24 (lt_ (if (V43 84 y37.toNatClampNeg) < y39 then (V43 84 y37.toNatClampNeg) else y39) fun y45 => lt_ (y40 + (1 : Int32)) fun y46 => some (.inl (V43, y37, y38, y45, y46)))))
noncomputable def iX10_thief_L103 : (VT × Int32 × Int32 × Int32 × Int32) → Option ((VT × Int32 × Int32 × Int32 × Int32) ⊕ (Int32 × VT)) := fun q => fX10_thief_L103 (q.1) (q.2.1) (q.2.2.1) (q.2.2.2.1) (q.2.2.2.2)
noncomputable def fX10_thief_j32 (V : VT) (u1 : Int32) (u2 : Int32) (u3 : Int32) (t0 : Int32) : Option (Int32 × VT) := ob_I (fX10_throwsIf V t0 (1 : Int32)) fun y5 V6 => if y5 = 0 then (ob_R (fX10_laysSights V6 u3) fun V8 => ob_R (it_ (iX10_thief_L49) FV (V8, u1, u2, u3, (0 : Int32))) fun x19 => (dt3_ x19 fun V22 y20 y21 => ob_R (fX10_goesAlong V22 ) fun V24 => rd_ y20 24 (lt_ (V24 84 y20.toNatClampNeg) fun y26 => ob_R (it_ (iX10_thief_L103) FV (V24, y20, y21, y26, (1 : Int32))) fun x49 => some x49))) else (some ((0 : Int32), V6))
noncomputable def fX10_thief_j27 (V : VT) (u1 : Int32) (u2 : Int32) (u3 : Int32) : Option (Int32 × VT) := fX10_thief_j32 V u1 u2 u3 (1 : Int32)
noncomputable def fX10_thief (V : VT) (x1 : Int32) (x2 : Int32) (x3 : Int32) : Option (Int32 × VT) := lt_ (va_up V 22 (upd (V 22) 0 (0 : Int32))) fun V1 => ob_R (fX10_noPlace V1 x1) fun y3 => if y3 = 0 then (ob_R (fX10_noPlace V1 x2) fun y52 => if y52 = 0 then (ob_R (fX10_noHour V1 x3) fun y54 => if y54 = 0 then (fX10_thief_j32 V1 x1 x2 x3 (0 : Int32)) else (fX10_thief_j27 V1 x1 x2 x3)) else (fX10_thief_j27 V1 x1 x2 x3)) else (fX10_thief_j27 V1 x1 x2 x3)
set_option maxHeartbeats 4000000 in
set_option maxRecDepth 100000 in
theorem wX10_thief_L49 {p : Program} {l : Launch} {e : Env} {s : State} {m : MethodId} {args : Array Value} {below : List Frame} {meth : Method} {c : Code} {G : GT} {B : BGt} {Q : State → Prop} (E : En p s m args c meth cX10_thief 7 RX10 (some .int) G B) {x : (VT × Int32 × Int32)} (ke : ∀ q : (VT × Int32 × Int32), x = q → ∀ (H : Heap) (locs : List Loc) (ls : Array Slot), HW G s.heap (q.1) H locs → lv_has ls 7 [(0, .ref (G.2.2 22)), (2, .int (q.2.1)), (3, .int (q.2.2))] → W p l e (rmD 14) s m args below meth c H locs 0 0 Q (F0 m 88 ls [])) : ∀ (n : Nat) (q : (VT × Int32 × Int32 × Int32 × Int32)), it_ (iX10_thief_L49) n q = some x → ∀ (H : Heap) (locs : List Loc) (ls : Array Slot), HW G s.heap (q.1) H locs → lv_has ls 7 [(0, .ref (G.2.2 22)), (1, .int (q.2.1)), (2, .int (q.2.2.1)), (3, .int (q.2.2.2.1)), (4, .int (q.2.2.2.2))] → W p l e (rmD 14) s m args below meth c H locs 0 0 Q (F0 m 49 ls []) := by
  have hx := en_x E
  have hb := en_b E
  have hB := en_B E
  refine it_W (fun q : (VT × Int32 × Int32 × Int32 × Int32) => ∀ (H : Heap) (locs : List Loc) (ls : Array Slot), HW G s.heap (q.1) H locs → lv_has ls 7 [(0, .ref (G.2.2 22)), (1, .int (q.2.1)), (2, .int (q.2.2.1)), (3, .int (q.2.2.2.1)), (4, .int (q.2.2.2.2))] → W p l e (rmD 14) s m args below meth c H locs 0 0 Q (F0 m 49 ls [])) x ?_
  intro q r h kc kx
  obtain ⟨V, u1, u2, u3, u4⟩ := q
  intro H locs ls hw hl
  have h : fX10_thief_L49 V u1 u2 u3 u4 = some r := h
  have hw : HW G s.heap V H locs := hw
  have hl : lv_has ls 7 [(0, .ref (G.2.2 22)), (1, .int u1), (2, .int u2), (3, .int u3), (4, .int u4)] := hl
  have ke : ∀ q : (VT × Int32 × Int32), r = .inr (q) → ∀ (H : Heap) (locs : List Loc) (ls : Array Slot), HW G s.heap (q.1) H locs → lv_has ls 7 [(0, .ref (G.2.2 22)), (2, .int (q.2.1)), (3, .int (q.2.2))] → W p l e (rmD 14) s m args below meth c H locs 0 0 Q (F0 m 88 ls []) := fun q e => ke q (kx _ e).symm
  unfold fX10_thief_L49 at h
  refine lv_iload hx hb dX10_thief_49 (lv_at hl 4 rfl) ?_
  refine lv_bipush (v := (24 : Int32)) hx hb dX10_thief_51 (by decide) ?_
  refine lv_icmp_ge (tgt := 88) hx hb dX10_thief_53 (by decide) (fun c17 => ?_) (fun c17 => ?_)
  · rw [if_pos c17] at h
    exact ke (V, u2, u3) (Option.some.inj h).symm H locs ls hw (lv_sub hl [0, 2, 3] rfl)
  · rw [if_neg c17] at h
    refine lv_aload_n hx hb dX10_thief_56 rfl (lv_at hl 0 rfl) ?_
    refine r_gr E hw 22 25 84 (N := 29) (C := RX10) (T := TX10) (by decide) rfl rfl (by decide) rfl iw_10 rfl lf_RX10_42 dX10_thief_57 ?_
    refine lv_iload hx hb dX10_thief_60 (lv_at hl 4 rfl) ?_
    refine lv_iload hx hb dX10_thief_62 (lv_at hl 4 rfl) ?_
    refine lv_iload_n hx hb dX10_thief_64 rfl (lv_at hl 1 rfl) ?_
    refine lv_icmp_ne (tgt := 78) hx hb dX10_thief_65 (by decide) (fun c16 => ?_) (fun c16 => ?_)
    · rw [if_neg c16] at h
      refine lv_ldcw (own := RX10) (v := (1000000 : Int32)) hx hb E.2.2.2.1 (en_w E kn_RX10_336 rfl) dX10_thief_78 ?_
      obtain ⟨b9, h⟩ := rd_some h
      obtain ⟨V10, eV10, h⟩ := lt_some h
      refine r_is E hw 84 24 (by decide) (by decide) (by decide) rfl rfl b9 eV10 dX10_thief_81 (fun H locs hw => ?_)
      obtain ⟨y11, ey11, h⟩ := lt_some h
      refine lv_iinc (v := y11) (lv' := [(4, .int y11), (0, .ref (G.2.2 22)), (1, .int u1), (2, .int u2), (3, .int u3)]) hx hb dX10_thief_82 hl (k := 4) rfl (by rw [ey11]; rfl) (by decide) rfl (fun ls hl => ?_)
      refine lv_goto (tgt := 49) hx hb dX10_thief_85 (by decide) ?_
      exact kc (V10, u1, u2, u3, y11) (Option.some.inj h).symm H locs ls hw (lv_sub hl [1, 2, 3, 4, 0] rfl)
    · rw [if_pos c16] at h
      refine lv_aload_n hx hb dX10_thief_68 rfl (lv_at hl 0 rfl) ?_
      refine r_gr E hw 22 26 85 (N := 29) (C := RX10) (T := TX10) (by decide) rfl rfl (by decide) rfl iw_10 rfl lf_RX10_45 dX10_thief_69 ?_
      refine lv_iload hx hb dX10_thief_72 (lv_at hl 4 rfl) ?_
      obtain ⟨b12, h⟩ := rd_some h
      refine r_ia E hw 85 24 (by decide) (by decide) (by decide) rfl rfl b12 dX10_thief_74 ?_
      refine lv_goto (tgt := 81) hx hb dX10_thief_75 (by decide) ?_
      obtain ⟨b13, h⟩ := rd_some h
      obtain ⟨V14, eV14, h⟩ := lt_some h
      refine r_is E hw 84 24 (by decide) (by decide) (by decide) rfl rfl b13 eV14 dX10_thief_81 (fun H locs hw => ?_)
      obtain ⟨y15, ey15, h⟩ := lt_some h
      refine lv_iinc (v := y15) (lv' := [(4, .int y15), (0, .ref (G.2.2 22)), (1, .int u1), (2, .int u2), (3, .int u3)]) hx hb dX10_thief_82 hl (k := 4) rfl (by rw [ey15]; rfl) (by decide) rfl (fun ls hl => ?_)
      refine lv_goto (tgt := 49) hx hb dX10_thief_85 (by decide) ?_
      exact kc (V14, u1, u2, u3, y15) (Option.some.inj h).symm H locs ls hw (lv_sub hl [1, 2, 3, 4, 0] rfl)
set_option maxHeartbeats 4000000 in
set_option maxRecDepth 100000 in
theorem wX10_thief_L124 {p : Program} {l : Launch} {e : Env} {s : State} {m : MethodId} {args : Array Value} {below : List Frame} {meth : Method} {c : Code} {G : GT} {B : BGt} {Q : State → Prop} (E : En p s m args c meth cX10_thief 7 RX10 (some .int) G B) {x : (VT × Int32 × Int32 × Int32 × Int32)} (ke : ∀ q : (VT × Int32 × Int32 × Int32 × Int32), x = q → ∀ (H : Heap) (locs : List Loc) (ls : Array Slot), HW G s.heap (q.1) H locs → lv_has ls 7 [(0, .ref (G.2.2 22)), (2, .int (q.2.1)), (3, .int (q.2.2.1)), (4, .int (q.2.2.2.1)), (5, .int (q.2.2.2.2))] → W p l e (rmD 14) s m args below meth c H locs 0 0 Q (F0 m 154 ls [])) : ∀ (n : Nat) (q : (VT × Int32 × Int32 × Int32 × Int32 × Int32)), it_ (iX10_thief_L124) n q = some x → ∀ (H : Heap) (locs : List Loc) (ls : Array Slot), HW G s.heap (q.1) H locs → lv_has ls 7 [(0, .ref (G.2.2 22)), (2, .int (q.2.1)), (3, .int (q.2.2.1)), (4, .int (q.2.2.2.1)), (5, .int (q.2.2.2.2.1)), (6, .int (q.2.2.2.2.2))] → W p l e (rmD 14) s m args below meth c H locs 0 0 Q (F0 m 124 ls []) := by
  have hx := en_x E
  have hb := en_b E
  have hB := en_B E
  refine it_W (fun q : (VT × Int32 × Int32 × Int32 × Int32 × Int32) => ∀ (H : Heap) (locs : List Loc) (ls : Array Slot), HW G s.heap (q.1) H locs → lv_has ls 7 [(0, .ref (G.2.2 22)), (2, .int (q.2.1)), (3, .int (q.2.2.1)), (4, .int (q.2.2.2.1)), (5, .int (q.2.2.2.2.1)), (6, .int (q.2.2.2.2.2))] → W p l e (rmD 14) s m args below meth c H locs 0 0 Q (F0 m 124 ls [])) x ?_
  intro q r h kc kx
  obtain ⟨V, u2, u3, u4, u5, u6⟩ := q
  intro H locs ls hw hl
  have h : fX10_thief_L124 V u2 u3 u4 u5 u6 = some r := h
  have hw : HW G s.heap V H locs := hw
  have hl : lv_has ls 7 [(0, .ref (G.2.2 22)), (2, .int u2), (3, .int u3), (4, .int u4), (5, .int u5), (6, .int u6)] := hl
  have ke : ∀ q : (VT × Int32 × Int32 × Int32 × Int32), r = .inr (q) → ∀ (H : Heap) (locs : List Loc) (ls : Array Slot), HW G s.heap (q.1) H locs → lv_has ls 7 [(0, .ref (G.2.2 22)), (2, .int (q.2.1)), (3, .int (q.2.2.1)), (4, .int (q.2.2.2.1)), (5, .int (q.2.2.2.2))] → W p l e (rmD 14) s m args below meth c H locs 0 0 Q (F0 m 154 ls []) := fun q e => ke q (kx _ e).symm
  unfold fX10_thief_L124 at h
  refine lv_iload hx hb dX10_thief_124 (lv_at hl 5 rfl) ?_
  refine lv_bipush (v := (24 : Int32)) hx hb dX10_thief_126 (by decide) ?_
  refine lv_icmp_ge (tgt := 154) hx hb dX10_thief_128 (by decide) (fun c34 => ?_) (fun c34 => ?_)
  · rw [if_pos c34] at h
    exact ke (V, u2, u3, u4, u5) (Option.some.inj h).symm H locs ls hw (lv_sub hl [0, 1, 2, 3, 4] rfl)
  · rw [if_neg c34] at h
    refine lv_aload_n hx hb dX10_thief_131 rfl (lv_at hl 0 rfl) ?_
    refine r_gr E hw 22 25 84 (N := 29) (C := RX10) (T := TX10) (by decide) rfl rfl (by decide) rfl iw_10 rfl lf_RX10_42 dX10_thief_132 ?_
    refine lv_iload hx hb dX10_thief_135 (lv_at hl 5 rfl) ?_
    refine lv_dup2_11 hx hb dX10_thief_137 rfl rfl ?_
    obtain ⟨b29, h⟩ := rd_some h
    refine r_ia E hw 84 24 (by decide) (by decide) (by decide) rfl rfl b29 dX10_thief_138 ?_
    refine lv_aload_n hx hb dX10_thief_139 rfl (lv_at hl 0 rfl) ?_
    refine r_gr E hw 22 26 85 (N := 29) (C := RX10) (T := TX10) (by decide) rfl rfl (by decide) rfl iw_10 rfl lf_RX10_45 dX10_thief_140 ?_
    refine lv_iload hx hb dX10_thief_143 (lv_at hl 5 rfl) ?_
    obtain ⟨b30, h⟩ := rd_some h
    refine r_ia E hw 85 24 (by decide) (by decide) (by decide) rfl rfl b30 dX10_thief_145 ?_
    refine lv_iadd hx hb dX10_thief_146 ?_
    obtain ⟨b31, h⟩ := rd_some h
    obtain ⟨V32, eV32, h⟩ := lt_some h
    refine r_is E hw 84 24 (by decide) (by decide) (by decide) rfl rfl b31 eV32 dX10_thief_147 (fun H locs hw => ?_)
    obtain ⟨y33, ey33, h⟩ := lt_some h
    refine lv_iinc (v := y33) (lv' := [(6, .int y33), (0, .ref (G.2.2 22)), (2, .int u2), (3, .int u3), (4, .int u4), (5, .int u5)]) hx hb dX10_thief_148 hl (k := 5) rfl (by rw [ey33]; rfl) (by decide) rfl (fun ls hl => ?_)
    refine lv_goto (tgt := 124) hx hb dX10_thief_151 (by decide) ?_
    exact kc (V32, u2, u3, u4, u5, y33) (Option.some.inj h).symm H locs ls hw (lv_sub hl [1, 2, 3, 4, 5, 0] rfl)
set_option maxHeartbeats 4000000 in
set_option maxRecDepth 100000 in
theorem wX10_thief_L103 {p : Program} {l : Launch} {e : Env} {s : State} {m : MethodId} {args : Array Value} {below : List Frame} {meth : Method} {c : Code} {G : GT} {B : BGt} {Q : State → Prop} (E : En p s m args c meth cX10_thief 7 RX10 (some .int) G B) {x : (Int32 × VT)} (kr : ∀ q : (Int32 × VT), x = q → Q = MQ below (QI G s.heap.size q.1 q.2) args s 0 0 (gA G s.heap.size)) : ∀ (n : Nat) (q : (VT × Int32 × Int32 × Int32 × Int32)), it_ (iX10_thief_L103) n q = some x → ∀ (H : Heap) (locs : List Loc) (ls : Array Slot), HW G s.heap (q.1) H locs → lv_has ls 7 [(0, .ref (G.2.2 22)), (2, .int (q.2.1)), (3, .int (q.2.2.1)), (4, .int (q.2.2.2.1)), (5, .int (q.2.2.2.2))] → W p l e (rmD 14) s m args below meth c H locs 0 0 Q (F0 m 103 ls []) := by
  have hx := en_x E
  have hb := en_b E
  have hB := en_B E
  refine it_W (fun q : (VT × Int32 × Int32 × Int32 × Int32) => ∀ (H : Heap) (locs : List Loc) (ls : Array Slot), HW G s.heap (q.1) H locs → lv_has ls 7 [(0, .ref (G.2.2 22)), (2, .int (q.2.1)), (3, .int (q.2.2.1)), (4, .int (q.2.2.2.1)), (5, .int (q.2.2.2.2))] → W p l e (rmD 14) s m args below meth c H locs 0 0 Q (F0 m 103 ls [])) x ?_
  intro q r h kc kx
  obtain ⟨V, u2, u3, u4, u5⟩ := q
  intro H locs ls hw hl
  have h : fX10_thief_L103 V u2 u3 u4 u5 = some r := h
  have hw : HW G s.heap V H locs := hw
  have hl : lv_has ls 7 [(0, .ref (G.2.2 22)), (2, .int u2), (3, .int u3), (4, .int u4), (5, .int u5)] := hl
  have kr : ∀ q : (Int32 × VT), r = .inr (q) → Q = MQ below (QI G s.heap.size q.1 q.2) args s 0 0 (gA G s.heap.size) := fun q e => kr q (kx _ e).symm
  unfold fX10_thief_L103 at h
  refine lv_iload hx hb dX10_thief_103 (lv_at hl 4 rfl) ?_
  refine lv_bipush (v := (24 : Int32)) hx hb dX10_thief_105 (by decide) ?_
  refine lv_icmp_ge (tgt := 177) hx hb dX10_thief_107 (by decide) (fun c47 => ?_) (fun c47 => ?_)
  · rw [if_pos c47] at h
    refine lv_iload hx hb dX10_thief_177 (lv_at hl 3 rfl) ?_
    rw [kr (u4, V) (Option.some.inj h).symm]
    exact r_ri E hw dX10_thief_179
  · rw [if_neg c47] at h
    refine lv_aload_n hx hb dX10_thief_110 rfl (lv_at hl 0 rfl) ?_
    refine lv_iload_n hx hb dX10_thief_111 rfl (lv_at hl 2 rfl) ?_
    refine lv_iload hx hb dX10_thief_112 (lv_at hl 4 rfl) ?_
    refine lv_iadd hx hb dX10_thief_114 ?_
    refine lv_bipush (v := (24 : Int32)) hx hb dX10_thief_115 (by decide) ?_
    refine lv_irem hx hb dX10_thief_117 (by decide) ?_
    obtain ⟨V28, h27, h⟩ := ob_R_some h
    refine c_VV E hw (kX10_laysSights (l := l) (G := G) hB  h27) yy_X10_laysSights lm_RX10_332 rfl (by decide) rfl rfl hl.1 (by decide) (by decide) rfl (Nat.le_of_ble_eq_true rfl) dX10_thief_118 (fun H locs hw => ?_)
    refine lv_iconst (v := (0 : Int32)) hx hb dX10_thief_121 (by decide) ?_
    refine lv_istore (lv' := [(6, .int (0 : Int32)), (0, .ref (G.2.2 22)), (2, .int u2), (3, .int u3), (4, .int u4), (5, .int u5)]) hx hb dX10_thief_122 hl (by decide) rfl (fun ls hl => ?_)
    obtain ⟨x36, h35, h⟩ := ob_R_some h
    obtain ⟨V41, y37, y38, y39, y40⟩ := x36
    refine wX10_thief_L124 E (fun q e H locs ls hw hl => ?_) FV (V28, u2, u3, u4, u5, (0 : Int32)) h35 H locs ls hw (lv_sub hl [1, 2, 3, 4, 5, 0] rfl)
    subst e
    have hw : HW G s.heap V41 H locs := hw
    have hl : lv_has ls 7 [(0, .ref (G.2.2 22)), (2, .int y37), (3, .int y38), (4, .int y39), (5, .int y40)] := hl
    have h := dt5_eq h
    refine lv_aload_n hx hb dX10_thief_154 rfl (lv_at hl 0 rfl) ?_
    obtain ⟨V43, h42, h⟩ := ob_R_some h
    refine c_VV E hw (kX10_goesAlong (l := l) (G := G) hB  h42) yy_X10_goesAlong lm_RX10_337 rfl (by decide) rfl rfl hl.1 (by decide) (by decide) rfl (Nat.le_of_ble_eq_true rfl) dX10_thief_155 (fun H locs hw => ?_)
    refine lv_iload hx hb dX10_thief_158 (lv_at hl 3 rfl) ?_
    refine lv_aload_n hx hb dX10_thief_160 rfl (lv_at hl 0 rfl) ?_
    refine r_gr E hw 22 25 84 (N := 29) (C := RX10) (T := TX10) (by decide) rfl rfl (by decide) rfl iw_10 rfl lf_RX10_42 dX10_thief_161 ?_
    refine lv_iload_n hx hb dX10_thief_164 rfl (lv_at hl 1 rfl) ?_
    obtain ⟨b44, h⟩ := rd_some h
    refine r_ia E hw 84 24 (by decide) (by decide) (by decide) rfl rfl b44 dX10_thief_165 ?_
    refine r_min E hl.1 lm_RX10_244 (by decide) (Nat.le_of_ble_eq_true rfl) dX10_thief_166 ?_
    obtain ⟨y45, ey45, h⟩ := lt_some h
    refine lv_eqi ey45 ?_
    refine lv_istore (lv' := [(4, .int y45), (0, .ref (G.2.2 22)), (2, .int y37), (3, .int y38), (5, .int y40)]) hx hb dX10_thief_169 hl (by decide) rfl (fun ls hl => ?_)
    obtain ⟨y46, ey46, h⟩ := lt_some h
    refine lv_iinc (v := y46) (lv' := [(5, .int y46), (4, .int y45), (0, .ref (G.2.2 22)), (2, .int y37), (3, .int y38)]) hx hb dX10_thief_171 hl (k := 4) rfl (by rw [ey46]; rfl) (by decide) rfl (fun ls hl => ?_)
    refine lv_goto (tgt := 103) hx hb dX10_thief_174 (by decide) ?_
    exact kc (V43, y37, y38, y45, y46) (Option.some.inj h).symm H locs ls hw (lv_sub hl [2, 3, 4, 1, 0] rfl)
set_option maxHeartbeats 4000000 in
set_option maxRecDepth 100000 in
theorem wX10_thief_j32 {p : Program} {l : Launch} {e : Env} {s : State} {m : MethodId} {args : Array Value} {below : List Frame} {meth : Method} {c : Code} {G : GT} {B : BGt} {Q : State → Prop} (E : En p s m args c meth cX10_thief 7 RX10 (some .int) G B) {V : VT} {u1 : Int32} {u2 : Int32} {u3 : Int32} {t0 : Int32} {r : (Int32 × VT)} (h : fX10_thief_j32 V u1 u2 u3 t0 = some r) (kr : Q = MQ below (QI G s.heap.size r.1 r.2) args s 0 0 (gA G s.heap.size)) {H : Heap} {locs : List Loc} {ls : Array Slot} (hw : HW G s.heap V H locs) (hl : lv_has ls 7 [(0, .ref (G.2.2 22)), (1, .int u1), (2, .int u2), (3, .int u3)]) : W p l e (rmD 14) s m args below meth c H locs 0 0 Q (F0 m 32 ls [.int t0, .ref (G.2.2 22)]) := by
  have hx := en_x E
  have hb := en_b E
  have hB := en_B E
  unfold fX10_thief_j32 at h
  refine lv_iconst (v := (1 : Int32)) hx hb dX10_thief_32 (by decide) ?_
  obtain ⟨y5, V6, h4, h⟩ := ob_I_some h
  refine c_VI E hw (kX10_throwsIf (l := l) (G := G) hB  h4) yy_X10_throwsIf lm_RX10_233 rfl (by decide) rfl rfl hl.1 (by decide) (by decide) rfl (Nat.le_of_ble_eq_true rfl) dX10_thief_33 (fun H locs hw => ?_)
  refine lv_if_eq (tgt := 41) hx hb dX10_thief_36 (by decide) (fun c50 => ?_) (fun c50 => ?_)
  · rw [if_pos c50] at h
    refine lv_aload_n hx hb dX10_thief_41 rfl (lv_at hl 0 rfl) ?_
    refine lv_iload_n hx hb dX10_thief_42 rfl (lv_at hl 3 rfl) ?_
    obtain ⟨V8, h7, h⟩ := ob_R_some h
    refine c_VV E hw (kX10_laysSights (l := l) (G := G) hB  h7) yy_X10_laysSights lm_RX10_332 rfl (by decide) rfl rfl hl.1 (by decide) (by decide) rfl (Nat.le_of_ble_eq_true rfl) dX10_thief_43 (fun H locs hw => ?_)
    refine lv_iconst (v := (0 : Int32)) hx hb dX10_thief_46 (by decide) ?_
    refine lv_istore (lv' := [(4, .int (0 : Int32)), (0, .ref (G.2.2 22)), (1, .int u1), (2, .int u2), (3, .int u3)]) hx hb dX10_thief_47 hl (by decide) rfl (fun ls hl => ?_)
    obtain ⟨x19, h18, h⟩ := ob_R_some h
    obtain ⟨V22, y20, y21⟩ := x19
    refine wX10_thief_L49 E (fun q e H locs ls hw hl => ?_) FV (V8, u1, u2, u3, (0 : Int32)) h18 H locs ls hw (lv_sub hl [1, 2, 3, 4, 0] rfl)
    subst e
    have hw : HW G s.heap V22 H locs := hw
    have hl : lv_has ls 7 [(0, .ref (G.2.2 22)), (2, .int y20), (3, .int y21)] := hl
    have h := dt3_eq h
    refine lv_aload_n hx hb dX10_thief_88 rfl (lv_at hl 0 rfl) ?_
    obtain ⟨V24, h23, h⟩ := ob_R_some h
    refine c_VV E hw (kX10_goesAlong (l := l) (G := G) hB  h23) yy_X10_goesAlong lm_RX10_337 rfl (by decide) rfl rfl hl.1 (by decide) (by decide) rfl (Nat.le_of_ble_eq_true rfl) dX10_thief_89 (fun H locs hw => ?_)
    refine lv_aload_n hx hb dX10_thief_92 rfl (lv_at hl 0 rfl) ?_
    refine r_gr E hw 22 25 84 (N := 29) (C := RX10) (T := TX10) (by decide) rfl rfl (by decide) rfl iw_10 rfl lf_RX10_42 dX10_thief_93 ?_
    refine lv_iload_n hx hb dX10_thief_96 rfl (lv_at hl 1 rfl) ?_
    obtain ⟨b25, h⟩ := rd_some h
    refine r_ia E hw 84 24 (by decide) (by decide) (by decide) rfl rfl b25 dX10_thief_97 ?_
    obtain ⟨y26, ey26, h⟩ := lt_some h
    refine lv_eqi ey26 ?_
    refine lv_istore (lv' := [(4, .int y26), (0, .ref (G.2.2 22)), (2, .int y20), (3, .int y21)]) hx hb dX10_thief_98 hl (by decide) rfl (fun ls hl => ?_)
    refine lv_iconst (v := (1 : Int32)) hx hb dX10_thief_100 (by decide) ?_
    refine lv_istore (lv' := [(5, .int (1 : Int32)), (4, .int y26), (0, .ref (G.2.2 22)), (2, .int y20), (3, .int y21)]) hx hb dX10_thief_101 hl (by decide) rfl (fun ls hl => ?_)
    obtain ⟨x49, h48, h⟩ := ob_R_some h
    have h := Option.some.inj h
    subst h
    exact wX10_thief_L103 E (fun q e => by subst e; exact kr) FV (V24, y20, y21, y26, (1 : Int32)) h48 H locs ls hw (lv_sub hl [2, 3, 4, 1, 0] rfl)
  · rw [if_neg c50] at h
    refine lv_iconst (v := (0 : Int32)) hx hb dX10_thief_39 (by decide) ?_
    have h := Option.some.inj h
    subst h
    rw [kr]
    exact r_ri E hw dX10_thief_40
set_option maxHeartbeats 4000000 in
set_option maxRecDepth 100000 in
theorem wX10_thief_j27 {p : Program} {l : Launch} {e : Env} {s : State} {m : MethodId} {args : Array Value} {below : List Frame} {meth : Method} {c : Code} {G : GT} {B : BGt} {Q : State → Prop} (E : En p s m args c meth cX10_thief 7 RX10 (some .int) G B) {V : VT} {u1 : Int32} {u2 : Int32} {u3 : Int32} {r : (Int32 × VT)} (h : fX10_thief_j27 V u1 u2 u3 = some r) (kr : Q = MQ below (QI G s.heap.size r.1 r.2) args s 0 0 (gA G s.heap.size)) {H : Heap} {locs : List Loc} {ls : Array Slot} (hw : HW G s.heap V H locs) (hl : lv_has ls 7 [(0, .ref (G.2.2 22)), (1, .int u1), (2, .int u2), (3, .int u3)]) : W p l e (rmD 14) s m args below meth c H locs 0 0 Q (F0 m 27 ls [.ref (G.2.2 22)]) := by
  have hx := en_x E
  have hb := en_b E
  have hB := en_B E
  unfold fX10_thief_j27 at h
  refine lv_iconst (v := (1 : Int32)) hx hb dX10_thief_27 (by decide) ?_
  refine lv_goto (tgt := 32) hx hb dX10_thief_28 (by decide) ?_
  exact wX10_thief_j32 E h kr hw (lv_sub hl [0, 1, 2, 3] rfl)
set_option maxHeartbeats 4000000 in
set_option maxRecDepth 100000 in
theorem kX10_thief {l : Launch} {G : GT} {B : BGt} (hB : BGok B) {V : VT} {x1 : Int32} {x2 : Int32} {x3 : Int32} {r : (Int32 × VT)} (h : fX10_thief V x1 x2 x3 = some r) : CI l G B yX10_thief (.code yX10_thief cX10_thief 7 (some .int)) 14 [.ref (G.2.2 22), .int x1, .int x2, .int x3] V r.1 r.2 := by
  intro sz
  refine met_of (Qs := fun sz => QI G sz (r.1) (r.2)) hB (by decide) (Nat.le_of_ble_eq_true rfl) ?_ sz
  intro p e s m args below meth c ls E hw hl
  have hx := en_x E
  have hb := en_b E
  generalize hQ : MQ _ _ _ _ _ _ _ = Q
  have kr : Q = MQ below (QI G s.heap.size r.1 r.2) args s 0 0 (gA G s.heap.size) := hQ.symm
  have hl : lv_has ls 7 [(0, .ref (G.2.2 22)), (1, .int x1), (2, .int x2), (3, .int x3)] := hl
  obtain ⟨H, eH⟩ : ∃ H, H = s.heap := ⟨_, rfl⟩
  obtain ⟨locs, elocs⟩ : ∃ z : List Loc, z = [] := ⟨_, rfl⟩
  have hw : HW G s.heap V H locs := by rw [eH, elocs]; exact hw
  show W p l e _ s m args below meth c s.heap [] 0 0 Q (F0 m 0 ls [])
  rw [← eH, ← elocs]
  unfold fX10_thief at h
  refine lv_aload_n hx hb dX10_thief_0 rfl (lv_at hl 0 rfl) ?_
  refine lv_iconst (v := (0 : Int32)) hx hb dX10_thief_1 (by decide) ?_
  obtain ⟨V1, eV1, h⟩ := lt_some h
  refine r_pi E hw 22 0 (N := 29) (C := RX10) (T := TX10) (ty0 := tyX10) (ty := .int) (by decide) rfl rfl (by decide) rfl iw_10 rfl tyX10_ok nmX10 rfl rfl (vp_nar_int _) rfl lf_RX10_3 eV1 dX10_thief_2 (fun H locs hw => ?_)
  refine lv_aload_n hx hb dX10_thief_5 rfl (lv_at hl 0 rfl) ?_
  refine lv_iload_n hx hb dX10_thief_6 rfl (lv_at hl 1 rfl) ?_
  obtain ⟨y3, h2, h⟩ := ob_R_some h
  refine c_SI E hw (kX10_noPlace (l := l) (G := G) hB  h2) yy_X10_noPlace lm_RX10_312 rfl hl.1 (by decide) (by decide) rfl (Nat.le_of_ble_eq_true rfl) dX10_thief_7 (fun H locs hw => ?_)
  refine lv_if_ne (tgt := 27) hx hb dX10_thief_10 (by decide) (fun c57 => ?_) (fun c57 => ?_)
  · rw [if_neg c57] at h
    exact wX10_thief_j27 E h kr hw (lv_sub hl [0, 1, 2, 3] rfl)
  · rw [if_pos c57] at h
    refine lv_iload_n hx hb dX10_thief_13 rfl (lv_at hl 2 rfl) ?_
    obtain ⟨y52, h51, h⟩ := ob_R_some h
    refine c_SI E hw (kX10_noPlace (l := l) (G := G) hB  h51) yy_X10_noPlace lm_RX10_312 rfl hl.1 (by decide) (by decide) rfl (Nat.le_of_ble_eq_true rfl) dX10_thief_14 (fun H locs hw => ?_)
    refine lv_if_ne (tgt := 27) hx hb dX10_thief_17 (by decide) (fun c56 => ?_) (fun c56 => ?_)
    · rw [if_neg c56] at h
      exact wX10_thief_j27 E h kr hw (lv_sub hl [0, 1, 2, 3] rfl)
    · rw [if_pos c56] at h
      refine lv_iload_n hx hb dX10_thief_20 rfl (lv_at hl 3 rfl) ?_
      obtain ⟨y54, h53, h⟩ := ob_R_some h
      refine c_SI E hw (kX10_noHour (l := l) (G := G) hB  h53) yy_X10_noHour lm_RX10_315 rfl hl.1 (by decide) (by decide) rfl (Nat.le_of_ble_eq_true rfl) dX10_thief_21 (fun H locs hw => ?_)
      refine lv_if_eq (tgt := 31) hx hb dX10_thief_24 (by decide) (fun c55 => ?_) (fun c55 => ?_)
      · rw [if_pos c55] at h
        refine lv_iconst (v := (0 : Int32)) hx hb dX10_thief_31 (by decide) ?_
        exact wX10_thief_j32 E h kr hw (lv_sub hl [0, 1, 2, 3] rfl)
      · rw [if_neg c55] at h
        exact wX10_thief_j27 E h kr hw (lv_sub hl [0, 1, 2, 3] rfl)
