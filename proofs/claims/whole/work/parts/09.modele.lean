/-! ===== AllSawItModel.laysEyes(I)V ===== -/
theorem dX10_laysEyes_0 : decode cX10_laysEyes 0 = .ok (.iconst 0, 1) := by decide +kernel
theorem dX10_laysEyes_1 : decode cX10_laysEyes 1 = .ok (.istore_n 2, 1) := by decide +kernel
theorem dX10_laysEyes_2 : decode cX10_laysEyes 2 = .ok (.iload_n 2, 1) := by decide +kernel
theorem dX10_laysEyes_3 : decode cX10_laysEyes 3 = .ok (.aload_n 0, 1) := by decide +kernel
theorem dX10_laysEyes_4 : decode cX10_laysEyes 4 = .ok (.invokevirtual 62, 3) := by decide +kernel
theorem dX10_laysEyes_7 : decode cX10_laysEyes 7 = .ok (.if_icmp .ge 62, 3) := by decide +kernel
theorem dX10_laysEyes_10 : decode cX10_laysEyes 10 = .ok (.aload_n 0, 1) := by decide +kernel
theorem dX10_laysEyes_11 : decode cX10_laysEyes 11 = .ok (.getfield 48, 3) := by decide +kernel
theorem dX10_laysEyes_14 : decode cX10_laysEyes 14 = .ok (.iload_n 2, 1) := by decide +kernel
theorem dX10_laysEyes_15 : decode cX10_laysEyes 15 = .ok (.iconst 0, 1) := by decide +kernel
theorem dX10_laysEyes_16 : decode cX10_laysEyes 16 = .ok (.iastore, 1) := by decide +kernel
theorem dX10_laysEyes_17 : decode cX10_laysEyes 17 = .ok (.iconst 0, 1) := by decide +kernel
theorem dX10_laysEyes_18 : decode cX10_laysEyes 18 = .ok (.istore_n 3, 1) := by decide +kernel
theorem dX10_laysEyes_19 : decode cX10_laysEyes 19 = .ok (.iload_n 3, 1) := by decide +kernel
theorem dX10_laysEyes_20 : decode cX10_laysEyes 20 = .ok (.bipush 24, 2) := by decide +kernel
theorem dX10_laysEyes_22 : decode cX10_laysEyes 22 = .ok (.if_icmp .ge 41, 3) := by decide +kernel
theorem dX10_laysEyes_25 : decode cX10_laysEyes 25 = .ok (.aload_n 0, 1) := by decide +kernel
theorem dX10_laysEyes_26 : decode cX10_laysEyes 26 = .ok (.getfield 48, 3) := by decide +kernel
theorem dX10_laysEyes_29 : decode cX10_laysEyes 29 = .ok (.iload_n 2, 1) := by decide +kernel
theorem dX10_laysEyes_30 : decode cX10_laysEyes 30 = .ok (.dup2, 1) := by decide +kernel
theorem dX10_laysEyes_31 : decode cX10_laysEyes 31 = .ok (.iaload, 1) := by decide +kernel
theorem dX10_laysEyes_32 : decode cX10_laysEyes 32 = .ok (.aload_n 0, 1) := by decide +kernel
theorem dX10_laysEyes_33 : decode cX10_laysEyes 33 = .ok (.iload_n 2, 1) := by decide +kernel
theorem dX10_laysEyes_34 : decode cX10_laysEyes 34 = .ok (.iload_n 3, 1) := by decide +kernel
theorem dX10_laysEyes_35 : decode cX10_laysEyes 35 = .ok (.iload_n 1, 1) := by decide +kernel
theorem dX10_laysEyes_36 : decode cX10_laysEyes 36 = .ok (.aload_n 0, 1) := by decide +kernel
theorem dX10_laysEyes_37 : decode cX10_laysEyes 37 = .ok (.getfield 13, 3) := by decide +kernel
theorem dX10_laysEyes_40 : decode cX10_laysEyes 40 = .ok (.iconst 5, 1) := by decide +kernel
theorem dX10_laysEyes_41 : decode cX10_laysEyes 41 = .ok (.iaload, 1) := by decide +kernel
theorem dX10_laysEyes_42 : decode cX10_laysEyes 42 = .ok (.invokevirtual 301, 3) := by decide +kernel
theorem dX10_laysEyes_45 : decode cX10_laysEyes 45 = .ok (.ifCond .eq 9, 3) := by decide +kernel
theorem dX10_laysEyes_48 : decode cX10_laysEyes 48 = .ok (.iconst 1, 1) := by decide +kernel
theorem dX10_laysEyes_49 : decode cX10_laysEyes 49 = .ok (.iload_n 3, 1) := by decide +kernel
theorem dX10_laysEyes_50 : decode cX10_laysEyes 50 = .ok (.ishl, 1) := by decide +kernel
theorem dX10_laysEyes_51 : decode cX10_laysEyes 51 = .ok (.goto 4, 3) := by decide +kernel
theorem dX10_laysEyes_54 : decode cX10_laysEyes 54 = .ok (.iconst 0, 1) := by decide +kernel
theorem dX10_laysEyes_55 : decode cX10_laysEyes 55 = .ok (.ior, 1) := by decide +kernel
theorem dX10_laysEyes_56 : decode cX10_laysEyes 56 = .ok (.iastore, 1) := by decide +kernel
theorem dX10_laysEyes_57 : decode cX10_laysEyes 57 = .ok (.iinc 3 1, 3) := by decide +kernel
theorem dX10_laysEyes_60 : decode cX10_laysEyes 60 = .ok (.goto (-41), 3) := by decide +kernel
theorem dX10_laysEyes_63 : decode cX10_laysEyes 63 = .ok (.iinc 2 1, 3) := by decide +kernel
theorem dX10_laysEyes_66 : decode cX10_laysEyes 66 = .ok (.goto (-64), 3) := by decide +kernel
theorem dX10_laysEyes_69 : decode cX10_laysEyes 69 = .ok (.return_, 1) := by decide +kernel
noncomputable def fX10_laysEyes_L19 (V : VT) (u1 : Int32) (u2 : Int32) (u3 : Int32) : Option ((VT × Int32 × Int32 × Int32) ⊕ (VT × Int32 × Int32)) := if (24 : Int32) ≤ u3 then (some (.inr ((V, u1, u2)))) else (rd_ u2 8 (rd_ (5 : Int32) 1988 (ob_I (fX10_doesSee V u2 u3 u1 (V 76 (5 : Int32).toNatClampNeg)) fun y8 V9 => if y8 = 0 then (rd_ u2 8 (lt_ (va_up V9 86 (upd (V9 86) u2.toNatClampNeg ((V 86 u2.toNatClampNeg) ||| (0 : Int32)))) fun V11 => lt_ (u3 + (1 : Int32)) fun y12 => some (.inl (V11, u1, u2, y12)))) else (rd_ u2 8 (lt_ (va_up V9 86 (upd (V9 86) u2.toNatClampNeg ((V 86 u2.toNatClampNeg) ||| ((1 : Int32) <<< (u3 &&& 31))))) fun V14 => lt_ (u3 + (1 : Int32)) fun y15 => some (.inl (V14, u1, u2, y15)))))))
noncomputable def iX10_laysEyes_L19 : (VT × Int32 × Int32 × Int32) → Option ((VT × Int32 × Int32 × Int32) ⊕ (VT × Int32 × Int32)) := fun q => fX10_laysEyes_L19 (q.1) (q.2.1) (q.2.2.1) (q.2.2.2)
noncomputable def fX10_laysEyes_L2 (V : VT) (u1 : Int32) (u2 : Int32) : Option ((VT × Int32 × Int32) ⊕ VT) := ob_R (fX10_houses V ) fun y2 => if y2 ≤ u2 then (some (.inr (V))) else (rd_ u2 8 (lt_ (va_up V 86 (upd (V 86) u2.toNatClampNeg (0 : Int32))) fun V4 => ob_R (it_ (iX10_laysEyes_L19) FV (V4, u1, u2, (0 : Int32))) fun x19 => (dt3_ x19 fun V22 y20 y21 => lt_ (y21 + (1 : Int32)) fun y23 => some (.inl (V22, y20, y23)))))
noncomputable def iX10_laysEyes_L2 : (VT × Int32 × Int32) → Option ((VT × Int32 × Int32) ⊕ VT) := fun q => fX10_laysEyes_L2 (q.1) (q.2.1) (q.2.2)
noncomputable def fX10_laysEyes (V : VT) (x1 : Int32) : Option VT := ob_R (it_ (iX10_laysEyes_L2) FV (V, x1, (0 : Int32))) fun x26 => some x26
set_option maxHeartbeats 4000000 in
set_option maxRecDepth 100000 in
theorem wX10_laysEyes_L19 {p : Program} {l : Launch} {e : Env} {s : State} {m : MethodId} {args : Array Value} {below : List Frame} {meth : Method} {c : Code} {G : GT} {B : BGt} {Q : State → Prop} (E : En p s m args c meth cX10_laysEyes 4 RX10 none G B) {x : (VT × Int32 × Int32)} (ke : ∀ q : (VT × Int32 × Int32), x = q → ∀ (H : Heap) (locs : List Loc) (ls : Array Slot), HW G s.heap (q.1) H locs → lv_has ls 4 [(0, .ref (G.2.2 22)), (1, .int (q.2.1)), (2, .int (q.2.2))] → W p l e (rmD 11) s m args below meth c H locs 0 0 Q (F0 m 63 ls [])) : ∀ (n : Nat) (q : (VT × Int32 × Int32 × Int32)), it_ (iX10_laysEyes_L19) n q = some x → ∀ (H : Heap) (locs : List Loc) (ls : Array Slot), HW G s.heap (q.1) H locs → lv_has ls 4 [(0, .ref (G.2.2 22)), (1, .int (q.2.1)), (2, .int (q.2.2.1)), (3, .int (q.2.2.2))] → W p l e (rmD 11) s m args below meth c H locs 0 0 Q (F0 m 19 ls []) := by
  have hx := en_x E
  have hb := en_b E
  have hB := en_B E
  refine it_W (fun q : (VT × Int32 × Int32 × Int32) => ∀ (H : Heap) (locs : List Loc) (ls : Array Slot), HW G s.heap (q.1) H locs → lv_has ls 4 [(0, .ref (G.2.2 22)), (1, .int (q.2.1)), (2, .int (q.2.2.1)), (3, .int (q.2.2.2))] → W p l e (rmD 11) s m args below meth c H locs 0 0 Q (F0 m 19 ls [])) x ?_
  intro q r h kc kx
  obtain ⟨V, u1, u2, u3⟩ := q
  intro H locs ls hw hl
  have h : fX10_laysEyes_L19 V u1 u2 u3 = some r := h
  have hw : HW G s.heap V H locs := hw
  have hl : lv_has ls 4 [(0, .ref (G.2.2 22)), (1, .int u1), (2, .int u2), (3, .int u3)] := hl
  have ke : ∀ q : (VT × Int32 × Int32), r = .inr (q) → ∀ (H : Heap) (locs : List Loc) (ls : Array Slot), HW G s.heap (q.1) H locs → lv_has ls 4 [(0, .ref (G.2.2 22)), (1, .int (q.2.1)), (2, .int (q.2.2))] → W p l e (rmD 11) s m args below meth c H locs 0 0 Q (F0 m 63 ls []) := fun q e => ke q (kx _ e).symm
  unfold fX10_laysEyes_L19 at h
  refine lv_iload_n hx hb dX10_laysEyes_19 rfl (lv_at hl 3 rfl) ?_
  refine lv_bipush (v := (24 : Int32)) hx hb dX10_laysEyes_20 (by decide) ?_
  refine lv_icmp_ge (tgt := 63) hx hb dX10_laysEyes_22 (by decide) (fun c17 => ?_) (fun c17 => ?_)
  · rw [if_pos c17] at h
    exact ke (V, u1, u2) (Option.some.inj h).symm H locs ls hw (lv_sub hl [0, 1, 2] rfl)
  · rw [if_neg c17] at h
    refine lv_aload_n hx hb dX10_laysEyes_25 rfl (lv_at hl 0 rfl) ?_
    refine r_gr E hw 22 27 86 (N := 29) (C := RX10) (T := TX10) (by decide) rfl rfl (by decide) rfl iw_10 rfl lf_RX10_48 dX10_laysEyes_26 ?_
    refine lv_iload_n hx hb dX10_laysEyes_29 rfl (lv_at hl 2 rfl) ?_
    refine lv_dup2_11 hx hb dX10_laysEyes_30 rfl rfl ?_
    obtain ⟨b5, h⟩ := rd_some h
    refine r_ia E hw 86 8 (by decide) (by decide) (by decide) rfl rfl b5 dX10_laysEyes_31 ?_
    refine lv_aload_n hx hb dX10_laysEyes_32 rfl (lv_at hl 0 rfl) ?_
    refine lv_iload_n hx hb dX10_laysEyes_33 rfl (lv_at hl 2 rfl) ?_
    refine lv_iload_n hx hb dX10_laysEyes_34 rfl (lv_at hl 3 rfl) ?_
    refine lv_iload_n hx hb dX10_laysEyes_35 rfl (lv_at hl 1 rfl) ?_
    refine lv_aload_n hx hb dX10_laysEyes_36 rfl (lv_at hl 0 rfl) ?_
    refine r_gr E hw 22 1 76 (N := 29) (C := RX10) (T := TX10) (by decide) rfl rfl (by decide) rfl iw_10 rfl lf_RX10_13 dX10_laysEyes_37 ?_
    refine lv_iconst (v := (5 : Int32)) hx hb dX10_laysEyes_40 (by decide) ?_
    obtain ⟨b6, h⟩ := rd_some h
    refine r_ia E hw 76 1988 (by decide) (by decide) (by decide) rfl rfl b6 dX10_laysEyes_41 ?_
    obtain ⟨y8, V9, h7, h⟩ := ob_I_some h
    refine c_VI E hw (kX10_doesSee (l := l) (G := G) hB  h7) yy_X10_doesSee lm_RX10_301 rfl (by decide) rfl rfl hl.1 (by decide) (by decide) rfl (Nat.le_of_ble_eq_true rfl) dX10_laysEyes_42 (fun H locs hw => ?_)
    refine lv_if_eq (tgt := 54) hx hb dX10_laysEyes_45 (by decide) (fun c16 => ?_) (fun c16 => ?_)
    · rw [if_pos c16] at h
      refine lv_iconst (v := (0 : Int32)) hx hb dX10_laysEyes_54 (by decide) ?_
      refine lv_ior hx hb dX10_laysEyes_55 ?_
      obtain ⟨b10, h⟩ := rd_some h
      obtain ⟨V11, eV11, h⟩ := lt_some h
      refine r_is E hw 86 8 (by decide) (by decide) (by decide) rfl rfl b10 eV11 dX10_laysEyes_56 (fun H locs hw => ?_)
      obtain ⟨y12, ey12, h⟩ := lt_some h
      refine lv_iinc (v := y12) (lv' := [(3, .int y12), (0, .ref (G.2.2 22)), (1, .int u1), (2, .int u2)]) hx hb dX10_laysEyes_57 hl (k := 3) rfl (by rw [ey12]; rfl) (by decide) rfl (fun ls hl => ?_)
      refine lv_goto (tgt := 19) hx hb dX10_laysEyes_60 (by decide) ?_
      exact kc (V11, u1, u2, y12) (Option.some.inj h).symm H locs ls hw (lv_sub hl [1, 2, 3, 0] rfl)
    · rw [if_neg c16] at h
      refine lv_iconst (v := (1 : Int32)) hx hb dX10_laysEyes_48 (by decide) ?_
      refine lv_iload_n hx hb dX10_laysEyes_49 rfl (lv_at hl 3 rfl) ?_
      refine lv_ishl hx hb dX10_laysEyes_50 ?_
      refine lv_goto (tgt := 55) hx hb dX10_laysEyes_51 (by decide) ?_
      refine lv_ior hx hb dX10_laysEyes_55 ?_
      obtain ⟨b13, h⟩ := rd_some h
      obtain ⟨V14, eV14, h⟩ := lt_some h
      refine r_is E hw 86 8 (by decide) (by decide) (by decide) rfl rfl b13 eV14 dX10_laysEyes_56 (fun H locs hw => ?_)
      obtain ⟨y15, ey15, h⟩ := lt_some h
      refine lv_iinc (v := y15) (lv' := [(3, .int y15), (0, .ref (G.2.2 22)), (1, .int u1), (2, .int u2)]) hx hb dX10_laysEyes_57 hl (k := 3) rfl (by rw [ey15]; rfl) (by decide) rfl (fun ls hl => ?_)
      refine lv_goto (tgt := 19) hx hb dX10_laysEyes_60 (by decide) ?_
      exact kc (V14, u1, u2, y15) (Option.some.inj h).symm H locs ls hw (lv_sub hl [1, 2, 3, 0] rfl)
set_option maxHeartbeats 4000000 in
set_option maxRecDepth 100000 in
theorem wX10_laysEyes_L2 {p : Program} {l : Launch} {e : Env} {s : State} {m : MethodId} {args : Array Value} {below : List Frame} {meth : Method} {c : Code} {G : GT} {B : BGt} {Q : State → Prop} (E : En p s m args c meth cX10_laysEyes 4 RX10 none G B) {x : VT} (kr : ∀ q : VT, x = q → Q = MQ below (QV G s.heap.size q) args s 0 0 (gA G s.heap.size)) : ∀ (n : Nat) (q : (VT × Int32 × Int32)), it_ (iX10_laysEyes_L2) n q = some x → ∀ (H : Heap) (locs : List Loc) (ls : Array Slot), HW G s.heap (q.1) H locs → lv_has ls 4 [(0, .ref (G.2.2 22)), (1, .int (q.2.1)), (2, .int (q.2.2))] → W p l e (rmD 11) s m args below meth c H locs 0 0 Q (F0 m 2 ls []) := by
  have hx := en_x E
  have hb := en_b E
  have hB := en_B E
  refine it_W (fun q : (VT × Int32 × Int32) => ∀ (H : Heap) (locs : List Loc) (ls : Array Slot), HW G s.heap (q.1) H locs → lv_has ls 4 [(0, .ref (G.2.2 22)), (1, .int (q.2.1)), (2, .int (q.2.2))] → W p l e (rmD 11) s m args below meth c H locs 0 0 Q (F0 m 2 ls [])) x ?_
  intro q r h kc kx
  obtain ⟨V, u1, u2⟩ := q
  intro H locs ls hw hl
  have h : fX10_laysEyes_L2 V u1 u2 = some r := h
  have hw : HW G s.heap V H locs := hw
  have hl : lv_has ls 4 [(0, .ref (G.2.2 22)), (1, .int u1), (2, .int u2)] := hl
  have kr : ∀ q : VT, r = .inr (q) → Q = MQ below (QV G s.heap.size q) args s 0 0 (gA G s.heap.size) := fun q e => kr q (kx _ e).symm
  unfold fX10_laysEyes_L2 at h
  refine lv_iload_n hx hb dX10_laysEyes_2 rfl (lv_at hl 2 rfl) ?_
  refine lv_aload_n hx hb dX10_laysEyes_3 rfl (lv_at hl 0 rfl) ?_
  obtain ⟨y2, h1, h⟩ := ob_R_some h
  refine c_VI E hw (kX10_houses (l := l) (G := G) hB  h1) yy_X10_houses lm_RX10_62 rfl (by decide) rfl rfl hl.1 (by decide) (by decide) rfl (Nat.le_of_ble_eq_true rfl) dX10_laysEyes_4 (fun H locs hw => ?_)
  refine lv_icmp_ge (tgt := 69) hx hb dX10_laysEyes_7 (by decide) (fun c24 => ?_) (fun c24 => ?_)
  · rw [if_pos c24] at h
    rw [kr V (Option.some.inj h).symm]
    exact r_rv E hw dX10_laysEyes_69
  · rw [if_neg c24] at h
    refine lv_aload_n hx hb dX10_laysEyes_10 rfl (lv_at hl 0 rfl) ?_
    refine r_gr E hw 22 27 86 (N := 29) (C := RX10) (T := TX10) (by decide) rfl rfl (by decide) rfl iw_10 rfl lf_RX10_48 dX10_laysEyes_11 ?_
    refine lv_iload_n hx hb dX10_laysEyes_14 rfl (lv_at hl 2 rfl) ?_
    refine lv_iconst (v := (0 : Int32)) hx hb dX10_laysEyes_15 (by decide) ?_
    obtain ⟨b3, h⟩ := rd_some h
    obtain ⟨V4, eV4, h⟩ := lt_some h
    refine r_is E hw 86 8 (by decide) (by decide) (by decide) rfl rfl b3 eV4 dX10_laysEyes_16 (fun H locs hw => ?_)
    refine lv_iconst (v := (0 : Int32)) hx hb dX10_laysEyes_17 (by decide) ?_
    refine lv_istore_n (lv' := [(3, .int (0 : Int32)), (0, .ref (G.2.2 22)), (1, .int u1), (2, .int u2)]) hx hb dX10_laysEyes_18 rfl hl (by decide) rfl (fun ls hl => ?_)
    obtain ⟨x19, h18, h⟩ := ob_R_some h
    obtain ⟨V22, y20, y21⟩ := x19
    refine wX10_laysEyes_L19 E (fun q e H locs ls hw hl => ?_) FV (V4, u1, u2, (0 : Int32)) h18 H locs ls hw (lv_sub hl [1, 2, 3, 0] rfl)
    subst e
    have hw : HW G s.heap V22 H locs := hw
    have hl : lv_has ls 4 [(0, .ref (G.2.2 22)), (1, .int y20), (2, .int y21)] := hl
    have h := dt3_eq h
    obtain ⟨y23, ey23, h⟩ := lt_some h
    refine lv_iinc (v := y23) (lv' := [(2, .int y23), (0, .ref (G.2.2 22)), (1, .int y20)]) hx hb dX10_laysEyes_63 hl (k := 2) rfl (by rw [ey23]; rfl) (by decide) rfl (fun ls hl => ?_)
    refine lv_goto (tgt := 2) hx hb dX10_laysEyes_66 (by decide) ?_
    exact kc (V22, y20, y23) (Option.some.inj h).symm H locs ls hw (lv_sub hl [1, 2, 0] rfl)
set_option maxHeartbeats 4000000 in
set_option maxRecDepth 100000 in
theorem kX10_laysEyes {l : Launch} {G : GT} {B : BGt} (hB : BGok B) {V : VT} {x1 : Int32} {r : VT} (h : fX10_laysEyes V x1 = some r) : CV l G B yX10_laysEyes (.code yX10_laysEyes cX10_laysEyes 4 none) 11 [.ref (G.2.2 22), .int x1] V r := by
  intro sz
  refine met_of (Qs := fun sz => QV G sz r) hB (by decide) (Nat.le_of_ble_eq_true rfl) ?_ sz
  intro p e s m args below meth c ls E hw hl
  have hx := en_x E
  have hb := en_b E
  generalize hQ : MQ _ _ _ _ _ _ _ = Q
  have kr : Q = MQ below (QV G s.heap.size r) args s 0 0 (gA G s.heap.size) := hQ.symm
  have hl : lv_has ls 4 [(0, .ref (G.2.2 22)), (1, .int x1)] := hl
  obtain ⟨H, eH⟩ : ∃ H, H = s.heap := ⟨_, rfl⟩
  obtain ⟨locs, elocs⟩ : ∃ z : List Loc, z = [] := ⟨_, rfl⟩
  have hw : HW G s.heap V H locs := by rw [eH, elocs]; exact hw
  show W p l e _ s m args below meth c s.heap [] 0 0 Q (F0 m 0 ls [])
  rw [← eH, ← elocs]
  unfold fX10_laysEyes at h
  refine lv_iconst (v := (0 : Int32)) hx hb dX10_laysEyes_0 (by decide) ?_
  refine lv_istore_n (lv' := [(2, .int (0 : Int32)), (0, .ref (G.2.2 22)), (1, .int x1)]) hx hb dX10_laysEyes_1 rfl hl (by decide) rfl (fun ls hl => ?_)
  obtain ⟨x26, h25, h⟩ := ob_R_some h
  have h := Option.some.inj h
  subst h
  exact wX10_laysEyes_L2 E (fun q e => by subst e; exact kr) FV (V, x1, (0 : Int32)) h25 H locs ls hw (lv_sub hl [1, 2, 0] rfl)
/-! ===== AllSawItModel.eyesOf(I)I ===== -/
theorem dX10_eyesOf_0 : decode cX10_eyesOf 0 = .ok (.iconst 0, 1) := by decide +kernel
theorem dX10_eyesOf_1 : decode cX10_eyesOf 1 = .ok (.istore_n 2, 1) := by decide +kernel
theorem dX10_eyesOf_2 : decode cX10_eyesOf 2 = .ok (.iconst 0, 1) := by decide +kernel
theorem dX10_eyesOf_3 : decode cX10_eyesOf 3 = .ok (.istore_n 3, 1) := by decide +kernel
theorem dX10_eyesOf_4 : decode cX10_eyesOf 4 = .ok (.iload_n 3, 1) := by decide +kernel
theorem dX10_eyesOf_5 : decode cX10_eyesOf 5 = .ok (.aload_n 0, 1) := by decide +kernel
theorem dX10_eyesOf_6 : decode cX10_eyesOf 6 = .ok (.invokevirtual 62, 3) := by decide +kernel
theorem dX10_eyesOf_9 : decode cX10_eyesOf 9 = .ok (.if_icmp .ge 30, 3) := by decide +kernel
theorem dX10_eyesOf_12 : decode cX10_eyesOf 12 = .ok (.iload_n 2, 1) := by decide +kernel
theorem dX10_eyesOf_13 : decode cX10_eyesOf 13 = .ok (.iload_n 1, 1) := by decide +kernel
theorem dX10_eyesOf_14 : decode cX10_eyesOf 14 = .ok (.iload_n 3, 1) := by decide +kernel
theorem dX10_eyesOf_15 : decode cX10_eyesOf 15 = .ok (.invokestatic 346, 3) := by decide +kernel
theorem dX10_eyesOf_18 : decode cX10_eyesOf 18 = .ok (.ifCond .eq 12, 3) := by decide +kernel
theorem dX10_eyesOf_21 : decode cX10_eyesOf 21 = .ok (.aload_n 0, 1) := by decide +kernel
theorem dX10_eyesOf_22 : decode cX10_eyesOf 22 = .ok (.getfield 48, 3) := by decide +kernel
theorem dX10_eyesOf_25 : decode cX10_eyesOf 25 = .ok (.iload_n 3, 1) := by decide +kernel
theorem dX10_eyesOf_26 : decode cX10_eyesOf 26 = .ok (.iaload, 1) := by decide +kernel
theorem dX10_eyesOf_27 : decode cX10_eyesOf 27 = .ok (.goto 4, 3) := by decide +kernel
theorem dX10_eyesOf_30 : decode cX10_eyesOf 30 = .ok (.iconst 0, 1) := by decide +kernel
theorem dX10_eyesOf_31 : decode cX10_eyesOf 31 = .ok (.ior, 1) := by decide +kernel
theorem dX10_eyesOf_32 : decode cX10_eyesOf 32 = .ok (.istore_n 2, 1) := by decide +kernel
theorem dX10_eyesOf_33 : decode cX10_eyesOf 33 = .ok (.iinc 3 1, 3) := by decide +kernel
theorem dX10_eyesOf_36 : decode cX10_eyesOf 36 = .ok (.goto (-32), 3) := by decide +kernel
theorem dX10_eyesOf_39 : decode cX10_eyesOf 39 = .ok (.iload_n 2, 1) := by decide +kernel
theorem dX10_eyesOf_40 : decode cX10_eyesOf 40 = .ok (.ireturn, 1) := by decide +kernel
noncomputable def fX10_eyesOf_L4 (V : VT) (u1 : Int32) (u2 : Int32) (u3 : Int32) : Option ((Int32 × Int32 × Int32) ⊕ Int32) := ob_R (fX10_houses V ) fun y2 => if y2 ≤ u3 then (some (.inr (u2))) else (ob_R (fX10_has V u1 u3) fun y4 => if y4 = 0 then (lt_ (u2 ||| (0 : Int32)) fun y5 => lt_ (u3 + (1 : Int32)) fun y6 => some (.inl (u1, y5, y6))) else (rd_ u3 8 (lt_ (u2 ||| (V 86 u3.toNatClampNeg)) fun y8 => lt_ (u3 + (1 : Int32)) fun y9 => some (.inl (u1, y8, y9)))))
noncomputable def iX10_eyesOf_L4 (V : VT) : (Int32 × Int32 × Int32) → Option ((Int32 × Int32 × Int32) ⊕ Int32) := fun q => fX10_eyesOf_L4 V (q.1) (q.2.1) (q.2.2)
noncomputable def fX10_eyesOf (V : VT) (x1 : Int32) : Option Int32 := ob_R (it_ (iX10_eyesOf_L4 V) FV (x1, (0 : Int32), (0 : Int32))) fun x13 => some x13
set_option maxHeartbeats 4000000 in
set_option maxRecDepth 100000 in
theorem wX10_eyesOf_L4 {p : Program} {l : Launch} {e : Env} {s : State} {m : MethodId} {args : Array Value} {below : List Frame} {meth : Method} {c : Code} {G : GT} {B : BGt} {Q : State → Prop} (E : En p s m args c meth cX10_eyesOf 4 RX10 (some .int) G B) {V : VT} {x : Int32} (kr : ∀ q : Int32, x = q → Q = MQ below (QI G s.heap.size q V) args s 0 0 (gA G s.heap.size)) : ∀ (n : Nat) (q : (Int32 × Int32 × Int32)), it_ (iX10_eyesOf_L4 V) n q = some x → ∀ (H : Heap) (locs : List Loc) (ls : Array Slot), HW G s.heap V H locs → lv_has ls 4 [(0, .ref (G.2.2 22)), (1, .int (q.1)), (2, .int (q.2.1)), (3, .int (q.2.2))] → W p l e (rmD 3) s m args below meth c H locs 0 0 Q (F0 m 4 ls []) := by
  have hx := en_x E
  have hb := en_b E
  have hB := en_B E
  refine it_W (fun q : (Int32 × Int32 × Int32) => ∀ (H : Heap) (locs : List Loc) (ls : Array Slot), HW G s.heap V H locs → lv_has ls 4 [(0, .ref (G.2.2 22)), (1, .int (q.1)), (2, .int (q.2.1)), (3, .int (q.2.2))] → W p l e (rmD 3) s m args below meth c H locs 0 0 Q (F0 m 4 ls [])) x ?_
  intro q r h kc kx
  obtain ⟨u1, u2, u3⟩ := q
  intro H locs ls hw hl
  have h : fX10_eyesOf_L4 V u1 u2 u3 = some r := h
  have hw : HW G s.heap V H locs := hw
  have hl : lv_has ls 4 [(0, .ref (G.2.2 22)), (1, .int u1), (2, .int u2), (3, .int u3)] := hl
  have kr : ∀ q : Int32, r = .inr (q) → Q = MQ below (QI G s.heap.size q V) args s 0 0 (gA G s.heap.size) := fun q e => kr q (kx _ e).symm
  unfold fX10_eyesOf_L4 at h
  refine lv_iload_n hx hb dX10_eyesOf_4 rfl (lv_at hl 3 rfl) ?_
  refine lv_aload_n hx hb dX10_eyesOf_5 rfl (lv_at hl 0 rfl) ?_
  obtain ⟨y2, h1, h⟩ := ob_R_some h
  refine c_VI E hw (kX10_houses (l := l) (G := G) hB  h1) yy_X10_houses lm_RX10_62 rfl (by decide) rfl rfl hl.1 (by decide) (by decide) rfl (Nat.le_of_ble_eq_true rfl) dX10_eyesOf_6 (fun H locs hw => ?_)
  refine lv_icmp_ge (tgt := 39) hx hb dX10_eyesOf_9 (by decide) (fun c11 => ?_) (fun c11 => ?_)
  · rw [if_pos c11] at h
    refine lv_iload_n hx hb dX10_eyesOf_39 rfl (lv_at hl 2 rfl) ?_
    rw [kr u2 (Option.some.inj h).symm]
    exact r_ri E hw dX10_eyesOf_40
  · rw [if_neg c11] at h
    refine lv_iload_n hx hb dX10_eyesOf_12 rfl (lv_at hl 2 rfl) ?_
    refine lv_iload_n hx hb dX10_eyesOf_13 rfl (lv_at hl 1 rfl) ?_
    refine lv_iload_n hx hb dX10_eyesOf_14 rfl (lv_at hl 3 rfl) ?_
    obtain ⟨y4, h3, h⟩ := ob_R_some h
    refine c_SI E hw (kX10_has (l := l) (G := G) hB  h3) yy_X10_has lm_RX10_346 rfl hl.1 (by decide) (by decide) rfl (Nat.le_of_ble_eq_true rfl) dX10_eyesOf_15 (fun H locs hw => ?_)
    refine lv_if_eq (tgt := 30) hx hb dX10_eyesOf_18 (by decide) (fun c10 => ?_) (fun c10 => ?_)
    · rw [if_pos c10] at h
      refine lv_iconst (v := (0 : Int32)) hx hb dX10_eyesOf_30 (by decide) ?_
      refine lv_ior hx hb dX10_eyesOf_31 ?_
      obtain ⟨y5, ey5, h⟩ := lt_some h
      refine lv_eqi ey5 ?_
      refine lv_istore_n (lv' := [(2, .int y5), (0, .ref (G.2.2 22)), (1, .int u1), (3, .int u3)]) hx hb dX10_eyesOf_32 rfl hl (by decide) rfl (fun ls hl => ?_)
      obtain ⟨y6, ey6, h⟩ := lt_some h
      refine lv_iinc (v := y6) (lv' := [(3, .int y6), (2, .int y5), (0, .ref (G.2.2 22)), (1, .int u1)]) hx hb dX10_eyesOf_33 hl (k := 3) rfl (by rw [ey6]; rfl) (by decide) rfl (fun ls hl => ?_)
      refine lv_goto (tgt := 4) hx hb dX10_eyesOf_36 (by decide) ?_
      exact kc (u1, y5, y6) (Option.some.inj h).symm H locs ls hw (lv_sub hl [2, 3, 1, 0] rfl)
    · rw [if_neg c10] at h
      refine lv_aload_n hx hb dX10_eyesOf_21 rfl (lv_at hl 0 rfl) ?_
      refine r_gr E hw 22 27 86 (N := 29) (C := RX10) (T := TX10) (by decide) rfl rfl (by decide) rfl iw_10 rfl lf_RX10_48 dX10_eyesOf_22 ?_
      refine lv_iload_n hx hb dX10_eyesOf_25 rfl (lv_at hl 3 rfl) ?_
      obtain ⟨b7, h⟩ := rd_some h
      refine r_ia E hw 86 8 (by decide) (by decide) (by decide) rfl rfl b7 dX10_eyesOf_26 ?_
      refine lv_goto (tgt := 31) hx hb dX10_eyesOf_27 (by decide) ?_
      refine lv_ior hx hb dX10_eyesOf_31 ?_
      obtain ⟨y8, ey8, h⟩ := lt_some h
      refine lv_eqi ey8 ?_
      refine lv_istore_n (lv' := [(2, .int y8), (0, .ref (G.2.2 22)), (1, .int u1), (3, .int u3)]) hx hb dX10_eyesOf_32 rfl hl (by decide) rfl (fun ls hl => ?_)
      obtain ⟨y9, ey9, h⟩ := lt_some h
      refine lv_iinc (v := y9) (lv' := [(3, .int y9), (2, .int y8), (0, .ref (G.2.2 22)), (1, .int u1)]) hx hb dX10_eyesOf_33 hl (k := 3) rfl (by rw [ey9]; rfl) (by decide) rfl (fun ls hl => ?_)
      refine lv_goto (tgt := 4) hx hb dX10_eyesOf_36 (by decide) ?_
      exact kc (u1, y8, y9) (Option.some.inj h).symm H locs ls hw (lv_sub hl [2, 3, 1, 0] rfl)
set_option maxHeartbeats 4000000 in
set_option maxRecDepth 100000 in
theorem kX10_eyesOf {l : Launch} {G : GT} {B : BGt} (hB : BGok B) {V : VT} {x1 : Int32} {r : Int32} (h : fX10_eyesOf V x1 = some r) : CI l G B yX10_eyesOf (.code yX10_eyesOf cX10_eyesOf 4 (some .int)) 3 [.ref (G.2.2 22), .int x1] V r V := by
  intro sz
  refine met_of (Qs := fun sz => QI G sz r V) hB (by decide) (Nat.le_of_ble_eq_true rfl) ?_ sz
  intro p e s m args below meth c ls E hw hl
  have hx := en_x E
  have hb := en_b E
  generalize hQ : MQ _ _ _ _ _ _ _ = Q
  have kr : Q = MQ below (QI G s.heap.size r V) args s 0 0 (gA G s.heap.size) := hQ.symm
  have hl : lv_has ls 4 [(0, .ref (G.2.2 22)), (1, .int x1)] := hl
  obtain ⟨H, eH⟩ : ∃ H, H = s.heap := ⟨_, rfl⟩
  obtain ⟨locs, elocs⟩ : ∃ z : List Loc, z = [] := ⟨_, rfl⟩
  have hw : HW G s.heap V H locs := by rw [eH, elocs]; exact hw
  show W p l e _ s m args below meth c s.heap [] 0 0 Q (F0 m 0 ls [])
  rw [← eH, ← elocs]
  unfold fX10_eyesOf at h
  refine lv_iconst (v := (0 : Int32)) hx hb dX10_eyesOf_0 (by decide) ?_
  refine lv_istore_n (lv' := [(2, .int (0 : Int32)), (0, .ref (G.2.2 22)), (1, .int x1)]) hx hb dX10_eyesOf_1 rfl hl (by decide) rfl (fun ls hl => ?_)
  refine lv_iconst (v := (0 : Int32)) hx hb dX10_eyesOf_2 (by decide) ?_
  refine lv_istore_n (lv' := [(3, .int (0 : Int32)), (2, .int (0 : Int32)), (0, .ref (G.2.2 22)), (1, .int x1)]) hx hb dX10_eyesOf_3 rfl hl (by decide) rfl (fun ls hl => ?_)
  obtain ⟨x13, h12, h⟩ := ob_R_some h
  have h := Option.some.inj h
  subst h
  exact wX10_eyesOf_L4 E (fun q e => by subst e; exact kr) FV (x1, (0 : Int32), (0 : Int32)) h12 H locs ls hw (lv_sub hl [2, 3, 1, 0] rfl)
/-! ===== AllSawItModel.eyes(I)I ===== -/
theorem dX10_eyes_0 : decode cX10_eyes 0 = .ok (.aload_n 0, 1) := by decide +kernel
theorem dX10_eyes_1 : decode cX10_eyes 1 = .ok (.iconst 0, 1) := by decide +kernel
theorem dX10_eyes_2 : decode cX10_eyes 2 = .ok (.putfield 3, 3) := by decide +kernel
theorem dX10_eyes_5 : decode cX10_eyes 5 = .ok (.aload_n 0, 1) := by decide +kernel
theorem dX10_eyes_6 : decode cX10_eyes 6 = .ok (.iload_n 1, 1) := by decide +kernel
theorem dX10_eyes_7 : decode cX10_eyes 7 = .ok (.invokestatic 315, 3) := by decide +kernel
theorem dX10_eyes_10 : decode cX10_eyes 10 = .ok (.iconst 1, 1) := by decide +kernel
theorem dX10_eyes_11 : decode cX10_eyes 11 = .ok (.invokevirtual 233, 3) := by decide +kernel
theorem dX10_eyes_14 : decode cX10_eyes 14 = .ok (.ifCond .eq 5, 3) := by decide +kernel
theorem dX10_eyes_17 : decode cX10_eyes 17 = .ok (.iconst 0, 1) := by decide +kernel
theorem dX10_eyes_18 : decode cX10_eyes 18 = .ok (.ireturn, 1) := by decide +kernel
theorem dX10_eyes_19 : decode cX10_eyes 19 = .ok (.aload_n 0, 1) := by decide +kernel
theorem dX10_eyes_20 : decode cX10_eyes 20 = .ok (.iload_n 1, 1) := by decide +kernel
theorem dX10_eyes_21 : decode cX10_eyes 21 = .ok (.invokevirtual 419, 3) := by decide +kernel
theorem dX10_eyes_24 : decode cX10_eyes 24 = .ok (.aload_n 0, 1) := by decide +kernel
theorem dX10_eyes_25 : decode cX10_eyes 25 = .ok (.aload_n 0, 1) := by decide +kernel
theorem dX10_eyes_26 : decode cX10_eyes 26 = .ok (.invokevirtual 321, 3) := by decide +kernel
theorem dX10_eyes_29 : decode cX10_eyes 29 = .ok (.invokevirtual 422, 3) := by decide +kernel
theorem dX10_eyes_32 : decode cX10_eyes 32 = .ok (.istore_n 2, 1) := by decide +kernel
theorem dX10_eyes_33 : decode cX10_eyes 33 = .ok (.aload_n 0, 1) := by decide +kernel
theorem dX10_eyes_34 : decode cX10_eyes 34 = .ok (.invokevirtual 321, 3) := by decide +kernel
theorem dX10_eyes_37 : decode cX10_eyes 37 = .ok (.istore_n 3, 1) := by decide +kernel
theorem dX10_eyes_38 : decode cX10_eyes 38 = .ok (.iload_n 3, 1) := by decide +kernel
theorem dX10_eyes_39 : decode cX10_eyes 39 = .ok (.istore 4, 2) := by decide +kernel
theorem dX10_eyes_41 : decode cX10_eyes 41 = .ok (.iload 4, 2) := by decide +kernel
theorem dX10_eyes_43 : decode cX10_eyes 43 = .ok (.ifCond .lt 38, 3) := by decide +kernel
theorem dX10_eyes_46 : decode cX10_eyes 46 = .ok (.iload 4, 2) := by decide +kernel
theorem dX10_eyes_48 : decode cX10_eyes 48 = .ok (.invokestatic 324, 3) := by decide +kernel
theorem dX10_eyes_51 : decode cX10_eyes 51 = .ok (.iload_n 3, 1) := by decide +kernel
theorem dX10_eyes_52 : decode cX10_eyes 52 = .ok (.invokestatic 324, 3) := by decide +kernel
theorem dX10_eyes_55 : decode cX10_eyes 55 = .ok (.if_icmp .gt 18, 3) := by decide +kernel
theorem dX10_eyes_58 : decode cX10_eyes 58 = .ok (.aload_n 0, 1) := by decide +kernel
theorem dX10_eyes_59 : decode cX10_eyes 59 = .ok (.iload 4, 2) := by decide +kernel
theorem dX10_eyes_61 : decode cX10_eyes 61 = .ok (.invokevirtual 422, 3) := by decide +kernel
theorem dX10_eyes_64 : decode cX10_eyes 64 = .ok (.iload_n 2, 1) := by decide +kernel
theorem dX10_eyes_65 : decode cX10_eyes 65 = .ok (.if_icmp .ne 8, 3) := by decide +kernel
theorem dX10_eyes_68 : decode cX10_eyes 68 = .ok (.iload 4, 2) := by decide +kernel
theorem dX10_eyes_70 : decode cX10_eyes 70 = .ok (.goto 4, 3) := by decide +kernel
theorem dX10_eyes_73 : decode cX10_eyes 73 = .ok (.iload_n 3, 1) := by decide +kernel
theorem dX10_eyes_74 : decode cX10_eyes 74 = .ok (.istore_n 3, 1) := by decide +kernel
theorem dX10_eyes_75 : decode cX10_eyes 75 = .ok (.iinc 4 (-1), 3) := by decide +kernel
theorem dX10_eyes_78 : decode cX10_eyes 78 = .ok (.goto (-37), 3) := by decide +kernel
theorem dX10_eyes_81 : decode cX10_eyes 81 = .ok (.iload_n 3, 1) := by decide +kernel
theorem dX10_eyes_82 : decode cX10_eyes 82 = .ok (.ireturn, 1) := by decide +kernel
noncomputable def fX10_eyes_L41 (V : VT) (u2 : Int32) (u3 : Int32) (u4 : Int32) : Option ((VT × Int32 × Int32 × Int32) ⊕ (Int32 × VT)) := if u4 < 0 then (some (.inr ((u3, V)))) else (ob_R (fJ6_bitCount_0f7a4 V u4) fun y16 => ob_R (fJ6_bitCount_0f7a4 V u3) fun y18 => if y18 < y16 then (lt_ (u4 + (-1 : Int32)) fun y19 => some (.inl (V, u2, u3, y19))) else (ob_R (fX10_eyesOf V u4) fun y21 => if y21 = u2 then (lt_ (u4 + (-1 : Int32)) fun y23 => some (.inl (V, u2, u4, y23))) else (lt_ (u4 + (-1 : Int32)) fun y22 => some (.inl (V, u2, u3, y22)))))
noncomputable def iX10_eyes_L41 : (VT × Int32 × Int32 × Int32) → Option ((VT × Int32 × Int32 × Int32) ⊕ (Int32 × VT)) := fun q => fX10_eyes_L41 (q.1) (q.2.1) (q.2.2.1) (q.2.2.2)
noncomputable def fX10_eyes (V : VT) (x1 : Int32) : Option (Int32 × VT) := lt_ (va_up V 22 (upd (V 22) 0 (0 : Int32))) fun V1 => ob_R (fX10_noHour V1 x1) fun y3 => ob_I (fX10_throwsIf V1 y3 (1 : Int32)) fun y5 V6 => if y5 = 0 then (ob_R (fX10_laysEyes V6 x1) fun V8 => ob_R (fX10_allHouses V8 ) fun y10 => ob_R (fX10_eyesOf V8 y10) fun y12 => ob_R (fX10_allHouses V8 ) fun y14 => ob_R (it_ (iX10_eyes_L41) FV (V8, y12, y14, y14)) fun x28 => some x28) else (some ((0 : Int32), V6))
set_option maxHeartbeats 4000000 in
set_option maxRecDepth 100000 in
theorem wX10_eyes_L41 {p : Program} {l : Launch} {e : Env} {s : State} {m : MethodId} {args : Array Value} {below : List Frame} {meth : Method} {c : Code} {G : GT} {B : BGt} {Q : State → Prop} (E : En p s m args c meth cX10_eyes 5 RX10 (some .int) G B) {x : (Int32 × VT)} (kr : ∀ q : (Int32 × VT), x = q → Q = MQ below (QI G s.heap.size q.1 q.2) args s 0 0 (gA G s.heap.size)) : ∀ (n : Nat) (q : (VT × Int32 × Int32 × Int32)), it_ (iX10_eyes_L41) n q = some x → ∀ (H : Heap) (locs : List Loc) (ls : Array Slot), HW G s.heap (q.1) H locs → lv_has ls 5 [(0, .ref (G.2.2 22)), (2, .int (q.2.1)), (3, .int (q.2.2.1)), (4, .int (q.2.2.2))] → W p l e (rmD 12) s m args below meth c H locs 0 0 Q (F0 m 41 ls []) := by
  have hx := en_x E
  have hb := en_b E
  have hB := en_B E
  refine it_W (fun q : (VT × Int32 × Int32 × Int32) => ∀ (H : Heap) (locs : List Loc) (ls : Array Slot), HW G s.heap (q.1) H locs → lv_has ls 5 [(0, .ref (G.2.2 22)), (2, .int (q.2.1)), (3, .int (q.2.2.1)), (4, .int (q.2.2.2))] → W p l e (rmD 12) s m args below meth c H locs 0 0 Q (F0 m 41 ls [])) x ?_
  intro q r h kc kx
  obtain ⟨V, u2, u3, u4⟩ := q
  intro H locs ls hw hl
  have h : fX10_eyes_L41 V u2 u3 u4 = some r := h
  have hw : HW G s.heap V H locs := hw
  have hl : lv_has ls 5 [(0, .ref (G.2.2 22)), (2, .int u2), (3, .int u3), (4, .int u4)] := hl
  have kr : ∀ q : (Int32 × VT), r = .inr (q) → Q = MQ below (QI G s.heap.size q.1 q.2) args s 0 0 (gA G s.heap.size) := fun q e => kr q (kx _ e).symm
  unfold fX10_eyes_L41 at h
  refine lv_iload hx hb dX10_eyes_41 (lv_at hl 3 rfl) ?_
  refine lv_if_lt (tgt := 81) hx hb dX10_eyes_43 (by decide) (fun c26 => ?_) (fun c26 => ?_)
  · rw [if_pos c26] at h
    refine lv_iload_n hx hb dX10_eyes_81 rfl (lv_at hl 2 rfl) ?_
    rw [kr (u3, V) (Option.some.inj h).symm]
    exact r_ri E hw dX10_eyes_82
  · rw [if_neg c26] at h
    refine lv_iload hx hb dX10_eyes_46 (lv_at hl 3 rfl) ?_
    obtain ⟨y16, h15, h⟩ := ob_R_some h
    refine c_SI E hw (kJ6_bitCount_0f7a4 (l := l) (G := G) hB  h15) yy_J6_bitCount_0f7a4 lm_RX10_324 rfl hl.1 (by decide) (by decide) rfl (Nat.le_of_ble_eq_true rfl) dX10_eyes_48 (fun H locs hw => ?_)
    refine lv_iload_n hx hb dX10_eyes_51 rfl (lv_at hl 2 rfl) ?_
    obtain ⟨y18, h17, h⟩ := ob_R_some h
    refine c_SI E hw (kJ6_bitCount_0f7a4 (l := l) (G := G) hB  h17) yy_J6_bitCount_0f7a4 lm_RX10_324 rfl hl.1 (by decide) (by decide) rfl (Nat.le_of_ble_eq_true rfl) dX10_eyes_52 (fun H locs hw => ?_)
    refine lv_icmp_gt (tgt := 73) hx hb dX10_eyes_55 (by decide) (fun c25 => ?_) (fun c25 => ?_)
    · rw [if_pos c25] at h
      refine lv_iload_n hx hb dX10_eyes_73 rfl (lv_at hl 2 rfl) ?_
      refine lv_istore_n (lv' := [(3, .int u3), (0, .ref (G.2.2 22)), (2, .int u2), (4, .int u4)]) hx hb dX10_eyes_74 rfl hl (by decide) rfl (fun ls hl => ?_)
      obtain ⟨y19, ey19, h⟩ := lt_some h
      refine lv_iinc (v := y19) (lv' := [(4, .int y19), (3, .int u3), (0, .ref (G.2.2 22)), (2, .int u2)]) hx hb dX10_eyes_75 hl (k := 3) rfl (by rw [ey19]; rfl) (by decide) rfl (fun ls hl => ?_)
      refine lv_goto (tgt := 41) hx hb dX10_eyes_78 (by decide) ?_
      exact kc (V, u2, u3, y19) (Option.some.inj h).symm H locs ls hw (lv_sub hl [2, 3, 1, 0] rfl)
    · rw [if_neg c25] at h
      refine lv_aload_n hx hb dX10_eyes_58 rfl (lv_at hl 0 rfl) ?_
      refine lv_iload hx hb dX10_eyes_59 (lv_at hl 3 rfl) ?_
      obtain ⟨y21, h20, h⟩ := ob_R_some h
      refine c_VI E hw (kX10_eyesOf (l := l) (G := G) hB  h20) yy_X10_eyesOf lm_RX10_422 rfl (by decide) rfl rfl hl.1 (by decide) (by decide) rfl (Nat.le_of_ble_eq_true rfl) dX10_eyes_61 (fun H locs hw => ?_)
      refine lv_iload_n hx hb dX10_eyes_64 rfl (lv_at hl 1 rfl) ?_
      refine lv_icmp_ne (tgt := 73) hx hb dX10_eyes_65 (by decide) (fun c24 => ?_) (fun c24 => ?_)
      · rw [if_neg c24] at h
        refine lv_iload_n hx hb dX10_eyes_73 rfl (lv_at hl 2 rfl) ?_
        refine lv_istore_n (lv' := [(3, .int u3), (0, .ref (G.2.2 22)), (2, .int u2), (4, .int u4)]) hx hb dX10_eyes_74 rfl hl (by decide) rfl (fun ls hl => ?_)
        obtain ⟨y22, ey22, h⟩ := lt_some h
        refine lv_iinc (v := y22) (lv' := [(4, .int y22), (3, .int u3), (0, .ref (G.2.2 22)), (2, .int u2)]) hx hb dX10_eyes_75 hl (k := 3) rfl (by rw [ey22]; rfl) (by decide) rfl (fun ls hl => ?_)
        refine lv_goto (tgt := 41) hx hb dX10_eyes_78 (by decide) ?_
        exact kc (V, u2, u3, y22) (Option.some.inj h).symm H locs ls hw (lv_sub hl [2, 3, 1, 0] rfl)
      · rw [if_pos c24] at h
        refine lv_iload hx hb dX10_eyes_68 (lv_at hl 3 rfl) ?_
        refine lv_goto (tgt := 74) hx hb dX10_eyes_70 (by decide) ?_
        refine lv_istore_n (lv' := [(3, .int u4), (0, .ref (G.2.2 22)), (2, .int u2), (4, .int u4)]) hx hb dX10_eyes_74 rfl hl (by decide) rfl (fun ls hl => ?_)
        obtain ⟨y23, ey23, h⟩ := lt_some h
        refine lv_iinc (v := y23) (lv' := [(4, .int y23), (3, .int u4), (0, .ref (G.2.2 22)), (2, .int u2)]) hx hb dX10_eyes_75 hl (k := 3) rfl (by rw [ey23]; rfl) (by decide) rfl (fun ls hl => ?_)
        refine lv_goto (tgt := 41) hx hb dX10_eyes_78 (by decide) ?_
        exact kc (V, u2, u4, y23) (Option.some.inj h).symm H locs ls hw (lv_sub hl [2, 3, 1, 0] rfl)
set_option maxHeartbeats 4000000 in
set_option maxRecDepth 100000 in
theorem kX10_eyes {l : Launch} {G : GT} {B : BGt} (hB : BGok B) {V : VT} {x1 : Int32} {r : (Int32 × VT)} (h : fX10_eyes V x1 = some r) : CI l G B yX10_eyes (.code yX10_eyes cX10_eyes 5 (some .int)) 12 [.ref (G.2.2 22), .int x1] V r.1 r.2 := by
  intro sz
  refine met_of (Qs := fun sz => QI G sz (r.1) (r.2)) hB (by decide) (Nat.le_of_ble_eq_true rfl) ?_ sz
  intro p e s m args below meth c ls E hw hl
  have hx := en_x E
  have hb := en_b E
  generalize hQ : MQ _ _ _ _ _ _ _ = Q
  have kr : Q = MQ below (QI G s.heap.size r.1 r.2) args s 0 0 (gA G s.heap.size) := hQ.symm
  have hl : lv_has ls 5 [(0, .ref (G.2.2 22)), (1, .int x1)] := hl
  obtain ⟨H, eH⟩ : ∃ H, H = s.heap := ⟨_, rfl⟩
  obtain ⟨locs, elocs⟩ : ∃ z : List Loc, z = [] := ⟨_, rfl⟩
  have hw : HW G s.heap V H locs := by rw [eH, elocs]; exact hw
  show W p l e _ s m args below meth c s.heap [] 0 0 Q (F0 m 0 ls [])
  rw [← eH, ← elocs]
  unfold fX10_eyes at h
  refine lv_aload_n hx hb dX10_eyes_0 rfl (lv_at hl 0 rfl) ?_
  refine lv_iconst (v := (0 : Int32)) hx hb dX10_eyes_1 (by decide) ?_
  obtain ⟨V1, eV1, h⟩ := lt_some h
  refine r_pi E hw 22 0 (N := 29) (C := RX10) (T := TX10) (ty0 := tyX10) (ty := .int) (by decide) rfl rfl (by decide) rfl iw_10 rfl tyX10_ok nmX10 rfl rfl (vp_nar_int _) rfl lf_RX10_3 eV1 dX10_eyes_2 (fun H locs hw => ?_)
  refine lv_aload_n hx hb dX10_eyes_5 rfl (lv_at hl 0 rfl) ?_
  refine lv_iload_n hx hb dX10_eyes_6 rfl (lv_at hl 1 rfl) ?_
  obtain ⟨y3, h2, h⟩ := ob_R_some h
  refine c_SI E hw (kX10_noHour (l := l) (G := G) hB  h2) yy_X10_noHour lm_RX10_315 rfl hl.1 (by decide) (by decide) rfl (Nat.le_of_ble_eq_true rfl) dX10_eyes_7 (fun H locs hw => ?_)
  refine lv_iconst (v := (1 : Int32)) hx hb dX10_eyes_10 (by decide) ?_
  obtain ⟨y5, V6, h4, h⟩ := ob_I_some h
  refine c_VI E hw (kX10_throwsIf (l := l) (G := G) hB  h4) yy_X10_throwsIf lm_RX10_233 rfl (by decide) rfl rfl hl.1 (by decide) (by decide) rfl (Nat.le_of_ble_eq_true rfl) dX10_eyes_11 (fun H locs hw => ?_)
  refine lv_if_eq (tgt := 19) hx hb dX10_eyes_14 (by decide) (fun c29 => ?_) (fun c29 => ?_)
  · rw [if_pos c29] at h
    refine lv_aload_n hx hb dX10_eyes_19 rfl (lv_at hl 0 rfl) ?_
    refine lv_iload_n hx hb dX10_eyes_20 rfl (lv_at hl 1 rfl) ?_
    obtain ⟨V8, h7, h⟩ := ob_R_some h
    refine c_VV E hw (kX10_laysEyes (l := l) (G := G) hB  h7) yy_X10_laysEyes lm_RX10_419 rfl (by decide) rfl rfl hl.1 (by decide) (by decide) rfl (Nat.le_of_ble_eq_true rfl) dX10_eyes_21 (fun H locs hw => ?_)
    refine lv_aload_n hx hb dX10_eyes_24 rfl (lv_at hl 0 rfl) ?_
    refine lv_aload_n hx hb dX10_eyes_25 rfl (lv_at hl 0 rfl) ?_
    obtain ⟨y10, h9, h⟩ := ob_R_some h
    refine c_VI E hw (kX10_allHouses (l := l) (G := G) hB  h9) yy_X10_allHouses lm_RX10_321 rfl (by decide) rfl rfl hl.1 (by decide) (by decide) rfl (Nat.le_of_ble_eq_true rfl) dX10_eyes_26 (fun H locs hw => ?_)
    obtain ⟨y12, h11, h⟩ := ob_R_some h
    refine c_VI E hw (kX10_eyesOf (l := l) (G := G) hB  h11) yy_X10_eyesOf lm_RX10_422 rfl (by decide) rfl rfl hl.1 (by decide) (by decide) rfl (Nat.le_of_ble_eq_true rfl) dX10_eyes_29 (fun H locs hw => ?_)
    refine lv_istore_n (lv' := [(2, .int y12), (0, .ref (G.2.2 22)), (1, .int x1)]) hx hb dX10_eyes_32 rfl hl (by decide) rfl (fun ls hl => ?_)
    refine lv_aload_n hx hb dX10_eyes_33 rfl (lv_at hl 1 rfl) ?_
    obtain ⟨y14, h13, h⟩ := ob_R_some h
    refine c_VI E hw (kX10_allHouses (l := l) (G := G) hB  h13) yy_X10_allHouses lm_RX10_321 rfl (by decide) rfl rfl hl.1 (by decide) (by decide) rfl (Nat.le_of_ble_eq_true rfl) dX10_eyes_34 (fun H locs hw => ?_)
    refine lv_istore_n (lv' := [(3, .int y14), (2, .int y12), (0, .ref (G.2.2 22)), (1, .int x1)]) hx hb dX10_eyes_37 rfl hl (by decide) rfl (fun ls hl => ?_)
    refine lv_iload_n hx hb dX10_eyes_38 rfl (lv_at hl 0 rfl) ?_
    refine lv_istore (lv' := [(4, .int y14), (3, .int y14), (2, .int y12), (0, .ref (G.2.2 22)), (1, .int x1)]) hx hb dX10_eyes_39 hl (by decide) rfl (fun ls hl => ?_)
    obtain ⟨x28, h27, h⟩ := ob_R_some h
    have h := Option.some.inj h
    subst h
    exact wX10_eyes_L41 E (fun q e => by subst e; exact kr) FV (V8, y12, y14, y14) h27 H locs ls hw (lv_sub hl [3, 2, 1, 0] rfl)
  · rw [if_neg c29] at h
    refine lv_iconst (v := (0 : Int32)) hx hb dX10_eyes_17 (by decide) ?_
    have h := Option.some.inj h
    subst h
    rw [kr]
    exact r_ri E hw dX10_eyes_18
/-! ===== AllSawItModel.alone(II)I ===== -/
theorem dX10_alone_0 : decode cX10_alone 0 = .ok (.aload_n 0, 1) := by decide +kernel
theorem dX10_alone_1 : decode cX10_alone 1 = .ok (.iconst 0, 1) := by decide +kernel
theorem dX10_alone_2 : decode cX10_alone 2 = .ok (.putfield 3, 3) := by decide +kernel
theorem dX10_alone_5 : decode cX10_alone 5 = .ok (.aload_n 0, 1) := by decide +kernel
theorem dX10_alone_6 : decode cX10_alone 6 = .ok (.iload_n 1, 1) := by decide +kernel
theorem dX10_alone_7 : decode cX10_alone 7 = .ok (.invokestatic 315, 3) := by decide +kernel
theorem dX10_alone_10 : decode cX10_alone 10 = .ok (.ifCond .ne 16, 3) := by decide +kernel
theorem dX10_alone_13 : decode cX10_alone 13 = .ok (.iload_n 2, 1) := by decide +kernel
theorem dX10_alone_14 : decode cX10_alone 14 = .ok (.iconst (-1), 1) := by decide +kernel
theorem dX10_alone_15 : decode cX10_alone 15 = .ok (.if_icmp .eq 15, 3) := by decide +kernel
theorem dX10_alone_18 : decode cX10_alone 18 = .ok (.aload_n 0, 1) := by decide +kernel
theorem dX10_alone_19 : decode cX10_alone 19 = .ok (.iload_n 2, 1) := by decide +kernel
theorem dX10_alone_20 : decode cX10_alone 20 = .ok (.invokevirtual 309, 3) := by decide +kernel
theorem dX10_alone_23 : decode cX10_alone 23 = .ok (.ifCond .eq 7, 3) := by decide +kernel
theorem dX10_alone_26 : decode cX10_alone 26 = .ok (.iconst 1, 1) := by decide +kernel
theorem dX10_alone_27 : decode cX10_alone 27 = .ok (.goto 4, 3) := by decide +kernel
theorem dX10_alone_30 : decode cX10_alone 30 = .ok (.iconst 0, 1) := by decide +kernel
theorem dX10_alone_31 : decode cX10_alone 31 = .ok (.iconst 1, 1) := by decide +kernel
theorem dX10_alone_32 : decode cX10_alone 32 = .ok (.invokevirtual 233, 3) := by decide +kernel
theorem dX10_alone_35 : decode cX10_alone 35 = .ok (.ifCond .eq 5, 3) := by decide +kernel
theorem dX10_alone_38 : decode cX10_alone 38 = .ok (.iconst 0, 1) := by decide +kernel
theorem dX10_alone_39 : decode cX10_alone 39 = .ok (.ireturn, 1) := by decide +kernel
theorem dX10_alone_40 : decode cX10_alone 40 = .ok (.aload_n 0, 1) := by decide +kernel
theorem dX10_alone_41 : decode cX10_alone 41 = .ok (.iload_n 1, 1) := by decide +kernel
theorem dX10_alone_42 : decode cX10_alone 42 = .ok (.invokevirtual 419, 3) := by decide +kernel
theorem dX10_alone_45 : decode cX10_alone 45 = .ok (.iconst 0, 1) := by decide +kernel
theorem dX10_alone_46 : decode cX10_alone 46 = .ok (.istore_n 3, 1) := by decide +kernel
theorem dX10_alone_47 : decode cX10_alone 47 = .ok (.iconst 0, 1) := by decide +kernel
theorem dX10_alone_48 : decode cX10_alone 48 = .ok (.istore 4, 2) := by decide +kernel
theorem dX10_alone_50 : decode cX10_alone 50 = .ok (.iconst 0, 1) := by decide +kernel
theorem dX10_alone_51 : decode cX10_alone 51 = .ok (.istore 5, 2) := by decide +kernel
theorem dX10_alone_53 : decode cX10_alone 53 = .ok (.iload 5, 2) := by decide +kernel
theorem dX10_alone_55 : decode cX10_alone 55 = .ok (.aload_n 0, 1) := by decide +kernel
theorem dX10_alone_56 : decode cX10_alone 56 = .ok (.invokevirtual 62, 3) := by decide +kernel
theorem dX10_alone_59 : decode cX10_alone 59 = .ok (.if_icmp .ge 33, 3) := by decide +kernel
theorem dX10_alone_62 : decode cX10_alone 62 = .ok (.iload 4, 2) := by decide +kernel
theorem dX10_alone_64 : decode cX10_alone 64 = .ok (.iload_n 3, 1) := by decide +kernel
theorem dX10_alone_65 : decode cX10_alone 65 = .ok (.aload_n 0, 1) := by decide +kernel
theorem dX10_alone_66 : decode cX10_alone 66 = .ok (.getfield 48, 3) := by decide +kernel
theorem dX10_alone_69 : decode cX10_alone 69 = .ok (.iload 5, 2) := by decide +kernel
theorem dX10_alone_71 : decode cX10_alone 71 = .ok (.iaload, 1) := by decide +kernel
theorem dX10_alone_72 : decode cX10_alone 72 = .ok (.iand, 1) := by decide +kernel
theorem dX10_alone_73 : decode cX10_alone 73 = .ok (.ior, 1) := by decide +kernel
theorem dX10_alone_74 : decode cX10_alone 74 = .ok (.istore 4, 2) := by decide +kernel
theorem dX10_alone_76 : decode cX10_alone 76 = .ok (.iload_n 3, 1) := by decide +kernel
theorem dX10_alone_77 : decode cX10_alone 77 = .ok (.aload_n 0, 1) := by decide +kernel
theorem dX10_alone_78 : decode cX10_alone 78 = .ok (.getfield 48, 3) := by decide +kernel
theorem dX10_alone_81 : decode cX10_alone 81 = .ok (.iload 5, 2) := by decide +kernel
theorem dX10_alone_83 : decode cX10_alone 83 = .ok (.iaload, 1) := by decide +kernel
theorem dX10_alone_84 : decode cX10_alone 84 = .ok (.ior, 1) := by decide +kernel
theorem dX10_alone_85 : decode cX10_alone 85 = .ok (.istore_n 3, 1) := by decide +kernel
theorem dX10_alone_86 : decode cX10_alone 86 = .ok (.iinc 5 1, 3) := by decide +kernel
theorem dX10_alone_89 : decode cX10_alone 89 = .ok (.goto (-36), 3) := by decide +kernel
theorem dX10_alone_92 : decode cX10_alone 92 = .ok (.iload_n 3, 1) := by decide +kernel
theorem dX10_alone_93 : decode cX10_alone 93 = .ok (.iload 4, 2) := by decide +kernel
theorem dX10_alone_95 : decode cX10_alone 95 = .ok (.iconst (-1), 1) := by decide +kernel
theorem dX10_alone_96 : decode cX10_alone 96 = .ok (.ixor, 1) := by decide +kernel
theorem dX10_alone_97 : decode cX10_alone 97 = .ok (.iand, 1) := by decide +kernel
theorem dX10_alone_98 : decode cX10_alone 98 = .ok (.iload_n 2, 1) := by decide +kernel
theorem dX10_alone_99 : decode cX10_alone 99 = .ok (.iconst (-1), 1) := by decide +kernel
theorem dX10_alone_100 : decode cX10_alone 100 = .ok (.if_icmp .ne 7, 3) := by decide +kernel
theorem dX10_alone_103 : decode cX10_alone 103 = .ok (.iload_n 3, 1) := by decide +kernel
theorem dX10_alone_104 : decode cX10_alone 104 = .ok (.goto 9, 3) := by decide +kernel
theorem dX10_alone_107 : decode cX10_alone 107 = .ok (.aload_n 0, 1) := by decide +kernel
theorem dX10_alone_108 : decode cX10_alone 108 = .ok (.getfield 48, 3) := by decide +kernel
theorem dX10_alone_111 : decode cX10_alone 111 = .ok (.iload_n 2, 1) := by decide +kernel
theorem dX10_alone_112 : decode cX10_alone 112 = .ok (.iaload, 1) := by decide +kernel
theorem dX10_alone_113 : decode cX10_alone 113 = .ok (.iand, 1) := by decide +kernel
theorem dX10_alone_114 : decode cX10_alone 114 = .ok (.ireturn, 1) := by decide +kernel
noncomputable def fX10_alone_L53 (V : VT) (u2 : Int32) (u3 : Int32) (u4 : Int32) (u5 : Int32) : Option ((VT × Int32 × Int32 × Int32 × Int32) ⊕ (VT × Int32 × Int32 × Int32)) := ob_R (fX10_houses V ) fun y10 => if y10 ≤ u5 then (some (.inr ((V, u2, u3, u4)))) else (rd_ u5 8 (lt_ (u4 ||| (u3 &&& (V 86 u5.toNatClampNeg))) fun y12 => rd_ u5 8 (lt_ (u3 ||| (V 86 u5.toNatClampNeg)) fun y14 => lt_ (u5 + (1 : Int32)) fun y15 => some (.inl (V, u2, y14, y12, y15)))))
noncomputable def iX10_alone_L53 : (VT × Int32 × Int32 × Int32 × Int32) → Option ((VT × Int32 × Int32 × Int32 × Int32) ⊕ (VT × Int32 × Int32 × Int32)) := fun q => fX10_alone_L53 (q.1) (q.2.1) (q.2.2.1) (q.2.2.2.1) (q.2.2.2.2)
noncomputable def fX10_alone_j31 (V : VT) (u1 : Int32) (u2 : Int32) (t0 : Int32) : Option (Int32 × VT) := ob_I (fX10_throwsIf V t0 (1 : Int32)) fun y5 V6 => if y5 = 0 then (ob_R (fX10_laysEyes V6 u1) fun V8 => ob_R (it_ (iX10_alone_L53) FV (V8, u2, (0 : Int32), (0 : Int32), (0 : Int32))) fun x18 => (dt4_ x18 fun V22 y19 y20 y21 => if y19 = (-1 : Int32) then (some (((y20 &&& (y21 ^^^ (-1 : Int32))) &&& y20), V22)) else (rd_ y19 8 (some (((y20 &&& (y21 ^^^ (-1 : Int32))) &&& (V22 86 y19.toNatClampNeg)), V22))))) else (some ((0 : Int32), V6))
noncomputable def fX10_alone_j26 (V : VT) (u1 : Int32) (u2 : Int32) : Option (Int32 × VT) := fX10_alone_j31 V u1 u2 (1 : Int32)
noncomputable def fX10_alone_j30 (V : VT) (u1 : Int32) (u2 : Int32) : Option (Int32 × VT) := fX10_alone_j31 V u1 u2 (0 : Int32)
noncomputable def fX10_alone (V : VT) (x1 : Int32) (x2 : Int32) : Option (Int32 × VT) := lt_ (va_up V 22 (upd (V 22) 0 (0 : Int32))) fun V1 => ob_R (fX10_noHour V1 x1) fun y3 => if y3 = 0 then (if x2 = (-1 : Int32) then (fX10_alone_j30 V1 x1 x2) else (ob_R (fX10_noHouse V1 x2) fun y27 => if y27 = 0 then (fX10_alone_j30 V1 x1 x2) else (fX10_alone_j26 V1 x1 x2))) else (fX10_alone_j26 V1 x1 x2)
set_option maxHeartbeats 4000000 in
set_option maxRecDepth 100000 in
theorem wX10_alone_L53 {p : Program} {l : Launch} {e : Env} {s : State} {m : MethodId} {args : Array Value} {below : List Frame} {meth : Method} {c : Code} {G : GT} {B : BGt} {Q : State → Prop} (E : En p s m args c meth cX10_alone 6 RX10 (some .int) G B) {x : (VT × Int32 × Int32 × Int32)} (ke : ∀ q : (VT × Int32 × Int32 × Int32), x = q → ∀ (H : Heap) (locs : List Loc) (ls : Array Slot), HW G s.heap (q.1) H locs → lv_has ls 6 [(0, .ref (G.2.2 22)), (2, .int (q.2.1)), (3, .int (q.2.2.1)), (4, .int (q.2.2.2))] → W p l e (rmD 12) s m args below meth c H locs 0 0 Q (F0 m 92 ls [])) : ∀ (n : Nat) (q : (VT × Int32 × Int32 × Int32 × Int32)), it_ (iX10_alone_L53) n q = some x → ∀ (H : Heap) (locs : List Loc) (ls : Array Slot), HW G s.heap (q.1) H locs → lv_has ls 6 [(0, .ref (G.2.2 22)), (2, .int (q.2.1)), (3, .int (q.2.2.1)), (4, .int (q.2.2.2.1)), (5, .int (q.2.2.2.2))] → W p l e (rmD 12) s m args below meth c H locs 0 0 Q (F0 m 53 ls []) := by
  have hx := en_x E
  have hb := en_b E
  have hB := en_B E
  refine it_W (fun q : (VT × Int32 × Int32 × Int32 × Int32) => ∀ (H : Heap) (locs : List Loc) (ls : Array Slot), HW G s.heap (q.1) H locs → lv_has ls 6 [(0, .ref (G.2.2 22)), (2, .int (q.2.1)), (3, .int (q.2.2.1)), (4, .int (q.2.2.2.1)), (5, .int (q.2.2.2.2))] → W p l e (rmD 12) s m args below meth c H locs 0 0 Q (F0 m 53 ls [])) x ?_
  intro q r h kc kx
  obtain ⟨V, u2, u3, u4, u5⟩ := q
  intro H locs ls hw hl
  have h : fX10_alone_L53 V u2 u3 u4 u5 = some r := h
  have hw : HW G s.heap V H locs := hw
  have hl : lv_has ls 6 [(0, .ref (G.2.2 22)), (2, .int u2), (3, .int u3), (4, .int u4), (5, .int u5)] := hl
  have ke : ∀ q : (VT × Int32 × Int32 × Int32), r = .inr (q) → ∀ (H : Heap) (locs : List Loc) (ls : Array Slot), HW G s.heap (q.1) H locs → lv_has ls 6 [(0, .ref (G.2.2 22)), (2, .int (q.2.1)), (3, .int (q.2.2.1)), (4, .int (q.2.2.2))] → W p l e (rmD 12) s m args below meth c H locs 0 0 Q (F0 m 92 ls []) := fun q e => ke q (kx _ e).symm
  unfold fX10_alone_L53 at h
  refine lv_iload hx hb dX10_alone_53 (lv_at hl 4 rfl) ?_
  refine lv_aload_n hx hb dX10_alone_55 rfl (lv_at hl 0 rfl) ?_
  obtain ⟨y10, h9, h⟩ := ob_R_some h
  refine c_VI E hw (kX10_houses (l := l) (G := G) hB  h9) yy_X10_houses lm_RX10_62 rfl (by decide) rfl rfl hl.1 (by decide) (by decide) rfl (Nat.le_of_ble_eq_true rfl) dX10_alone_56 (fun H locs hw => ?_)
  refine lv_icmp_ge (tgt := 92) hx hb dX10_alone_59 (by decide) (fun c16 => ?_) (fun c16 => ?_)
  · rw [if_pos c16] at h
    exact ke (V, u2, u3, u4) (Option.some.inj h).symm H locs ls hw (lv_sub hl [0, 1, 2, 3] rfl)
  · rw [if_neg c16] at h
    refine lv_iload hx hb dX10_alone_62 (lv_at hl 3 rfl) ?_
    refine lv_iload_n hx hb dX10_alone_64 rfl (lv_at hl 2 rfl) ?_
    refine lv_aload_n hx hb dX10_alone_65 rfl (lv_at hl 0 rfl) ?_
    refine r_gr E hw 22 27 86 (N := 29) (C := RX10) (T := TX10) (by decide) rfl rfl (by decide) rfl iw_10 rfl lf_RX10_48 dX10_alone_66 ?_
    refine lv_iload hx hb dX10_alone_69 (lv_at hl 4 rfl) ?_
    obtain ⟨b11, h⟩ := rd_some h
    refine r_ia E hw 86 8 (by decide) (by decide) (by decide) rfl rfl b11 dX10_alone_71 ?_
    refine lv_iand hx hb dX10_alone_72 ?_
    refine lv_ior hx hb dX10_alone_73 ?_
    obtain ⟨y12, ey12, h⟩ := lt_some h
    refine lv_eqi ey12 ?_
    refine lv_istore (lv' := [(4, .int y12), (0, .ref (G.2.2 22)), (2, .int u2), (3, .int u3), (5, .int u5)]) hx hb dX10_alone_74 hl (by decide) rfl (fun ls hl => ?_)
    refine lv_iload_n hx hb dX10_alone_76 rfl (lv_at hl 3 rfl) ?_
    refine lv_aload_n hx hb dX10_alone_77 rfl (lv_at hl 1 rfl) ?_
    refine r_gr E hw 22 27 86 (N := 29) (C := RX10) (T := TX10) (by decide) rfl rfl (by decide) rfl iw_10 rfl lf_RX10_48 dX10_alone_78 ?_
    refine lv_iload hx hb dX10_alone_81 (lv_at hl 4 rfl) ?_
    obtain ⟨b13, h⟩ := rd_some h
    refine r_ia E hw 86 8 (by decide) (by decide) (by decide) rfl rfl b13 dX10_alone_83 ?_
    refine lv_ior hx hb dX10_alone_84 ?_
    obtain ⟨y14, ey14, h⟩ := lt_some h
    refine lv_eqi ey14 ?_
    refine lv_istore_n (lv' := [(3, .int y14), (4, .int y12), (0, .ref (G.2.2 22)), (2, .int u2), (5, .int u5)]) hx hb dX10_alone_85 rfl hl (by decide) rfl (fun ls hl => ?_)
    obtain ⟨y15, ey15, h⟩ := lt_some h
    refine lv_iinc (v := y15) (lv' := [(5, .int y15), (3, .int y14), (4, .int y12), (0, .ref (G.2.2 22)), (2, .int u2)]) hx hb dX10_alone_86 hl (k := 4) rfl (by rw [ey15]; rfl) (by decide) rfl (fun ls hl => ?_)
    refine lv_goto (tgt := 53) hx hb dX10_alone_89 (by decide) ?_
    exact kc (V, u2, y14, y12, y15) (Option.some.inj h).symm H locs ls hw (lv_sub hl [3, 4, 1, 2, 0] rfl)
set_option maxHeartbeats 4000000 in
set_option maxRecDepth 100000 in
theorem wX10_alone_j31 {p : Program} {l : Launch} {e : Env} {s : State} {m : MethodId} {args : Array Value} {below : List Frame} {meth : Method} {c : Code} {G : GT} {B : BGt} {Q : State → Prop} (E : En p s m args c meth cX10_alone 6 RX10 (some .int) G B) {V : VT} {u1 : Int32} {u2 : Int32} {t0 : Int32} {r : (Int32 × VT)} (h : fX10_alone_j31 V u1 u2 t0 = some r) (kr : Q = MQ below (QI G s.heap.size r.1 r.2) args s 0 0 (gA G s.heap.size)) {H : Heap} {locs : List Loc} {ls : Array Slot} (hw : HW G s.heap V H locs) (hl : lv_has ls 6 [(0, .ref (G.2.2 22)), (1, .int u1), (2, .int u2)]) : W p l e (rmD 12) s m args below meth c H locs 0 0 Q (F0 m 31 ls [.int t0, .ref (G.2.2 22)]) := by
  have hx := en_x E
  have hb := en_b E
  have hB := en_B E
  unfold fX10_alone_j31 at h
  refine lv_iconst (v := (1 : Int32)) hx hb dX10_alone_31 (by decide) ?_
  obtain ⟨y5, V6, h4, h⟩ := ob_I_some h
  refine c_VI E hw (kX10_throwsIf (l := l) (G := G) hB  h4) yy_X10_throwsIf lm_RX10_233 rfl (by decide) rfl rfl hl.1 (by decide) (by decide) rfl (Nat.le_of_ble_eq_true rfl) dX10_alone_32 (fun H locs hw => ?_)
  refine lv_if_eq (tgt := 40) hx hb dX10_alone_35 (by decide) (fun c25 => ?_) (fun c25 => ?_)
  · rw [if_pos c25] at h
    refine lv_aload_n hx hb dX10_alone_40 rfl (lv_at hl 0 rfl) ?_
    refine lv_iload_n hx hb dX10_alone_41 rfl (lv_at hl 1 rfl) ?_
    obtain ⟨V8, h7, h⟩ := ob_R_some h
    refine c_VV E hw (kX10_laysEyes (l := l) (G := G) hB  h7) yy_X10_laysEyes lm_RX10_419 rfl (by decide) rfl rfl hl.1 (by decide) (by decide) rfl (Nat.le_of_ble_eq_true rfl) dX10_alone_42 (fun H locs hw => ?_)
    refine lv_iconst (v := (0 : Int32)) hx hb dX10_alone_45 (by decide) ?_
    refine lv_istore_n (lv' := [(3, .int (0 : Int32)), (0, .ref (G.2.2 22)), (1, .int u1), (2, .int u2)]) hx hb dX10_alone_46 rfl hl (by decide) rfl (fun ls hl => ?_)
    refine lv_iconst (v := (0 : Int32)) hx hb dX10_alone_47 (by decide) ?_
    refine lv_istore (lv' := [(4, .int (0 : Int32)), (3, .int (0 : Int32)), (0, .ref (G.2.2 22)), (1, .int u1), (2, .int u2)]) hx hb dX10_alone_48 hl (by decide) rfl (fun ls hl => ?_)
    refine lv_iconst (v := (0 : Int32)) hx hb dX10_alone_50 (by decide) ?_
    refine lv_istore (lv' := [(5, .int (0 : Int32)), (4, .int (0 : Int32)), (3, .int (0 : Int32)), (0, .ref (G.2.2 22)), (1, .int u1), (2, .int u2)]) hx hb dX10_alone_51 hl (by decide) rfl (fun ls hl => ?_)
    obtain ⟨x18, h17, h⟩ := ob_R_some h
    obtain ⟨V22, y19, y20, y21⟩ := x18
    refine wX10_alone_L53 E (fun q e H locs ls hw hl => ?_) FV (V8, u2, (0 : Int32), (0 : Int32), (0 : Int32)) h17 H locs ls hw (lv_sub hl [3, 5, 2, 1, 0] rfl)
    subst e
    have hw : HW G s.heap V22 H locs := hw
    have hl : lv_has ls 6 [(0, .ref (G.2.2 22)), (2, .int y19), (3, .int y20), (4, .int y21)] := hl
    have h := dt4_eq h
    refine lv_iload_n hx hb dX10_alone_92 rfl (lv_at hl 2 rfl) ?_
    refine lv_iload hx hb dX10_alone_93 (lv_at hl 3 rfl) ?_
    refine lv_iconst (v := (-1 : Int32)) hx hb dX10_alone_95 (by decide) ?_
    refine lv_ixor hx hb dX10_alone_96 ?_
    refine lv_iand hx hb dX10_alone_97 ?_
    refine lv_iload_n hx hb dX10_alone_98 rfl (lv_at hl 1 rfl) ?_
    refine lv_iconst (v := (-1 : Int32)) hx hb dX10_alone_99 (by decide) ?_
    refine lv_icmp_ne (tgt := 107) hx hb dX10_alone_100 (by decide) (fun c24 => ?_) (fun c24 => ?_)
    · rw [if_neg c24] at h
      refine lv_aload_n hx hb dX10_alone_107 rfl (lv_at hl 0 rfl) ?_
      refine r_gr E hw 22 27 86 (N := 29) (C := RX10) (T := TX10) (by decide) rfl rfl (by decide) rfl iw_10 rfl lf_RX10_48 dX10_alone_108 ?_
      refine lv_iload_n hx hb dX10_alone_111 rfl (lv_at hl 1 rfl) ?_
      obtain ⟨b23, h⟩ := rd_some h
      refine r_ia E hw 86 8 (by decide) (by decide) (by decide) rfl rfl b23 dX10_alone_112 ?_
      refine lv_iand hx hb dX10_alone_113 ?_
      have h := Option.some.inj h
      subst h
      rw [kr]
      exact r_ri E hw dX10_alone_114
    · rw [if_pos c24] at h
      refine lv_iload_n hx hb dX10_alone_103 rfl (lv_at hl 2 rfl) ?_
      refine lv_goto (tgt := 113) hx hb dX10_alone_104 (by decide) ?_
      refine lv_iand hx hb dX10_alone_113 ?_
      have h := Option.some.inj h
      subst h
      rw [kr]
      exact r_ri E hw dX10_alone_114
  · rw [if_neg c25] at h
    refine lv_iconst (v := (0 : Int32)) hx hb dX10_alone_38 (by decide) ?_
    have h := Option.some.inj h
    subst h
    rw [kr]
    exact r_ri E hw dX10_alone_39
set_option maxHeartbeats 4000000 in
set_option maxRecDepth 100000 in
theorem wX10_alone_j26 {p : Program} {l : Launch} {e : Env} {s : State} {m : MethodId} {args : Array Value} {below : List Frame} {meth : Method} {c : Code} {G : GT} {B : BGt} {Q : State → Prop} (E : En p s m args c meth cX10_alone 6 RX10 (some .int) G B) {V : VT} {u1 : Int32} {u2 : Int32} {r : (Int32 × VT)} (h : fX10_alone_j26 V u1 u2 = some r) (kr : Q = MQ below (QI G s.heap.size r.1 r.2) args s 0 0 (gA G s.heap.size)) {H : Heap} {locs : List Loc} {ls : Array Slot} (hw : HW G s.heap V H locs) (hl : lv_has ls 6 [(0, .ref (G.2.2 22)), (1, .int u1), (2, .int u2)]) : W p l e (rmD 12) s m args below meth c H locs 0 0 Q (F0 m 26 ls [.ref (G.2.2 22)]) := by
  have hx := en_x E
  have hb := en_b E
  have hB := en_B E
  unfold fX10_alone_j26 at h
  refine lv_iconst (v := (1 : Int32)) hx hb dX10_alone_26 (by decide) ?_
  refine lv_goto (tgt := 31) hx hb dX10_alone_27 (by decide) ?_
  exact wX10_alone_j31 E h kr hw (lv_sub hl [0, 1, 2] rfl)
set_option maxHeartbeats 4000000 in
set_option maxRecDepth 100000 in
theorem wX10_alone_j30 {p : Program} {l : Launch} {e : Env} {s : State} {m : MethodId} {args : Array Value} {below : List Frame} {meth : Method} {c : Code} {G : GT} {B : BGt} {Q : State → Prop} (E : En p s m args c meth cX10_alone 6 RX10 (some .int) G B) {V : VT} {u1 : Int32} {u2 : Int32} {r : (Int32 × VT)} (h : fX10_alone_j30 V u1 u2 = some r) (kr : Q = MQ below (QI G s.heap.size r.1 r.2) args s 0 0 (gA G s.heap.size)) {H : Heap} {locs : List Loc} {ls : Array Slot} (hw : HW G s.heap V H locs) (hl : lv_has ls 6 [(0, .ref (G.2.2 22)), (1, .int u1), (2, .int u2)]) : W p l e (rmD 12) s m args below meth c H locs 0 0 Q (F0 m 30 ls [.ref (G.2.2 22)]) := by
  have hx := en_x E
  have hb := en_b E
  have hB := en_B E
  unfold fX10_alone_j30 at h
  refine lv_iconst (v := (0 : Int32)) hx hb dX10_alone_30 (by decide) ?_
  exact wX10_alone_j31 E h kr hw (lv_sub hl [0, 1, 2] rfl)
set_option maxHeartbeats 4000000 in
set_option maxRecDepth 100000 in
theorem kX10_alone {l : Launch} {G : GT} {B : BGt} (hB : BGok B) {V : VT} {x1 : Int32} {x2 : Int32} {r : (Int32 × VT)} (h : fX10_alone V x1 x2 = some r) : CI l G B yX10_alone (.code yX10_alone cX10_alone 6 (some .int)) 12 [.ref (G.2.2 22), .int x1, .int x2] V r.1 r.2 := by
  intro sz
  refine met_of (Qs := fun sz => QI G sz (r.1) (r.2)) hB (by decide) (Nat.le_of_ble_eq_true rfl) ?_ sz
  intro p e s m args below meth c ls E hw hl
  have hx := en_x E
  have hb := en_b E
  generalize hQ : MQ _ _ _ _ _ _ _ = Q
  have kr : Q = MQ below (QI G s.heap.size r.1 r.2) args s 0 0 (gA G s.heap.size) := hQ.symm
  have hl : lv_has ls 6 [(0, .ref (G.2.2 22)), (1, .int x1), (2, .int x2)] := hl
  obtain ⟨H, eH⟩ : ∃ H, H = s.heap := ⟨_, rfl⟩
  obtain ⟨locs, elocs⟩ : ∃ z : List Loc, z = [] := ⟨_, rfl⟩
  have hw : HW G s.heap V H locs := by rw [eH, elocs]; exact hw
  show W p l e _ s m args below meth c s.heap [] 0 0 Q (F0 m 0 ls [])
  rw [← eH, ← elocs]
  unfold fX10_alone at h
  refine lv_aload_n hx hb dX10_alone_0 rfl (lv_at hl 0 rfl) ?_
  refine lv_iconst (v := (0 : Int32)) hx hb dX10_alone_1 (by decide) ?_
  obtain ⟨V1, eV1, h⟩ := lt_some h
  refine r_pi E hw 22 0 (N := 29) (C := RX10) (T := TX10) (ty0 := tyX10) (ty := .int) (by decide) rfl rfl (by decide) rfl iw_10 rfl tyX10_ok nmX10 rfl rfl (vp_nar_int _) rfl lf_RX10_3 eV1 dX10_alone_2 (fun H locs hw => ?_)
  refine lv_aload_n hx hb dX10_alone_5 rfl (lv_at hl 0 rfl) ?_
  refine lv_iload_n hx hb dX10_alone_6 rfl (lv_at hl 1 rfl) ?_
  obtain ⟨y3, h2, h⟩ := ob_R_some h
  refine c_SI E hw (kX10_noHour (l := l) (G := G) hB  h2) yy_X10_noHour lm_RX10_315 rfl hl.1 (by decide) (by decide) rfl (Nat.le_of_ble_eq_true rfl) dX10_alone_7 (fun H locs hw => ?_)
  refine lv_if_ne (tgt := 26) hx hb dX10_alone_10 (by decide) (fun c30 => ?_) (fun c30 => ?_)
  · rw [if_neg c30] at h
    exact wX10_alone_j26 E h kr hw (lv_sub hl [0, 1, 2] rfl)
  · rw [if_pos c30] at h
    refine lv_iload_n hx hb dX10_alone_13 rfl (lv_at hl 2 rfl) ?_
    refine lv_iconst (v := (-1 : Int32)) hx hb dX10_alone_14 (by decide) ?_
    refine lv_icmp_eq (tgt := 30) hx hb dX10_alone_15 (by decide) (fun c29 => ?_) (fun c29 => ?_)
    · rw [if_pos c29] at h
      exact wX10_alone_j30 E h kr hw (lv_sub hl [0, 1, 2] rfl)
    · rw [if_neg c29] at h
      refine lv_aload_n hx hb dX10_alone_18 rfl (lv_at hl 0 rfl) ?_
      refine lv_iload_n hx hb dX10_alone_19 rfl (lv_at hl 2 rfl) ?_
      obtain ⟨y27, h26, h⟩ := ob_R_some h
      refine c_VI E hw (kX10_noHouse (l := l) (G := G) hB  h26) yy_X10_noHouse lm_RX10_309 rfl (by decide) rfl rfl hl.1 (by decide) (by decide) rfl (Nat.le_of_ble_eq_true rfl) dX10_alone_20 (fun H locs hw => ?_)
      refine lv_if_eq (tgt := 30) hx hb dX10_alone_23 (by decide) (fun c28 => ?_) (fun c28 => ?_)
      · rw [if_pos c28] at h
        exact wX10_alone_j30 E h kr hw (lv_sub hl [0, 1, 2] rfl)
      · rw [if_neg c28] at h
        exact wX10_alone_j26 E h kr hw (lv_sub hl [0, 1, 2] rfl)
/-! ===== AllSawItModel.twins()I ===== -/
theorem dX10_twins_0 : decode cX10_twins 0 = .ok (.aload_n 0, 1) := by decide +kernel
theorem dX10_twins_1 : decode cX10_twins 1 = .ok (.iconst 0, 1) := by decide +kernel
theorem dX10_twins_2 : decode cX10_twins 2 = .ok (.putfield 3, 3) := by decide +kernel
theorem dX10_twins_5 : decode cX10_twins 5 = .ok (.iconst 0, 1) := by decide +kernel
theorem dX10_twins_6 : decode cX10_twins 6 = .ok (.istore_n 1, 1) := by decide +kernel
theorem dX10_twins_7 : decode cX10_twins 7 = .ok (.iload_n 1, 1) := by decide +kernel
theorem dX10_twins_8 : decode cX10_twins 8 = .ok (.bipush 64, 2) := by decide +kernel
theorem dX10_twins_10 : decode cX10_twins 10 = .ok (.if_icmp .ge 16, 3) := by decide +kernel
theorem dX10_twins_13 : decode cX10_twins 13 = .ok (.aload_n 0, 1) := by decide +kernel
theorem dX10_twins_14 : decode cX10_twins 14 = .ok (.getfield 51, 3) := by decide +kernel
theorem dX10_twins_17 : decode cX10_twins 17 = .ok (.iload_n 1, 1) := by decide +kernel
theorem dX10_twins_18 : decode cX10_twins 18 = .ok (.iconst 0, 1) := by decide +kernel
theorem dX10_twins_19 : decode cX10_twins 19 = .ok (.bastore, 1) := by decide +kernel
theorem dX10_twins_20 : decode cX10_twins 20 = .ok (.iinc 1 1, 3) := by decide +kernel
theorem dX10_twins_23 : decode cX10_twins 23 = .ok (.goto (-16), 3) := by decide +kernel
theorem dX10_twins_26 : decode cX10_twins 26 = .ok (.iconst 0, 1) := by decide +kernel
theorem dX10_twins_27 : decode cX10_twins 27 = .ok (.istore_n 1, 1) := by decide +kernel
theorem dX10_twins_28 : decode cX10_twins 28 = .ok (.iload_n 1, 1) := by decide +kernel
theorem dX10_twins_29 : decode cX10_twins 29 = .ok (.bipush 24, 2) := by decide +kernel
theorem dX10_twins_31 : decode cX10_twins 31 = .ok (.if_icmp .ge 77, 3) := by decide +kernel
theorem dX10_twins_34 : decode cX10_twins 34 = .ok (.aload_n 0, 1) := by decide +kernel
theorem dX10_twins_35 : decode cX10_twins 35 = .ok (.iload_n 1, 1) := by decide +kernel
theorem dX10_twins_36 : decode cX10_twins 36 = .ok (.invokevirtual 419, 3) := by decide +kernel
theorem dX10_twins_39 : decode cX10_twins 39 = .ok (.iconst 0, 1) := by decide +kernel
theorem dX10_twins_40 : decode cX10_twins 40 = .ok (.istore_n 2, 1) := by decide +kernel
theorem dX10_twins_41 : decode cX10_twins 41 = .ok (.iload_n 2, 1) := by decide +kernel
theorem dX10_twins_42 : decode cX10_twins 42 = .ok (.aload_n 0, 1) := by decide +kernel
theorem dX10_twins_43 : decode cX10_twins 43 = .ok (.invokevirtual 62, 3) := by decide +kernel
theorem dX10_twins_46 : decode cX10_twins 46 = .ok (.if_icmp .ge 56, 3) := by decide +kernel
theorem dX10_twins_49 : decode cX10_twins 49 = .ok (.iconst 0, 1) := by decide +kernel
theorem dX10_twins_50 : decode cX10_twins 50 = .ok (.istore_n 3, 1) := by decide +kernel
theorem dX10_twins_51 : decode cX10_twins 51 = .ok (.iload_n 3, 1) := by decide +kernel
theorem dX10_twins_52 : decode cX10_twins 52 = .ok (.iload_n 2, 1) := by decide +kernel
theorem dX10_twins_53 : decode cX10_twins 53 = .ok (.if_icmp .ge 43, 3) := by decide +kernel
theorem dX10_twins_56 : decode cX10_twins 56 = .ok (.aload_n 0, 1) := by decide +kernel
theorem dX10_twins_57 : decode cX10_twins 57 = .ok (.getfield 51, 3) := by decide +kernel
theorem dX10_twins_60 : decode cX10_twins 60 = .ok (.bipush 8, 2) := by decide +kernel
theorem dX10_twins_62 : decode cX10_twins 62 = .ok (.iload_n 2, 1) := by decide +kernel
theorem dX10_twins_63 : decode cX10_twins 63 = .ok (.imul, 1) := by decide +kernel
theorem dX10_twins_64 : decode cX10_twins 64 = .ok (.iload_n 3, 1) := by decide +kernel
theorem dX10_twins_65 : decode cX10_twins 65 = .ok (.iadd, 1) := by decide +kernel
theorem dX10_twins_66 : decode cX10_twins 66 = .ok (.dup2, 1) := by decide +kernel
theorem dX10_twins_67 : decode cX10_twins 67 = .ok (.baload, 1) := by decide +kernel
theorem dX10_twins_68 : decode cX10_twins 68 = .ok (.aload_n 0, 1) := by decide +kernel
theorem dX10_twins_69 : decode cX10_twins 69 = .ok (.getfield 48, 3) := by decide +kernel
theorem dX10_twins_72 : decode cX10_twins 72 = .ok (.iload_n 2, 1) := by decide +kernel
theorem dX10_twins_73 : decode cX10_twins 73 = .ok (.iaload, 1) := by decide +kernel
theorem dX10_twins_74 : decode cX10_twins 74 = .ok (.aload_n 0, 1) := by decide +kernel
theorem dX10_twins_75 : decode cX10_twins 75 = .ok (.getfield 48, 3) := by decide +kernel
theorem dX10_twins_78 : decode cX10_twins 78 = .ok (.iload_n 3, 1) := by decide +kernel
theorem dX10_twins_79 : decode cX10_twins 79 = .ok (.iaload, 1) := by decide +kernel
theorem dX10_twins_80 : decode cX10_twins 80 = .ok (.if_icmp .eq 7, 3) := by decide +kernel
theorem dX10_twins_83 : decode cX10_twins 83 = .ok (.iconst 1, 1) := by decide +kernel
theorem dX10_twins_84 : decode cX10_twins 84 = .ok (.goto 4, 3) := by decide +kernel
theorem dX10_twins_87 : decode cX10_twins 87 = .ok (.iconst 0, 1) := by decide +kernel
theorem dX10_twins_88 : decode cX10_twins 88 = .ok (.ior, 1) := by decide +kernel
theorem dX10_twins_89 : decode cX10_twins 89 = .ok (.bastore, 1) := by decide +kernel
theorem dX10_twins_90 : decode cX10_twins 90 = .ok (.iinc 3 1, 3) := by decide +kernel
theorem dX10_twins_93 : decode cX10_twins 93 = .ok (.goto (-42), 3) := by decide +kernel
theorem dX10_twins_96 : decode cX10_twins 96 = .ok (.iinc 2 1, 3) := by decide +kernel
theorem dX10_twins_99 : decode cX10_twins 99 = .ok (.goto (-58), 3) := by decide +kernel
theorem dX10_twins_102 : decode cX10_twins 102 = .ok (.iinc 1 1, 3) := by decide +kernel
theorem dX10_twins_105 : decode cX10_twins 105 = .ok (.goto (-77), 3) := by decide +kernel
theorem dX10_twins_108 : decode cX10_twins 108 = .ok (.iconst 0, 1) := by decide +kernel
theorem dX10_twins_109 : decode cX10_twins 109 = .ok (.istore_n 1, 1) := by decide +kernel
theorem dX10_twins_110 : decode cX10_twins 110 = .ok (.iconst 0, 1) := by decide +kernel
theorem dX10_twins_111 : decode cX10_twins 111 = .ok (.istore_n 2, 1) := by decide +kernel
theorem dX10_twins_112 : decode cX10_twins 112 = .ok (.iload_n 2, 1) := by decide +kernel
theorem dX10_twins_113 : decode cX10_twins 113 = .ok (.aload_n 0, 1) := by decide +kernel
theorem dX10_twins_114 : decode cX10_twins 114 = .ok (.invokevirtual 62, 3) := by decide +kernel
theorem dX10_twins_117 : decode cX10_twins 117 = .ok (.if_icmp .ge 44, 3) := by decide +kernel
theorem dX10_twins_120 : decode cX10_twins 120 = .ok (.iconst 0, 1) := by decide +kernel
theorem dX10_twins_121 : decode cX10_twins 121 = .ok (.istore_n 3, 1) := by decide +kernel
theorem dX10_twins_122 : decode cX10_twins 122 = .ok (.iload_n 3, 1) := by decide +kernel
theorem dX10_twins_123 : decode cX10_twins 123 = .ok (.iload_n 2, 1) := by decide +kernel
theorem dX10_twins_124 : decode cX10_twins 124 = .ok (.if_icmp .ge 31, 3) := by decide +kernel
theorem dX10_twins_127 : decode cX10_twins 127 = .ok (.iload_n 1, 1) := by decide +kernel
theorem dX10_twins_128 : decode cX10_twins 128 = .ok (.aload_n 0, 1) := by decide +kernel
theorem dX10_twins_129 : decode cX10_twins 129 = .ok (.getfield 51, 3) := by decide +kernel
theorem dX10_twins_132 : decode cX10_twins 132 = .ok (.bipush 8, 2) := by decide +kernel
theorem dX10_twins_134 : decode cX10_twins 134 = .ok (.iload_n 2, 1) := by decide +kernel
theorem dX10_twins_135 : decode cX10_twins 135 = .ok (.imul, 1) := by decide +kernel
theorem dX10_twins_136 : decode cX10_twins 136 = .ok (.iload_n 3, 1) := by decide +kernel
theorem dX10_twins_137 : decode cX10_twins 137 = .ok (.iadd, 1) := by decide +kernel
theorem dX10_twins_138 : decode cX10_twins 138 = .ok (.baload, 1) := by decide +kernel
theorem dX10_twins_139 : decode cX10_twins 139 = .ok (.ifCond .eq 7, 3) := by decide +kernel
theorem dX10_twins_142 : decode cX10_twins 142 = .ok (.iconst 0, 1) := by decide +kernel
theorem dX10_twins_143 : decode cX10_twins 143 = .ok (.goto 4, 3) := by decide +kernel
theorem dX10_twins_146 : decode cX10_twins 146 = .ok (.iconst 1, 1) := by decide +kernel
theorem dX10_twins_147 : decode cX10_twins 147 = .ok (.iadd, 1) := by decide +kernel
theorem dX10_twins_148 : decode cX10_twins 148 = .ok (.istore_n 1, 1) := by decide +kernel
theorem dX10_twins_149 : decode cX10_twins 149 = .ok (.iinc 3 1, 3) := by decide +kernel
theorem dX10_twins_152 : decode cX10_twins 152 = .ok (.goto (-30), 3) := by decide +kernel
theorem dX10_twins_155 : decode cX10_twins 155 = .ok (.iinc 2 1, 3) := by decide +kernel
theorem dX10_twins_158 : decode cX10_twins 158 = .ok (.goto (-46), 3) := by decide +kernel
theorem dX10_twins_161 : decode cX10_twins 161 = .ok (.iload_n 1, 1) := by decide +kernel
theorem dX10_twins_162 : decode cX10_twins 162 = .ok (.ireturn, 1) := by decide +kernel
noncomputable def fX10_twins_L7 (V : VT) (u1 : Int32) : Option ((VT × Int32) ⊕ VT) := if (64 : Int32) ≤ u1 then (some (.inr (V))) else (rd_ u1 64 (lt_ (va_up V 87 (upd (V 87) u1.toNatClampNeg (vp_nar .boolean (0 : Int32)))) fun V3 => lt_ (u1 + (1 : Int32)) fun y4 => some (.inl (V3, y4))))
noncomputable def iX10_twins_L7 : (VT × Int32) → Option ((VT × Int32) ⊕ VT) := fun q => fX10_twins_L7 (q.1) (q.2)
noncomputable def fX10_twins_L51 (V : VT) (u1 : Int32) (u2 : Int32) (u3 : Int32) : Option ((VT × Int32 × Int32 × Int32) ⊕ (VT × Int32 × Int32)) := if u2 ≤ u3 then (some (.inr ((V, u1, u2)))) else (rd_ (((8 : Int32) * u2) + u3) 64 (rd_ u2 8 (rd_ u3 8 (if (V 86 u2.toNatClampNeg) = (V 86 u3.toNatClampNeg) then (rd_ (((8 : Int32) * u2) + u3) 64 (lt_ (va_up V 87 (upd (V 87) (((8 : Int32) * u2) + u3).toNatClampNeg (vp_nar .boolean ((V 87 (((8 : Int32) * u2) + u3).toNatClampNeg) ||| (0 : Int32))))) fun V17 => lt_ (u3 + (1 : Int32)) fun y18 => some (.inl (V17, u1, u2, y18)))) else (rd_ (((8 : Int32) * u2) + u3) 64 (lt_ (va_up V 87 (upd (V 87) (((8 : Int32) * u2) + u3).toNatClampNeg (vp_nar .boolean ((V 87 (((8 : Int32) * u2) + u3).toNatClampNeg) ||| (1 : Int32))))) fun V20 => lt_ (u3 + (1 : Int32)) fun y21 => some (.inl (V20, u1, u2, y21))))))))
noncomputable def iX10_twins_L51 : (VT × Int32 × Int32 × Int32) → Option ((VT × Int32 × Int32 × Int32) ⊕ (VT × Int32 × Int32)) := fun q => fX10_twins_L51 (q.1) (q.2.1) (q.2.2.1) (q.2.2.2)
noncomputable def fX10_twins_L41 (V : VT) (u1 : Int32) (u2 : Int32) : Option ((VT × Int32 × Int32) ⊕ (VT × Int32)) := ob_R (fX10_houses V ) fun y12 => if y12 ≤ u2 then (some (.inr ((V, u1)))) else (ob_R (it_ (iX10_twins_L51) FV (V, u1, u2, (0 : Int32))) fun x25 => (dt3_ x25 fun V28 y26 y27 => lt_ (y27 + (1 : Int32)) fun y29 => some (.inl (V28, y26, y29))))
noncomputable def iX10_twins_L41 : (VT × Int32 × Int32) → Option ((VT × Int32 × Int32) ⊕ (VT × Int32)) := fun q => fX10_twins_L41 (q.1) (q.2.1) (q.2.2)
noncomputable def fX10_twins_L28 (V : VT) (u1 : Int32) : Option ((VT × Int32) ⊕ VT) := if (24 : Int32) ≤ u1 then (some (.inr (V))) else (ob_R (fX10_laysEyes V u1) fun V10 => ob_R (it_ (iX10_twins_L41) FV (V10, u1, (0 : Int32))) fun x32 => (dt2_ x32 fun V34 y33 => lt_ (y33 + (1 : Int32)) fun y35 => some (.inl (V34, y35))))
noncomputable def iX10_twins_L28 : (VT × Int32) → Option ((VT × Int32) ⊕ VT) := fun q => fX10_twins_L28 (q.1) (q.2)
noncomputable def fX10_twins_L122 (V : VT) (u1 : Int32) (u2 : Int32) (u3 : Int32) : Option ((VT × Int32 × Int32 × Int32) ⊕ (VT × Int32 × Int32)) := if u2 ≤ u3 then (some (.inr ((V, u1, u2)))) else (rd_ (((8 : Int32) * u2) + u3) 64 (if (V 87 (((8 : Int32) * u2) + u3).toNatClampNeg) = 0 then (lt_ (u1 + (1 : Int32)) fun y43 => lt_ (u3 + (1 : Int32)) fun y44 => some (.inl (V, y43, u2, y44))) else (lt_ (u1 + (0 : Int32)) fun y45 => lt_ (u3 + (1 : Int32)) fun y46 => some (.inl (V, y45, u2, y46)))))
noncomputable def iX10_twins_L122 : (VT × Int32 × Int32 × Int32) → Option ((VT × Int32 × Int32 × Int32) ⊕ (VT × Int32 × Int32)) := fun q => fX10_twins_L122 (q.1) (q.2.1) (q.2.2.1) (q.2.2.2)
noncomputable def fX10_twins_L112 (V : VT) (u1 : Int32) (u2 : Int32) : Option ((VT × Int32 × Int32) ⊕ (Int32 × VT)) := ob_R (fX10_houses V ) fun y41 => if y41 ≤ u2 then (some (.inr ((u1, V)))) else (ob_R (it_ (iX10_twins_L122) FV (V, u1, u2, (0 : Int32))) fun x50 => (dt3_ x50 fun V53 y51 y52 => lt_ (y52 + (1 : Int32)) fun y54 => some (.inl (V53, y51, y54))))
noncomputable def iX10_twins_L112 : (VT × Int32 × Int32) → Option ((VT × Int32 × Int32) ⊕ (Int32 × VT)) := fun q => fX10_twins_L112 (q.1) (q.2.1) (q.2.2)
noncomputable def fX10_twins (V : VT) : Option (Int32 × VT) := lt_ (va_up V 22 (upd (V 22) 0 (0 : Int32))) fun V1 => ob_R (it_ (iX10_twins_L7) FV (V1, (0 : Int32))) fun x7 => (lt_ x7 fun V8 => ob_R (it_ (iX10_twins_L28) FV (V8, (0 : Int32))) fun x38 => (lt_ x38 fun V39 => ob_R (it_ (iX10_twins_L112) FV (V39, (0 : Int32), (0 : Int32))) fun x57 => some x57))
set_option maxHeartbeats 4000000 in
set_option maxRecDepth 100000 in
theorem wX10_twins_L7 {p : Program} {l : Launch} {e : Env} {s : State} {m : MethodId} {args : Array Value} {below : List Frame} {meth : Method} {c : Code} {G : GT} {B : BGt} {Q : State → Prop} (E : En p s m args c meth cX10_twins 4 RX10 (some .int) G B) {x : VT} (ke : ∀ q : VT, x = q → ∀ (H : Heap) (locs : List Loc) (ls : Array Slot), HW G s.heap q H locs → lv_has ls 4 [(0, .ref (G.2.2 22))] → W p l e (rmD 12) s m args below meth c H locs 0 0 Q (F0 m 26 ls [])) : ∀ (n : Nat) (q : (VT × Int32)), it_ (iX10_twins_L7) n q = some x → ∀ (H : Heap) (locs : List Loc) (ls : Array Slot), HW G s.heap (q.1) H locs → lv_has ls 4 [(0, .ref (G.2.2 22)), (1, .int (q.2))] → W p l e (rmD 12) s m args below meth c H locs 0 0 Q (F0 m 7 ls []) := by
  have hx := en_x E
  have hb := en_b E
  have hB := en_B E
  refine it_W (fun q : (VT × Int32) => ∀ (H : Heap) (locs : List Loc) (ls : Array Slot), HW G s.heap (q.1) H locs → lv_has ls 4 [(0, .ref (G.2.2 22)), (1, .int (q.2))] → W p l e (rmD 12) s m args below meth c H locs 0 0 Q (F0 m 7 ls [])) x ?_
  intro q r h kc kx
  obtain ⟨V, u1⟩ := q
  intro H locs ls hw hl
  have h : fX10_twins_L7 V u1 = some r := h
  have hw : HW G s.heap V H locs := hw
  have hl : lv_has ls 4 [(0, .ref (G.2.2 22)), (1, .int u1)] := hl
  have ke : ∀ q : VT, r = .inr (q) → ∀ (H : Heap) (locs : List Loc) (ls : Array Slot), HW G s.heap q H locs → lv_has ls 4 [(0, .ref (G.2.2 22))] → W p l e (rmD 12) s m args below meth c H locs 0 0 Q (F0 m 26 ls []) := fun q e => ke q (kx _ e).symm
  unfold fX10_twins_L7 at h
  refine lv_iload_n hx hb dX10_twins_7 rfl (lv_at hl 1 rfl) ?_
  refine lv_bipush (v := (64 : Int32)) hx hb dX10_twins_8 (by decide) ?_
  refine lv_icmp_ge (tgt := 26) hx hb dX10_twins_10 (by decide) (fun c5 => ?_) (fun c5 => ?_)
  · rw [if_pos c5] at h
    exact ke V (Option.some.inj h).symm H locs ls hw (lv_sub hl [0] rfl)
  · rw [if_neg c5] at h
    refine lv_aload_n hx hb dX10_twins_13 rfl (lv_at hl 0 rfl) ?_
    refine r_gr E hw 22 28 87 (N := 29) (C := RX10) (T := TX10) (by decide) rfl rfl (by decide) rfl iw_10 rfl lf_RX10_51 dX10_twins_14 ?_
    refine lv_iload_n hx hb dX10_twins_17 rfl (lv_at hl 1 rfl) ?_
    refine lv_iconst (v := (0 : Int32)) hx hb dX10_twins_18 (by decide) ?_
    obtain ⟨b2, h⟩ := rd_some h
    obtain ⟨V3, eV3, h⟩ := lt_some h
    refine r_zs E hw 87 64 (by decide) (by decide) (by decide) rfl rfl b2 eV3 dX10_twins_19 (fun H locs hw => ?_)
    obtain ⟨y4, ey4, h⟩ := lt_some h
    refine lv_iinc (v := y4) (lv' := [(1, .int y4), (0, .ref (G.2.2 22))]) hx hb dX10_twins_20 hl (k := 1) rfl (by rw [ey4]; rfl) (by decide) rfl (fun ls hl => ?_)
    refine lv_goto (tgt := 7) hx hb dX10_twins_23 (by decide) ?_
    exact kc (V3, y4) (Option.some.inj h).symm H locs ls hw (lv_sub hl [1, 0] rfl)
set_option maxHeartbeats 4000000 in
set_option maxRecDepth 100000 in
theorem wX10_twins_L51 {p : Program} {l : Launch} {e : Env} {s : State} {m : MethodId} {args : Array Value} {below : List Frame} {meth : Method} {c : Code} {G : GT} {B : BGt} {Q : State → Prop} (E : En p s m args c meth cX10_twins 4 RX10 (some .int) G B) {x : (VT × Int32 × Int32)} (ke : ∀ q : (VT × Int32 × Int32), x = q → ∀ (H : Heap) (locs : List Loc) (ls : Array Slot), HW G s.heap (q.1) H locs → lv_has ls 4 [(0, .ref (G.2.2 22)), (1, .int (q.2.1)), (2, .int (q.2.2))] → W p l e (rmD 12) s m args below meth c H locs 0 0 Q (F0 m 96 ls [])) : ∀ (n : Nat) (q : (VT × Int32 × Int32 × Int32)), it_ (iX10_twins_L51) n q = some x → ∀ (H : Heap) (locs : List Loc) (ls : Array Slot), HW G s.heap (q.1) H locs → lv_has ls 4 [(0, .ref (G.2.2 22)), (1, .int (q.2.1)), (2, .int (q.2.2.1)), (3, .int (q.2.2.2))] → W p l e (rmD 12) s m args below meth c H locs 0 0 Q (F0 m 51 ls []) := by
  have hx := en_x E
  have hb := en_b E
  have hB := en_B E
  refine it_W (fun q : (VT × Int32 × Int32 × Int32) => ∀ (H : Heap) (locs : List Loc) (ls : Array Slot), HW G s.heap (q.1) H locs → lv_has ls 4 [(0, .ref (G.2.2 22)), (1, .int (q.2.1)), (2, .int (q.2.2.1)), (3, .int (q.2.2.2))] → W p l e (rmD 12) s m args below meth c H locs 0 0 Q (F0 m 51 ls [])) x ?_
  intro q r h kc kx
  obtain ⟨V, u1, u2, u3⟩ := q
  intro H locs ls hw hl
  have h : fX10_twins_L51 V u1 u2 u3 = some r := h
  have hw : HW G s.heap V H locs := hw
  have hl : lv_has ls 4 [(0, .ref (G.2.2 22)), (1, .int u1), (2, .int u2), (3, .int u3)] := hl
  have ke : ∀ q : (VT × Int32 × Int32), r = .inr (q) → ∀ (H : Heap) (locs : List Loc) (ls : Array Slot), HW G s.heap (q.1) H locs → lv_has ls 4 [(0, .ref (G.2.2 22)), (1, .int (q.2.1)), (2, .int (q.2.2))] → W p l e (rmD 12) s m args below meth c H locs 0 0 Q (F0 m 96 ls []) := fun q e => ke q (kx _ e).symm
  unfold fX10_twins_L51 at h
  refine lv_iload_n hx hb dX10_twins_51 rfl (lv_at hl 3 rfl) ?_
  refine lv_iload_n hx hb dX10_twins_52 rfl (lv_at hl 2 rfl) ?_
  refine lv_icmp_ge (tgt := 96) hx hb dX10_twins_53 (by decide) (fun c23 => ?_) (fun c23 => ?_)
  · rw [if_pos c23] at h
    exact ke (V, u1, u2) (Option.some.inj h).symm H locs ls hw (lv_sub hl [0, 1, 2] rfl)
  · rw [if_neg c23] at h
    refine lv_aload_n hx hb dX10_twins_56 rfl (lv_at hl 0 rfl) ?_
    refine r_gr E hw 22 28 87 (N := 29) (C := RX10) (T := TX10) (by decide) rfl rfl (by decide) rfl iw_10 rfl lf_RX10_51 dX10_twins_57 ?_
    refine lv_bipush (v := (8 : Int32)) hx hb dX10_twins_60 (by decide) ?_
    refine lv_iload_n hx hb dX10_twins_62 rfl (lv_at hl 2 rfl) ?_
    refine lv_imul hx hb dX10_twins_63 ?_
    refine lv_iload_n hx hb dX10_twins_64 rfl (lv_at hl 3 rfl) ?_
    refine lv_iadd hx hb dX10_twins_65 ?_
    refine lv_dup2_11 hx hb dX10_twins_66 rfl rfl ?_
    obtain ⟨b13, h⟩ := rd_some h
    refine r_za E hw 87 64 (by decide) (by decide) (by decide) rfl rfl b13 dX10_twins_67 ?_
    refine lv_aload_n hx hb dX10_twins_68 rfl (lv_at hl 0 rfl) ?_
    refine r_gr E hw 22 27 86 (N := 29) (C := RX10) (T := TX10) (by decide) rfl rfl (by decide) rfl iw_10 rfl lf_RX10_48 dX10_twins_69 ?_
    refine lv_iload_n hx hb dX10_twins_72 rfl (lv_at hl 2 rfl) ?_
    obtain ⟨b14, h⟩ := rd_some h
    refine r_ia E hw 86 8 (by decide) (by decide) (by decide) rfl rfl b14 dX10_twins_73 ?_
    refine lv_aload_n hx hb dX10_twins_74 rfl (lv_at hl 0 rfl) ?_
    refine r_gr E hw 22 27 86 (N := 29) (C := RX10) (T := TX10) (by decide) rfl rfl (by decide) rfl iw_10 rfl lf_RX10_48 dX10_twins_75 ?_
    refine lv_iload_n hx hb dX10_twins_78 rfl (lv_at hl 3 rfl) ?_
    obtain ⟨b15, h⟩ := rd_some h
    refine r_ia E hw 86 8 (by decide) (by decide) (by decide) rfl rfl b15 dX10_twins_79 ?_
    refine lv_icmp_eq (tgt := 87) hx hb dX10_twins_80 (by decide) (fun c22 => ?_) (fun c22 => ?_)
    · rw [if_pos c22] at h
      refine lv_iconst (v := (0 : Int32)) hx hb dX10_twins_87 (by decide) ?_
      refine lv_ior hx hb dX10_twins_88 ?_
      obtain ⟨b16, h⟩ := rd_some h
      obtain ⟨V17, eV17, h⟩ := lt_some h
      refine r_zs E hw 87 64 (by decide) (by decide) (by decide) rfl rfl b16 eV17 dX10_twins_89 (fun H locs hw => ?_)
      obtain ⟨y18, ey18, h⟩ := lt_some h
      refine lv_iinc (v := y18) (lv' := [(3, .int y18), (0, .ref (G.2.2 22)), (1, .int u1), (2, .int u2)]) hx hb dX10_twins_90 hl (k := 3) rfl (by rw [ey18]; rfl) (by decide) rfl (fun ls hl => ?_)
      refine lv_goto (tgt := 51) hx hb dX10_twins_93 (by decide) ?_
      exact kc (V17, u1, u2, y18) (Option.some.inj h).symm H locs ls hw (lv_sub hl [1, 2, 3, 0] rfl)
    · rw [if_neg c22] at h
      refine lv_iconst (v := (1 : Int32)) hx hb dX10_twins_83 (by decide) ?_
      refine lv_goto (tgt := 88) hx hb dX10_twins_84 (by decide) ?_
      refine lv_ior hx hb dX10_twins_88 ?_
      obtain ⟨b19, h⟩ := rd_some h
      obtain ⟨V20, eV20, h⟩ := lt_some h
      refine r_zs E hw 87 64 (by decide) (by decide) (by decide) rfl rfl b19 eV20 dX10_twins_89 (fun H locs hw => ?_)
      obtain ⟨y21, ey21, h⟩ := lt_some h
      refine lv_iinc (v := y21) (lv' := [(3, .int y21), (0, .ref (G.2.2 22)), (1, .int u1), (2, .int u2)]) hx hb dX10_twins_90 hl (k := 3) rfl (by rw [ey21]; rfl) (by decide) rfl (fun ls hl => ?_)
      refine lv_goto (tgt := 51) hx hb dX10_twins_93 (by decide) ?_
      exact kc (V20, u1, u2, y21) (Option.some.inj h).symm H locs ls hw (lv_sub hl [1, 2, 3, 0] rfl)
set_option maxHeartbeats 4000000 in
set_option maxRecDepth 100000 in
theorem wX10_twins_L41 {p : Program} {l : Launch} {e : Env} {s : State} {m : MethodId} {args : Array Value} {below : List Frame} {meth : Method} {c : Code} {G : GT} {B : BGt} {Q : State → Prop} (E : En p s m args c meth cX10_twins 4 RX10 (some .int) G B) {x : (VT × Int32)} (ke : ∀ q : (VT × Int32), x = q → ∀ (H : Heap) (locs : List Loc) (ls : Array Slot), HW G s.heap (q.1) H locs → lv_has ls 4 [(0, .ref (G.2.2 22)), (1, .int (q.2))] → W p l e (rmD 12) s m args below meth c H locs 0 0 Q (F0 m 102 ls [])) : ∀ (n : Nat) (q : (VT × Int32 × Int32)), it_ (iX10_twins_L41) n q = some x → ∀ (H : Heap) (locs : List Loc) (ls : Array Slot), HW G s.heap (q.1) H locs → lv_has ls 4 [(0, .ref (G.2.2 22)), (1, .int (q.2.1)), (2, .int (q.2.2))] → W p l e (rmD 12) s m args below meth c H locs 0 0 Q (F0 m 41 ls []) := by
  have hx := en_x E
  have hb := en_b E
  have hB := en_B E
  refine it_W (fun q : (VT × Int32 × Int32) => ∀ (H : Heap) (locs : List Loc) (ls : Array Slot), HW G s.heap (q.1) H locs → lv_has ls 4 [(0, .ref (G.2.2 22)), (1, .int (q.2.1)), (2, .int (q.2.2))] → W p l e (rmD 12) s m args below meth c H locs 0 0 Q (F0 m 41 ls [])) x ?_
  intro q r h kc kx
  obtain ⟨V, u1, u2⟩ := q
  intro H locs ls hw hl
  have h : fX10_twins_L41 V u1 u2 = some r := h
  have hw : HW G s.heap V H locs := hw
  have hl : lv_has ls 4 [(0, .ref (G.2.2 22)), (1, .int u1), (2, .int u2)] := hl
  have ke : ∀ q : (VT × Int32), r = .inr (q) → ∀ (H : Heap) (locs : List Loc) (ls : Array Slot), HW G s.heap (q.1) H locs → lv_has ls 4 [(0, .ref (G.2.2 22)), (1, .int (q.2))] → W p l e (rmD 12) s m args below meth c H locs 0 0 Q (F0 m 102 ls []) := fun q e => ke q (kx _ e).symm
  unfold fX10_twins_L41 at h
  refine lv_iload_n hx hb dX10_twins_41 rfl (lv_at hl 2 rfl) ?_
  refine lv_aload_n hx hb dX10_twins_42 rfl (lv_at hl 0 rfl) ?_
  obtain ⟨y12, h11, h⟩ := ob_R_some h
  refine c_VI E hw (kX10_houses (l := l) (G := G) hB  h11) yy_X10_houses lm_RX10_62 rfl (by decide) rfl rfl hl.1 (by decide) (by decide) rfl (Nat.le_of_ble_eq_true rfl) dX10_twins_43 (fun H locs hw => ?_)
  refine lv_icmp_ge (tgt := 102) hx hb dX10_twins_46 (by decide) (fun c30 => ?_) (fun c30 => ?_)
  · rw [if_pos c30] at h
    exact ke (V, u1) (Option.some.inj h).symm H locs ls hw (lv_sub hl [0, 1] rfl)
  · rw [if_neg c30] at h
    refine lv_iconst (v := (0 : Int32)) hx hb dX10_twins_49 (by decide) ?_
    refine lv_istore_n (lv' := [(3, .int (0 : Int32)), (0, .ref (G.2.2 22)), (1, .int u1), (2, .int u2)]) hx hb dX10_twins_50 rfl hl (by decide) rfl (fun ls hl => ?_)
    obtain ⟨x25, h24, h⟩ := ob_R_some h
    obtain ⟨V28, y26, y27⟩ := x25
    refine wX10_twins_L51 E (fun q e H locs ls hw hl => ?_) FV (V, u1, u2, (0 : Int32)) h24 H locs ls hw (lv_sub hl [1, 2, 3, 0] rfl)
    subst e
    have hw : HW G s.heap V28 H locs := hw
    have hl : lv_has ls 4 [(0, .ref (G.2.2 22)), (1, .int y26), (2, .int y27)] := hl
    have h := dt3_eq h
    obtain ⟨y29, ey29, h⟩ := lt_some h
    refine lv_iinc (v := y29) (lv' := [(2, .int y29), (0, .ref (G.2.2 22)), (1, .int y26)]) hx hb dX10_twins_96 hl (k := 2) rfl (by rw [ey29]; rfl) (by decide) rfl (fun ls hl => ?_)
    refine lv_goto (tgt := 41) hx hb dX10_twins_99 (by decide) ?_
    exact kc (V28, y26, y29) (Option.some.inj h).symm H locs ls hw (lv_sub hl [1, 2, 0] rfl)
set_option maxHeartbeats 4000000 in
set_option maxRecDepth 100000 in
theorem wX10_twins_L28 {p : Program} {l : Launch} {e : Env} {s : State} {m : MethodId} {args : Array Value} {below : List Frame} {meth : Method} {c : Code} {G : GT} {B : BGt} {Q : State → Prop} (E : En p s m args c meth cX10_twins 4 RX10 (some .int) G B) {x : VT} (ke : ∀ q : VT, x = q → ∀ (H : Heap) (locs : List Loc) (ls : Array Slot), HW G s.heap q H locs → lv_has ls 4 [(0, .ref (G.2.2 22))] → W p l e (rmD 12) s m args below meth c H locs 0 0 Q (F0 m 108 ls [])) : ∀ (n : Nat) (q : (VT × Int32)), it_ (iX10_twins_L28) n q = some x → ∀ (H : Heap) (locs : List Loc) (ls : Array Slot), HW G s.heap (q.1) H locs → lv_has ls 4 [(0, .ref (G.2.2 22)), (1, .int (q.2))] → W p l e (rmD 12) s m args below meth c H locs 0 0 Q (F0 m 28 ls []) := by
  have hx := en_x E
  have hb := en_b E
  have hB := en_B E
  refine it_W (fun q : (VT × Int32) => ∀ (H : Heap) (locs : List Loc) (ls : Array Slot), HW G s.heap (q.1) H locs → lv_has ls 4 [(0, .ref (G.2.2 22)), (1, .int (q.2))] → W p l e (rmD 12) s m args below meth c H locs 0 0 Q (F0 m 28 ls [])) x ?_
  intro q r h kc kx
  obtain ⟨V, u1⟩ := q
  intro H locs ls hw hl
  have h : fX10_twins_L28 V u1 = some r := h
  have hw : HW G s.heap V H locs := hw
  have hl : lv_has ls 4 [(0, .ref (G.2.2 22)), (1, .int u1)] := hl
  have ke : ∀ q : VT, r = .inr (q) → ∀ (H : Heap) (locs : List Loc) (ls : Array Slot), HW G s.heap q H locs → lv_has ls 4 [(0, .ref (G.2.2 22))] → W p l e (rmD 12) s m args below meth c H locs 0 0 Q (F0 m 108 ls []) := fun q e => ke q (kx _ e).symm
  unfold fX10_twins_L28 at h
  refine lv_iload_n hx hb dX10_twins_28 rfl (lv_at hl 1 rfl) ?_
  refine lv_bipush (v := (24 : Int32)) hx hb dX10_twins_29 (by decide) ?_
  refine lv_icmp_ge (tgt := 108) hx hb dX10_twins_31 (by decide) (fun c36 => ?_) (fun c36 => ?_)
  · rw [if_pos c36] at h
    exact ke V (Option.some.inj h).symm H locs ls hw (lv_sub hl [0] rfl)
  · rw [if_neg c36] at h
    refine lv_aload_n hx hb dX10_twins_34 rfl (lv_at hl 0 rfl) ?_
    refine lv_iload_n hx hb dX10_twins_35 rfl (lv_at hl 1 rfl) ?_
    obtain ⟨V10, h9, h⟩ := ob_R_some h
    refine c_VV E hw (kX10_laysEyes (l := l) (G := G) hB  h9) yy_X10_laysEyes lm_RX10_419 rfl (by decide) rfl rfl hl.1 (by decide) (by decide) rfl (Nat.le_of_ble_eq_true rfl) dX10_twins_36 (fun H locs hw => ?_)
    refine lv_iconst (v := (0 : Int32)) hx hb dX10_twins_39 (by decide) ?_
    refine lv_istore_n (lv' := [(2, .int (0 : Int32)), (0, .ref (G.2.2 22)), (1, .int u1)]) hx hb dX10_twins_40 rfl hl (by decide) rfl (fun ls hl => ?_)
    obtain ⟨x32, h31, h⟩ := ob_R_some h
    obtain ⟨V34, y33⟩ := x32
    refine wX10_twins_L41 E (fun q e H locs ls hw hl => ?_) FV (V10, u1, (0 : Int32)) h31 H locs ls hw (lv_sub hl [1, 2, 0] rfl)
    subst e
    have hw : HW G s.heap V34 H locs := hw
    have hl : lv_has ls 4 [(0, .ref (G.2.2 22)), (1, .int y33)] := hl
    have h := dt2_eq h
    obtain ⟨y35, ey35, h⟩ := lt_some h
    refine lv_iinc (v := y35) (lv' := [(1, .int y35), (0, .ref (G.2.2 22))]) hx hb dX10_twins_102 hl (k := 1) rfl (by rw [ey35]; rfl) (by decide) rfl (fun ls hl => ?_)
    refine lv_goto (tgt := 28) hx hb dX10_twins_105 (by decide) ?_
    exact kc (V34, y35) (Option.some.inj h).symm H locs ls hw (lv_sub hl [1, 0] rfl)
set_option maxHeartbeats 4000000 in
set_option maxRecDepth 100000 in
theorem wX10_twins_L122 {p : Program} {l : Launch} {e : Env} {s : State} {m : MethodId} {args : Array Value} {below : List Frame} {meth : Method} {c : Code} {G : GT} {B : BGt} {Q : State → Prop} (E : En p s m args c meth cX10_twins 4 RX10 (some .int) G B) {x : (VT × Int32 × Int32)} (ke : ∀ q : (VT × Int32 × Int32), x = q → ∀ (H : Heap) (locs : List Loc) (ls : Array Slot), HW G s.heap (q.1) H locs → lv_has ls 4 [(0, .ref (G.2.2 22)), (1, .int (q.2.1)), (2, .int (q.2.2))] → W p l e (rmD 12) s m args below meth c H locs 0 0 Q (F0 m 155 ls [])) : ∀ (n : Nat) (q : (VT × Int32 × Int32 × Int32)), it_ (iX10_twins_L122) n q = some x → ∀ (H : Heap) (locs : List Loc) (ls : Array Slot), HW G s.heap (q.1) H locs → lv_has ls 4 [(0, .ref (G.2.2 22)), (1, .int (q.2.1)), (2, .int (q.2.2.1)), (3, .int (q.2.2.2))] → W p l e (rmD 12) s m args below meth c H locs 0 0 Q (F0 m 122 ls []) := by
  have hx := en_x E
  have hb := en_b E
  have hB := en_B E
  refine it_W (fun q : (VT × Int32 × Int32 × Int32) => ∀ (H : Heap) (locs : List Loc) (ls : Array Slot), HW G s.heap (q.1) H locs → lv_has ls 4 [(0, .ref (G.2.2 22)), (1, .int (q.2.1)), (2, .int (q.2.2.1)), (3, .int (q.2.2.2))] → W p l e (rmD 12) s m args below meth c H locs 0 0 Q (F0 m 122 ls [])) x ?_
  intro q r h kc kx
  obtain ⟨V, u1, u2, u3⟩ := q
  intro H locs ls hw hl
  have h : fX10_twins_L122 V u1 u2 u3 = some r := h
  have hw : HW G s.heap V H locs := hw
  have hl : lv_has ls 4 [(0, .ref (G.2.2 22)), (1, .int u1), (2, .int u2), (3, .int u3)] := hl
  have ke : ∀ q : (VT × Int32 × Int32), r = .inr (q) → ∀ (H : Heap) (locs : List Loc) (ls : Array Slot), HW G s.heap (q.1) H locs → lv_has ls 4 [(0, .ref (G.2.2 22)), (1, .int (q.2.1)), (2, .int (q.2.2))] → W p l e (rmD 12) s m args below meth c H locs 0 0 Q (F0 m 155 ls []) := fun q e => ke q (kx _ e).symm
  unfold fX10_twins_L122 at h
  refine lv_iload_n hx hb dX10_twins_122 rfl (lv_at hl 3 rfl) ?_
  refine lv_iload_n hx hb dX10_twins_123 rfl (lv_at hl 2 rfl) ?_
  refine lv_icmp_ge (tgt := 155) hx hb dX10_twins_124 (by decide) (fun c48 => ?_) (fun c48 => ?_)
  · rw [if_pos c48] at h
    exact ke (V, u1, u2) (Option.some.inj h).symm H locs ls hw (lv_sub hl [0, 1, 2] rfl)
  · rw [if_neg c48] at h
    refine lv_iload_n hx hb dX10_twins_127 rfl (lv_at hl 1 rfl) ?_
    refine lv_aload_n hx hb dX10_twins_128 rfl (lv_at hl 0 rfl) ?_
    refine r_gr E hw 22 28 87 (N := 29) (C := RX10) (T := TX10) (by decide) rfl rfl (by decide) rfl iw_10 rfl lf_RX10_51 dX10_twins_129 ?_
    refine lv_bipush (v := (8 : Int32)) hx hb dX10_twins_132 (by decide) ?_
    refine lv_iload_n hx hb dX10_twins_134 rfl (lv_at hl 2 rfl) ?_
    refine lv_imul hx hb dX10_twins_135 ?_
    refine lv_iload_n hx hb dX10_twins_136 rfl (lv_at hl 3 rfl) ?_
    refine lv_iadd hx hb dX10_twins_137 ?_
    obtain ⟨b42, h⟩ := rd_some h
    refine r_za E hw 87 64 (by decide) (by decide) (by decide) rfl rfl b42 dX10_twins_138 ?_
    refine lv_if_eq (tgt := 146) hx hb dX10_twins_139 (by decide) (fun c47 => ?_) (fun c47 => ?_)
    · rw [if_pos c47] at h
      refine lv_iconst (v := (1 : Int32)) hx hb dX10_twins_146 (by decide) ?_
      refine lv_iadd hx hb dX10_twins_147 ?_
      obtain ⟨y43, ey43, h⟩ := lt_some h
      refine lv_eqi ey43 ?_
      refine lv_istore_n (lv' := [(1, .int y43), (0, .ref (G.2.2 22)), (2, .int u2), (3, .int u3)]) hx hb dX10_twins_148 rfl hl (by decide) rfl (fun ls hl => ?_)
      obtain ⟨y44, ey44, h⟩ := lt_some h
      refine lv_iinc (v := y44) (lv' := [(3, .int y44), (1, .int y43), (0, .ref (G.2.2 22)), (2, .int u2)]) hx hb dX10_twins_149 hl (k := 3) rfl (by rw [ey44]; rfl) (by decide) rfl (fun ls hl => ?_)
      refine lv_goto (tgt := 122) hx hb dX10_twins_152 (by decide) ?_
      exact kc (V, y43, u2, y44) (Option.some.inj h).symm H locs ls hw (lv_sub hl [2, 1, 3, 0] rfl)
    · rw [if_neg c47] at h
      refine lv_iconst (v := (0 : Int32)) hx hb dX10_twins_142 (by decide) ?_
      refine lv_goto (tgt := 147) hx hb dX10_twins_143 (by decide) ?_
      refine lv_iadd hx hb dX10_twins_147 ?_
      obtain ⟨y45, ey45, h⟩ := lt_some h
      refine lv_eqi ey45 ?_
      refine lv_istore_n (lv' := [(1, .int y45), (0, .ref (G.2.2 22)), (2, .int u2), (3, .int u3)]) hx hb dX10_twins_148 rfl hl (by decide) rfl (fun ls hl => ?_)
      obtain ⟨y46, ey46, h⟩ := lt_some h
      refine lv_iinc (v := y46) (lv' := [(3, .int y46), (1, .int y45), (0, .ref (G.2.2 22)), (2, .int u2)]) hx hb dX10_twins_149 hl (k := 3) rfl (by rw [ey46]; rfl) (by decide) rfl (fun ls hl => ?_)
      refine lv_goto (tgt := 122) hx hb dX10_twins_152 (by decide) ?_
      exact kc (V, y45, u2, y46) (Option.some.inj h).symm H locs ls hw (lv_sub hl [2, 1, 3, 0] rfl)
set_option maxHeartbeats 4000000 in
set_option maxRecDepth 100000 in
theorem wX10_twins_L112 {p : Program} {l : Launch} {e : Env} {s : State} {m : MethodId} {args : Array Value} {below : List Frame} {meth : Method} {c : Code} {G : GT} {B : BGt} {Q : State → Prop} (E : En p s m args c meth cX10_twins 4 RX10 (some .int) G B) {x : (Int32 × VT)} (kr : ∀ q : (Int32 × VT), x = q → Q = MQ below (QI G s.heap.size q.1 q.2) args s 0 0 (gA G s.heap.size)) : ∀ (n : Nat) (q : (VT × Int32 × Int32)), it_ (iX10_twins_L112) n q = some x → ∀ (H : Heap) (locs : List Loc) (ls : Array Slot), HW G s.heap (q.1) H locs → lv_has ls 4 [(0, .ref (G.2.2 22)), (1, .int (q.2.1)), (2, .int (q.2.2))] → W p l e (rmD 12) s m args below meth c H locs 0 0 Q (F0 m 112 ls []) := by
  have hx := en_x E
  have hb := en_b E
  have hB := en_B E
  refine it_W (fun q : (VT × Int32 × Int32) => ∀ (H : Heap) (locs : List Loc) (ls : Array Slot), HW G s.heap (q.1) H locs → lv_has ls 4 [(0, .ref (G.2.2 22)), (1, .int (q.2.1)), (2, .int (q.2.2))] → W p l e (rmD 12) s m args below meth c H locs 0 0 Q (F0 m 112 ls [])) x ?_
  intro q r h kc kx
  obtain ⟨V, u1, u2⟩ := q
  intro H locs ls hw hl
  have h : fX10_twins_L112 V u1 u2 = some r := h
  have hw : HW G s.heap V H locs := hw
  have hl : lv_has ls 4 [(0, .ref (G.2.2 22)), (1, .int u1), (2, .int u2)] := hl
  have kr : ∀ q : (Int32 × VT), r = .inr (q) → Q = MQ below (QI G s.heap.size q.1 q.2) args s 0 0 (gA G s.heap.size) := fun q e => kr q (kx _ e).symm
  unfold fX10_twins_L112 at h
  refine lv_iload_n hx hb dX10_twins_112 rfl (lv_at hl 2 rfl) ?_
  refine lv_aload_n hx hb dX10_twins_113 rfl (lv_at hl 0 rfl) ?_
  obtain ⟨y41, h40, h⟩ := ob_R_some h
  refine c_VI E hw (kX10_houses (l := l) (G := G) hB  h40) yy_X10_houses lm_RX10_62 rfl (by decide) rfl rfl hl.1 (by decide) (by decide) rfl (Nat.le_of_ble_eq_true rfl) dX10_twins_114 (fun H locs hw => ?_)
  refine lv_icmp_ge (tgt := 161) hx hb dX10_twins_117 (by decide) (fun c55 => ?_) (fun c55 => ?_)
  · rw [if_pos c55] at h
    refine lv_iload_n hx hb dX10_twins_161 rfl (lv_at hl 1 rfl) ?_
    rw [kr (u1, V) (Option.some.inj h).symm]
    exact r_ri E hw dX10_twins_162
  · rw [if_neg c55] at h
    refine lv_iconst (v := (0 : Int32)) hx hb dX10_twins_120 (by decide) ?_
    refine lv_istore_n (lv' := [(3, .int (0 : Int32)), (0, .ref (G.2.2 22)), (1, .int u1), (2, .int u2)]) hx hb dX10_twins_121 rfl hl (by decide) rfl (fun ls hl => ?_)
    obtain ⟨x50, h49, h⟩ := ob_R_some h
    obtain ⟨V53, y51, y52⟩ := x50
    refine wX10_twins_L122 E (fun q e H locs ls hw hl => ?_) FV (V, u1, u2, (0 : Int32)) h49 H locs ls hw (lv_sub hl [1, 2, 3, 0] rfl)
    subst e
    have hw : HW G s.heap V53 H locs := hw
    have hl : lv_has ls 4 [(0, .ref (G.2.2 22)), (1, .int y51), (2, .int y52)] := hl
    have h := dt3_eq h
    obtain ⟨y54, ey54, h⟩ := lt_some h
    refine lv_iinc (v := y54) (lv' := [(2, .int y54), (0, .ref (G.2.2 22)), (1, .int y51)]) hx hb dX10_twins_155 hl (k := 2) rfl (by rw [ey54]; rfl) (by decide) rfl (fun ls hl => ?_)
    refine lv_goto (tgt := 112) hx hb dX10_twins_158 (by decide) ?_
    exact kc (V53, y51, y54) (Option.some.inj h).symm H locs ls hw (lv_sub hl [1, 2, 0] rfl)
set_option maxHeartbeats 4000000 in
set_option maxRecDepth 100000 in
theorem kX10_twins {l : Launch} {G : GT} {B : BGt} (hB : BGok B) {V : VT} {r : (Int32 × VT)} (h : fX10_twins V = some r) : CI l G B yX10_twins (.code yX10_twins cX10_twins 4 (some .int)) 12 [.ref (G.2.2 22)] V r.1 r.2 := by
  intro sz
  refine met_of (Qs := fun sz => QI G sz (r.1) (r.2)) hB (by decide) (Nat.le_of_ble_eq_true rfl) ?_ sz
  intro p e s m args below meth c ls E hw hl
  have hx := en_x E
  have hb := en_b E
  generalize hQ : MQ _ _ _ _ _ _ _ = Q
  have kr : Q = MQ below (QI G s.heap.size r.1 r.2) args s 0 0 (gA G s.heap.size) := hQ.symm
  have hl : lv_has ls 4 [(0, .ref (G.2.2 22))] := hl
  obtain ⟨H, eH⟩ : ∃ H, H = s.heap := ⟨_, rfl⟩
  obtain ⟨locs, elocs⟩ : ∃ z : List Loc, z = [] := ⟨_, rfl⟩
  have hw : HW G s.heap V H locs := by rw [eH, elocs]; exact hw
  show W p l e _ s m args below meth c s.heap [] 0 0 Q (F0 m 0 ls [])
  rw [← eH, ← elocs]
  unfold fX10_twins at h
  refine lv_aload_n hx hb dX10_twins_0 rfl (lv_at hl 0 rfl) ?_
  refine lv_iconst (v := (0 : Int32)) hx hb dX10_twins_1 (by decide) ?_
  obtain ⟨V1, eV1, h⟩ := lt_some h
  refine r_pi E hw 22 0 (N := 29) (C := RX10) (T := TX10) (ty0 := tyX10) (ty := .int) (by decide) rfl rfl (by decide) rfl iw_10 rfl tyX10_ok nmX10 rfl rfl (vp_nar_int _) rfl lf_RX10_3 eV1 dX10_twins_2 (fun H locs hw => ?_)
  refine lv_iconst (v := (0 : Int32)) hx hb dX10_twins_5 (by decide) ?_
  refine lv_istore_n (lv' := [(1, .int (0 : Int32)), (0, .ref (G.2.2 22))]) hx hb dX10_twins_6 rfl hl (by decide) rfl (fun ls hl => ?_)
  obtain ⟨x7, h6, h⟩ := ob_R_some h
  obtain ⟨V8, rfl⟩ : ∃ z, z = x7 := ⟨_, rfl⟩
  refine wX10_twins_L7 E (fun q e H locs ls hw hl => ?_) FV (V1, (0 : Int32)) h6 H locs ls hw (lv_sub hl [1, 0] rfl)
  subst e
  have hw : HW G s.heap V8 H locs := hw
  have hl : lv_has ls 4 [(0, .ref (G.2.2 22))] := hl
  have h := lt_eq h
  refine lv_iconst (v := (0 : Int32)) hx hb dX10_twins_26 (by decide) ?_
  refine lv_istore_n (lv' := [(1, .int (0 : Int32)), (0, .ref (G.2.2 22))]) hx hb dX10_twins_27 rfl hl (by decide) rfl (fun ls hl => ?_)
  obtain ⟨x38, h37, h⟩ := ob_R_some h
  obtain ⟨V39, rfl⟩ : ∃ z, z = x38 := ⟨_, rfl⟩
  refine wX10_twins_L28 E (fun q e H locs ls hw hl => ?_) FV (V8, (0 : Int32)) h37 H locs ls hw (lv_sub hl [1, 0] rfl)
  subst e
  have hw : HW G s.heap V39 H locs := hw
  have hl : lv_has ls 4 [(0, .ref (G.2.2 22))] := hl
  have h := lt_eq h
  refine lv_iconst (v := (0 : Int32)) hx hb dX10_twins_108 (by decide) ?_
  refine lv_istore_n (lv' := [(1, .int (0 : Int32)), (0, .ref (G.2.2 22))]) hx hb dX10_twins_109 rfl hl (by decide) rfl (fun ls hl => ?_)
  refine lv_iconst (v := (0 : Int32)) hx hb dX10_twins_110 (by decide) ?_
  refine lv_istore_n (lv' := [(2, .int (0 : Int32)), (1, .int (0 : Int32)), (0, .ref (G.2.2 22))]) hx hb dX10_twins_111 rfl hl (by decide) rfl (fun ls hl => ?_)
  obtain ⟨x57, h56, h⟩ := ob_R_some h
  have h := Option.some.inj h
  subst h
  exact wX10_twins_L112 E (fun q e => by subst e; exact kr) FV (V39, (0 : Int32), (0 : Int32)) h56 H locs ls hw (lv_sub hl [2, 1, 0] rfl)
/-! ===== AllSawItModel.trial(IZ)I ===== -/
theorem dX10_trial_0 : decode cX10_trial 0 = .ok (.aload_n 0, 1) := by decide +kernel
theorem dX10_trial_1 : decode cX10_trial 1 = .ok (.iconst 0, 1) := by decide +kernel
theorem dX10_trial_2 : decode cX10_trial 2 = .ok (.putfield 3, 3) := by decide +kernel
theorem dX10_trial_5 : decode cX10_trial 5 = .ok (.aload_n 0, 1) := by decide +kernel
theorem dX10_trial_6 : decode cX10_trial 6 = .ok (.iload_n 1, 1) := by decide +kernel
theorem dX10_trial_7 : decode cX10_trial 7 = .ok (.iconst 0, 1) := by decide +kernel
theorem dX10_trial_8 : decode cX10_trial 8 = .ok (.bipush 40, 2) := by decide +kernel
theorem dX10_trial_10 : decode cX10_trial 10 = .ok (.invokestatic 76, 3) := by decide +kernel
theorem dX10_trial_13 : decode cX10_trial 13 = .ok (.ifCond .ne 7, 3) := by decide +kernel
theorem dX10_trial_16 : decode cX10_trial 16 = .ok (.iconst 1, 1) := by decide +kernel
theorem dX10_trial_17 : decode cX10_trial 17 = .ok (.goto 4, 3) := by decide +kernel
theorem dX10_trial_20 : decode cX10_trial 20 = .ok (.iconst 0, 1) := by decide +kernel
theorem dX10_trial_21 : decode cX10_trial 21 = .ok (.iconst 1, 1) := by decide +kernel
theorem dX10_trial_22 : decode cX10_trial 22 = .ok (.invokevirtual 233, 3) := by decide +kernel
theorem dX10_trial_25 : decode cX10_trial 25 = .ok (.ifCond .eq 5, 3) := by decide +kernel
theorem dX10_trial_28 : decode cX10_trial 28 = .ok (.iconst 0, 1) := by decide +kernel
theorem dX10_trial_29 : decode cX10_trial 29 = .ok (.ireturn, 1) := by decide +kernel
theorem dX10_trial_30 : decode cX10_trial 30 = .ok (.aload_n 0, 1) := by decide +kernel
theorem dX10_trial_31 : decode cX10_trial 31 = .ok (.invokevirtual 395, 3) := by decide +kernel
theorem dX10_trial_34 : decode cX10_trial 34 = .ok (.iconst 0, 1) := by decide +kernel
theorem dX10_trial_35 : decode cX10_trial 35 = .ok (.istore_n 3, 1) := by decide +kernel
theorem dX10_trial_36 : decode cX10_trial 36 = .ok (.iload_n 3, 1) := by decide +kernel
theorem dX10_trial_37 : decode cX10_trial 37 = .ok (.iload_n 1, 1) := by decide +kernel
theorem dX10_trial_38 : decode cX10_trial 38 = .ok (.if_icmp .ge 13, 3) := by decide +kernel
theorem dX10_trial_41 : decode cX10_trial 41 = .ok (.aload_n 0, 1) := by decide +kernel
theorem dX10_trial_42 : decode cX10_trial 42 = .ok (.invokevirtual 392, 3) := by decide +kernel
theorem dX10_trial_45 : decode cX10_trial 45 = .ok (.iinc 3 1, 3) := by decide +kernel
theorem dX10_trial_48 : decode cX10_trial 48 = .ok (.goto (-12), 3) := by decide +kernel
theorem dX10_trial_51 : decode cX10_trial 51 = .ok (.iload_n 2, 1) := by decide +kernel
theorem dX10_trial_52 : decode cX10_trial 52 = .ok (.ifCond .eq 21, 3) := by decide +kernel
theorem dX10_trial_55 : decode cX10_trial 55 = .ok (.aload_n 0, 1) := by decide +kernel
theorem dX10_trial_56 : decode cX10_trial 56 = .ok (.getfield 13, 3) := by decide +kernel
theorem dX10_trial_59 : decode cX10_trial 59 = .ok (.bipush 7, 2) := by decide +kernel
theorem dX10_trial_61 : decode cX10_trial 61 = .ok (.iaload, 1) := by decide +kernel
theorem dX10_trial_62 : decode cX10_trial 62 = .ok (.aload_n 0, 1) := by decide +kernel
theorem dX10_trial_63 : decode cX10_trial 63 = .ok (.getfield 23, 3) := by decide +kernel
theorem dX10_trial_66 : decode cX10_trial 66 = .ok (.bipush 7, 2) := by decide +kernel
theorem dX10_trial_68 : decode cX10_trial 68 = .ok (.iaload, 1) := by decide +kernel
theorem dX10_trial_69 : decode cX10_trial 69 = .ok (.isub, 1) := by decide +kernel
theorem dX10_trial_70 : decode cX10_trial 70 = .ok (.goto 7, 3) := by decide +kernel
theorem dX10_trial_73 : decode cX10_trial 73 = .ok (.aload_n 0, 1) := by decide +kernel
theorem dX10_trial_74 : decode cX10_trial 74 = .ok (.invokevirtual 410, 3) := by decide +kernel
theorem dX10_trial_77 : decode cX10_trial 77 = .ok (.istore_n 3, 1) := by decide +kernel
theorem dX10_trial_78 : decode cX10_trial 78 = .ok (.aload_n 0, 1) := by decide +kernel
theorem dX10_trial_79 : decode cX10_trial 79 = .ok (.invokevirtual 401, 3) := by decide +kernel
theorem dX10_trial_82 : decode cX10_trial 82 = .ok (.iload_n 3, 1) := by decide +kernel
theorem dX10_trial_83 : decode cX10_trial 83 = .ok (.ireturn, 1) := by decide +kernel
noncomputable def fX10_trial_L36 (V : VT) (u1 : Int32) (u2 : Int32) (u3 : Int32) : Option ((VT × Int32 × Int32 × Int32) ⊕ (VT × Int32)) := if u1 ≤ u3 then (some (.inr ((V, u2)))) else (ob_R (fX10_drawnDay V ) fun V10 => lt_ (u3 + (1 : Int32)) fun y11 => some (.inl (V10, u1, u2, y11)))
noncomputable def iX10_trial_L36 : (VT × Int32 × Int32 × Int32) → Option ((VT × Int32 × Int32 × Int32) ⊕ (VT × Int32)) := fun q => fX10_trial_L36 (q.1) (q.2.1) (q.2.2.1) (q.2.2.2)
noncomputable def fX10_trial_j21 (V : VT) (u1 : Int32) (u2 : Int32) (t0 : Int32) : Option (Int32 × VT) := ob_I (fX10_throwsIf V t0 (1 : Int32)) fun y5 V6 => if y5 = 0 then (ob_R (fX10_keepsAll V6 ) fun V8 => ob_R (it_ (iX10_trial_L36) FV (V8, u1, u2, (0 : Int32))) fun x14 => (dt2_ x14 fun V16 y15 => if y15 = 0 then (ob_R (fX10_soOnes V16 ) fun y18 => ob_R (fX10_bringsBack V16 ) fun V20 => some (y18, V20)) else (rd_ (7 : Int32) 1988 (rd_ (7 : Int32) 314 (lt_ ((V16 76 (7 : Int32).toNatClampNeg) - (V16 79 (7 : Int32).toNatClampNeg)) fun y23 => ob_R (fX10_bringsBack V16 ) fun V25 => some (y23, V25)))))) else (some ((0 : Int32), V6))
noncomputable def fX10_trial (V : VT) (x1 : Int32) (x2 : Int32) : Option (Int32 × VT) := lt_ (va_up V 22 (upd (V 22) 0 (0 : Int32))) fun V1 => ob_R (fX10_in V1 x1 (0 : Int32) (40 : Int32)) fun y3 => if y3 = 0 then (fX10_trial_j21 V1 x1 x2 (1 : Int32)) else (fX10_trial_j21 V1 x1 x2 (0 : Int32))
set_option maxHeartbeats 4000000 in
set_option maxRecDepth 100000 in
theorem wX10_trial_L36 {p : Program} {l : Launch} {e : Env} {s : State} {m : MethodId} {args : Array Value} {below : List Frame} {meth : Method} {c : Code} {G : GT} {B : BGt} {Q : State → Prop} (E : En p s m args c meth cX10_trial 4 RX10 (some .int) G B) {x : (VT × Int32)} (ke : ∀ q : (VT × Int32), x = q → ∀ (H : Heap) (locs : List Loc) (ls : Array Slot), HW G s.heap (q.1) H locs → lv_has ls 4 [(0, .ref (G.2.2 22)), (2, .int (q.2))] → W p l e (rmD 16) s m args below meth c H locs 0 0 Q (F0 m 51 ls [])) : ∀ (n : Nat) (q : (VT × Int32 × Int32 × Int32)), it_ (iX10_trial_L36) n q = some x → ∀ (H : Heap) (locs : List Loc) (ls : Array Slot), HW G s.heap (q.1) H locs → lv_has ls 4 [(0, .ref (G.2.2 22)), (1, .int (q.2.1)), (2, .int (q.2.2.1)), (3, .int (q.2.2.2))] → W p l e (rmD 16) s m args below meth c H locs 0 0 Q (F0 m 36 ls []) := by
  have hx := en_x E
  have hb := en_b E
  have hB := en_B E
  refine it_W (fun q : (VT × Int32 × Int32 × Int32) => ∀ (H : Heap) (locs : List Loc) (ls : Array Slot), HW G s.heap (q.1) H locs → lv_has ls 4 [(0, .ref (G.2.2 22)), (1, .int (q.2.1)), (2, .int (q.2.2.1)), (3, .int (q.2.2.2))] → W p l e (rmD 16) s m args below meth c H locs 0 0 Q (F0 m 36 ls [])) x ?_
  intro q r h kc kx
  obtain ⟨V, u1, u2, u3⟩ := q
  intro H locs ls hw hl
  have h : fX10_trial_L36 V u1 u2 u3 = some r := h
  have hw : HW G s.heap V H locs := hw
  have hl : lv_has ls 4 [(0, .ref (G.2.2 22)), (1, .int u1), (2, .int u2), (3, .int u3)] := hl
  have ke : ∀ q : (VT × Int32), r = .inr (q) → ∀ (H : Heap) (locs : List Loc) (ls : Array Slot), HW G s.heap (q.1) H locs → lv_has ls 4 [(0, .ref (G.2.2 22)), (2, .int (q.2))] → W p l e (rmD 16) s m args below meth c H locs 0 0 Q (F0 m 51 ls []) := fun q e => ke q (kx _ e).symm
  unfold fX10_trial_L36 at h
  refine lv_iload_n hx hb dX10_trial_36 rfl (lv_at hl 3 rfl) ?_
  refine lv_iload_n hx hb dX10_trial_37 rfl (lv_at hl 1 rfl) ?_
  refine lv_icmp_ge (tgt := 51) hx hb dX10_trial_38 (by decide) (fun c12 => ?_) (fun c12 => ?_)
  · rw [if_pos c12] at h
    exact ke (V, u2) (Option.some.inj h).symm H locs ls hw (lv_sub hl [0, 2] rfl)
  · rw [if_neg c12] at h
    refine lv_aload_n hx hb dX10_trial_41 rfl (lv_at hl 0 rfl) ?_
    obtain ⟨V10, h9, h⟩ := ob_R_some h
    refine c_VV E hw (kX10_drawnDay (l := l) (G := G) hB  h9) yy_X10_drawnDay lm_RX10_392 rfl (by decide) rfl rfl hl.1 (by decide) (by decide) rfl (Nat.le_of_ble_eq_true rfl) dX10_trial_42 (fun H locs hw => ?_)
    obtain ⟨y11, ey11, h⟩ := lt_some h
    refine lv_iinc (v := y11) (lv' := [(3, .int y11), (0, .ref (G.2.2 22)), (1, .int u1), (2, .int u2)]) hx hb dX10_trial_45 hl (k := 3) rfl (by rw [ey11]; rfl) (by decide) rfl (fun ls hl => ?_)
    refine lv_goto (tgt := 36) hx hb dX10_trial_48 (by decide) ?_
    exact kc (V10, u1, u2, y11) (Option.some.inj h).symm H locs ls hw (lv_sub hl [1, 2, 3, 0] rfl)
set_option maxHeartbeats 4000000 in
set_option maxRecDepth 100000 in
theorem wX10_trial_j21 {p : Program} {l : Launch} {e : Env} {s : State} {m : MethodId} {args : Array Value} {below : List Frame} {meth : Method} {c : Code} {G : GT} {B : BGt} {Q : State → Prop} (E : En p s m args c meth cX10_trial 4 RX10 (some .int) G B) {V : VT} {u1 : Int32} {u2 : Int32} {t0 : Int32} {r : (Int32 × VT)} (h : fX10_trial_j21 V u1 u2 t0 = some r) (kr : Q = MQ below (QI G s.heap.size r.1 r.2) args s 0 0 (gA G s.heap.size)) {H : Heap} {locs : List Loc} {ls : Array Slot} (hw : HW G s.heap V H locs) (hl : lv_has ls 4 [(0, .ref (G.2.2 22)), (1, .int u1), (2, .int u2)]) : W p l e (rmD 16) s m args below meth c H locs 0 0 Q (F0 m 21 ls [.int t0, .ref (G.2.2 22)]) := by
  have hx := en_x E
  have hb := en_b E
  have hB := en_B E
  unfold fX10_trial_j21 at h
  refine lv_iconst (v := (1 : Int32)) hx hb dX10_trial_21 (by decide) ?_
  obtain ⟨y5, V6, h4, h⟩ := ob_I_some h
  refine c_VI E hw (kX10_throwsIf (l := l) (G := G) hB  h4) yy_X10_throwsIf lm_RX10_233 rfl (by decide) rfl rfl hl.1 (by decide) (by decide) rfl (Nat.le_of_ble_eq_true rfl) dX10_trial_22 (fun H locs hw => ?_)
  refine lv_if_eq (tgt := 30) hx hb dX10_trial_25 (by decide) (fun c27 => ?_) (fun c27 => ?_)
  · rw [if_pos c27] at h
    refine lv_aload_n hx hb dX10_trial_30 rfl (lv_at hl 0 rfl) ?_
    obtain ⟨V8, h7, h⟩ := ob_R_some h
    refine c_VV E hw (kX10_keepsAll (l := l) (G := G) hB  h7) yy_X10_keepsAll lm_RX10_395 rfl (by decide) rfl rfl hl.1 (by decide) (by decide) rfl (Nat.le_of_ble_eq_true rfl) dX10_trial_31 (fun H locs hw => ?_)
    refine lv_iconst (v := (0 : Int32)) hx hb dX10_trial_34 (by decide) ?_
    refine lv_istore_n (lv' := [(3, .int (0 : Int32)), (0, .ref (G.2.2 22)), (1, .int u1), (2, .int u2)]) hx hb dX10_trial_35 rfl hl (by decide) rfl (fun ls hl => ?_)
    obtain ⟨x14, h13, h⟩ := ob_R_some h
    obtain ⟨V16, y15⟩ := x14
    refine wX10_trial_L36 E (fun q e H locs ls hw hl => ?_) FV (V8, u1, u2, (0 : Int32)) h13 H locs ls hw (lv_sub hl [1, 2, 3, 0] rfl)
    subst e
    have hw : HW G s.heap V16 H locs := hw
    have hl : lv_has ls 4 [(0, .ref (G.2.2 22)), (2, .int y15)] := hl
    have h := dt2_eq h
    refine lv_iload_n hx hb dX10_trial_51 rfl (lv_at hl 1 rfl) ?_
    refine lv_if_eq (tgt := 73) hx hb dX10_trial_52 (by decide) (fun c26 => ?_) (fun c26 => ?_)
    · rw [if_pos c26] at h
      refine lv_aload_n hx hb dX10_trial_73 rfl (lv_at hl 0 rfl) ?_
      obtain ⟨y18, h17, h⟩ := ob_R_some h
      refine c_VI E hw (kX10_soOnes (l := l) (G := G) hB  h17) yy_X10_soOnes lm_RX10_410 rfl (by decide) rfl rfl hl.1 (by decide) (by decide) rfl (Nat.le_of_ble_eq_true rfl) dX10_trial_74 (fun H locs hw => ?_)
      refine lv_istore_n (lv' := [(3, .int y18), (0, .ref (G.2.2 22)), (2, .int y15)]) hx hb dX10_trial_77 rfl hl (by decide) rfl (fun ls hl => ?_)
      refine lv_aload_n hx hb dX10_trial_78 rfl (lv_at hl 1 rfl) ?_
      obtain ⟨V20, h19, h⟩ := ob_R_some h
      refine c_VV E hw (kX10_bringsBack (l := l) (G := G) hB  h19) yy_X10_bringsBack lm_RX10_401 rfl (by decide) rfl rfl hl.1 (by decide) (by decide) rfl (Nat.le_of_ble_eq_true rfl) dX10_trial_79 (fun H locs hw => ?_)
      refine lv_iload_n hx hb dX10_trial_82 rfl (lv_at hl 0 rfl) ?_
      have h := Option.some.inj h
      subst h
      rw [kr]
      exact r_ri E hw dX10_trial_83
    · rw [if_neg c26] at h
      refine lv_aload_n hx hb dX10_trial_55 rfl (lv_at hl 0 rfl) ?_
      refine r_gr E hw 22 1 76 (N := 29) (C := RX10) (T := TX10) (by decide) rfl rfl (by decide) rfl iw_10 rfl lf_RX10_13 dX10_trial_56 ?_
      refine lv_bipush (v := (7 : Int32)) hx hb dX10_trial_59 (by decide) ?_
      obtain ⟨b21, h⟩ := rd_some h
      refine r_ia E hw 76 1988 (by decide) (by decide) (by decide) rfl rfl b21 dX10_trial_61 ?_
      refine lv_aload_n hx hb dX10_trial_62 rfl (lv_at hl 0 rfl) ?_
      refine r_gr E hw 22 4 79 (N := 29) (C := RX10) (T := TX10) (by decide) rfl rfl (by decide) rfl iw_10 rfl lf_RX10_23 dX10_trial_63 ?_
      refine lv_bipush (v := (7 : Int32)) hx hb dX10_trial_66 (by decide) ?_
      obtain ⟨b22, h⟩ := rd_some h
      refine r_ia E hw 79 314 (by decide) (by decide) (by decide) rfl rfl b22 dX10_trial_68 ?_
      refine lv_isub hx hb dX10_trial_69 ?_
      refine lv_goto (tgt := 77) hx hb dX10_trial_70 (by decide) ?_
      obtain ⟨y23, ey23, h⟩ := lt_some h
      refine lv_eqi ey23 ?_
      refine lv_istore_n (lv' := [(3, .int y23), (0, .ref (G.2.2 22)), (2, .int y15)]) hx hb dX10_trial_77 rfl hl (by decide) rfl (fun ls hl => ?_)
      refine lv_aload_n hx hb dX10_trial_78 rfl (lv_at hl 1 rfl) ?_
      obtain ⟨V25, h24, h⟩ := ob_R_some h
      refine c_VV E hw (kX10_bringsBack (l := l) (G := G) hB  h24) yy_X10_bringsBack lm_RX10_401 rfl (by decide) rfl rfl hl.1 (by decide) (by decide) rfl (Nat.le_of_ble_eq_true rfl) dX10_trial_79 (fun H locs hw => ?_)
      refine lv_iload_n hx hb dX10_trial_82 rfl (lv_at hl 0 rfl) ?_
      have h := Option.some.inj h
      subst h
      rw [kr]
      exact r_ri E hw dX10_trial_83
  · rw [if_neg c27] at h
    refine lv_iconst (v := (0 : Int32)) hx hb dX10_trial_28 (by decide) ?_
    have h := Option.some.inj h
    subst h
    rw [kr]
    exact r_ri E hw dX10_trial_29
set_option maxHeartbeats 4000000 in
set_option maxRecDepth 100000 in
theorem kX10_trial {l : Launch} {G : GT} {B : BGt} (hB : BGok B) {V : VT} {x1 : Int32} {x2 : Int32} {r : (Int32 × VT)} (h : fX10_trial V x1 x2 = some r) : CI l G B yX10_trial (.code yX10_trial cX10_trial 4 (some .int)) 16 [.ref (G.2.2 22), .int x1, .int x2] V r.1 r.2 := by
  intro sz
  refine met_of (Qs := fun sz => QI G sz (r.1) (r.2)) hB (by decide) (Nat.le_of_ble_eq_true rfl) ?_ sz
  intro p e s m args below meth c ls E hw hl
  have hx := en_x E
  have hb := en_b E
  generalize hQ : MQ _ _ _ _ _ _ _ = Q
  have kr : Q = MQ below (QI G s.heap.size r.1 r.2) args s 0 0 (gA G s.heap.size) := hQ.symm
  have hl : lv_has ls 4 [(0, .ref (G.2.2 22)), (1, .int x1), (2, .int x2)] := hl
  obtain ⟨H, eH⟩ : ∃ H, H = s.heap := ⟨_, rfl⟩
  obtain ⟨locs, elocs⟩ : ∃ z : List Loc, z = [] := ⟨_, rfl⟩
  have hw : HW G s.heap V H locs := by rw [eH, elocs]; exact hw
  show W p l e _ s m args below meth c s.heap [] 0 0 Q (F0 m 0 ls [])
  rw [← eH, ← elocs]
  unfold fX10_trial at h
  refine lv_aload_n hx hb dX10_trial_0 rfl (lv_at hl 0 rfl) ?_
  refine lv_iconst (v := (0 : Int32)) hx hb dX10_trial_1 (by decide) ?_
  obtain ⟨V1, eV1, h⟩ := lt_some h
  refine r_pi E hw 22 0 (N := 29) (C := RX10) (T := TX10) (ty0 := tyX10) (ty := .int) (by decide) rfl rfl (by decide) rfl iw_10 rfl tyX10_ok nmX10 rfl rfl (vp_nar_int _) rfl lf_RX10_3 eV1 dX10_trial_2 (fun H locs hw => ?_)
  refine lv_aload_n hx hb dX10_trial_5 rfl (lv_at hl 0 rfl) ?_
  refine lv_iload_n hx hb dX10_trial_6 rfl (lv_at hl 1 rfl) ?_
  refine lv_iconst (v := (0 : Int32)) hx hb dX10_trial_7 (by decide) ?_
  refine lv_bipush (v := (40 : Int32)) hx hb dX10_trial_8 (by decide) ?_
  obtain ⟨y3, h2, h⟩ := ob_R_some h
  refine c_SI E hw (kX10_in (l := l) (G := G) hB  h2) yy_X10_in lm_RX10_76 rfl hl.1 (by decide) (by decide) rfl (Nat.le_of_ble_eq_true rfl) dX10_trial_10 (fun H locs hw => ?_)
  refine lv_if_ne (tgt := 20) hx hb dX10_trial_13 (by decide) (fun c28 => ?_) (fun c28 => ?_)
  · rw [if_neg c28] at h
    refine lv_iconst (v := (0 : Int32)) hx hb dX10_trial_20 (by decide) ?_
    exact wX10_trial_j21 E h kr hw (lv_sub hl [0, 1, 2] rfl)
  · rw [if_pos c28] at h
    refine lv_iconst (v := (1 : Int32)) hx hb dX10_trial_16 (by decide) ?_
    refine lv_goto (tgt := 21) hx hb dX10_trial_17 (by decide) ?_
    exact wX10_trial_j21 E h kr hw (lv_sub hl [0, 1, 2] rfl)
/-! ===== AllSawItModel.span(IZ)I ===== -/
theorem dX10_span_0 : decode cX10_span 0 = .ok (.aload_n 0, 1) := by decide +kernel
theorem dX10_span_1 : decode cX10_span 1 = .ok (.iconst 0, 1) := by decide +kernel
theorem dX10_span_2 : decode cX10_span 2 = .ok (.putfield 3, 3) := by decide +kernel
theorem dX10_span_5 : decode cX10_span 5 = .ok (.aload_n 0, 1) := by decide +kernel
theorem dX10_span_6 : decode cX10_span 6 = .ok (.iload_n 1, 1) := by decide +kernel
theorem dX10_span_7 : decode cX10_span 7 = .ok (.iconst 0, 1) := by decide +kernel
theorem dX10_span_8 : decode cX10_span 8 = .ok (.bipush 40, 2) := by decide +kernel
theorem dX10_span_10 : decode cX10_span 10 = .ok (.invokestatic 76, 3) := by decide +kernel
theorem dX10_span_13 : decode cX10_span 13 = .ok (.ifCond .ne 7, 3) := by decide +kernel
theorem dX10_span_16 : decode cX10_span 16 = .ok (.iconst 1, 1) := by decide +kernel
theorem dX10_span_17 : decode cX10_span 17 = .ok (.goto 4, 3) := by decide +kernel
theorem dX10_span_20 : decode cX10_span 20 = .ok (.iconst 0, 1) := by decide +kernel
theorem dX10_span_21 : decode cX10_span 21 = .ok (.iconst 1, 1) := by decide +kernel
theorem dX10_span_22 : decode cX10_span 22 = .ok (.invokevirtual 233, 3) := by decide +kernel
theorem dX10_span_25 : decode cX10_span 25 = .ok (.ifCond .eq 5, 3) := by decide +kernel
theorem dX10_span_28 : decode cX10_span 28 = .ok (.iconst 0, 1) := by decide +kernel
theorem dX10_span_29 : decode cX10_span 29 = .ok (.ireturn, 1) := by decide +kernel
theorem dX10_span_30 : decode cX10_span 30 = .ok (.aload_n 0, 1) := by decide +kernel
theorem dX10_span_31 : decode cX10_span 31 = .ok (.invokevirtual 395, 3) := by decide +kernel
theorem dX10_span_34 : decode cX10_span 34 = .ok (.iconst (-1), 1) := by decide +kernel
theorem dX10_span_35 : decode cX10_span 35 = .ok (.istore_n 3, 1) := by decide +kernel
theorem dX10_span_36 : decode cX10_span 36 = .ok (.iconst 1, 1) := by decide +kernel
theorem dX10_span_37 : decode cX10_span 37 = .ok (.istore 4, 2) := by decide +kernel
theorem dX10_span_39 : decode cX10_span 39 = .ok (.iload 4, 2) := by decide +kernel
theorem dX10_span_41 : decode cX10_span 41 = .ok (.bipush 6, 2) := by decide +kernel
theorem dX10_span_43 : decode cX10_span 43 = .ok (.if_icmp .gt 87, 3) := by decide +kernel
theorem dX10_span_46 : decode cX10_span 46 = .ok (.aload_n 0, 1) := by decide +kernel
theorem dX10_span_47 : decode cX10_span 47 = .ok (.getfield 13, 3) := by decide +kernel
theorem dX10_span_50 : decode cX10_span 50 = .ok (.bipush 9, 2) := by decide +kernel
theorem dX10_span_52 : decode cX10_span 52 = .ok (.iload 4, 2) := by decide +kernel
theorem dX10_span_54 : decode cX10_span 54 = .ok (.iastore, 1) := by decide +kernel
theorem dX10_span_55 : decode cX10_span 55 = .ok (.iconst 0, 1) := by decide +kernel
theorem dX10_span_56 : decode cX10_span 56 = .ok (.istore 5, 2) := by decide +kernel
theorem dX10_span_58 : decode cX10_span 58 = .ok (.iload 5, 2) := by decide +kernel
theorem dX10_span_60 : decode cX10_span 60 = .ok (.iload_n 1, 1) := by decide +kernel
theorem dX10_span_61 : decode cX10_span 61 = .ok (.if_icmp .ge 13, 3) := by decide +kernel
theorem dX10_span_64 : decode cX10_span 64 = .ok (.aload_n 0, 1) := by decide +kernel
theorem dX10_span_65 : decode cX10_span 65 = .ok (.invokevirtual 392, 3) := by decide +kernel
theorem dX10_span_68 : decode cX10_span 68 = .ok (.iinc 5 1, 3) := by decide +kernel
theorem dX10_span_71 : decode cX10_span 71 = .ok (.goto (-13), 3) := by decide +kernel
theorem dX10_span_74 : decode cX10_span 74 = .ok (.aload_n 0, 1) := by decide +kernel
theorem dX10_span_75 : decode cX10_span 75 = .ok (.getfield 13, 3) := by decide +kernel
theorem dX10_span_78 : decode cX10_span 78 = .ok (.bipush 7, 2) := by decide +kernel
theorem dX10_span_80 : decode cX10_span 80 = .ok (.iaload, 1) := by decide +kernel
theorem dX10_span_81 : decode cX10_span 81 = .ok (.aload_n 0, 1) := by decide +kernel
theorem dX10_span_82 : decode cX10_span 82 = .ok (.getfield 23, 3) := by decide +kernel
theorem dX10_span_85 : decode cX10_span 85 = .ok (.bipush 7, 2) := by decide +kernel
theorem dX10_span_87 : decode cX10_span 87 = .ok (.iaload, 1) := by decide +kernel
theorem dX10_span_88 : decode cX10_span 88 = .ok (.isub, 1) := by decide +kernel
theorem dX10_span_89 : decode cX10_span 89 = .ok (.istore 5, 2) := by decide +kernel
theorem dX10_span_91 : decode cX10_span 91 = .ok (.aload_n 0, 1) := by decide +kernel
theorem dX10_span_92 : decode cX10_span 92 = .ok (.invokevirtual 401, 3) := by decide +kernel
theorem dX10_span_95 : decode cX10_span 95 = .ok (.iload_n 3, 1) := by decide +kernel
theorem dX10_span_96 : decode cX10_span 96 = .ok (.ifCond .ge 8, 3) := by decide +kernel
theorem dX10_span_99 : decode cX10_span 99 = .ok (.iload 5, 2) := by decide +kernel
theorem dX10_span_101 : decode cX10_span 101 = .ok (.goto 22, 3) := by decide +kernel
theorem dX10_span_104 : decode cX10_span 104 = .ok (.iload_n 2, 1) := by decide +kernel
theorem dX10_span_105 : decode cX10_span 105 = .ok (.ifCond .eq 12, 3) := by decide +kernel
theorem dX10_span_108 : decode cX10_span 108 = .ok (.iload_n 3, 1) := by decide +kernel
theorem dX10_span_109 : decode cX10_span 109 = .ok (.iload 5, 2) := by decide +kernel
theorem dX10_span_111 : decode cX10_span 111 = .ok (.invokestatic 239, 3) := by decide +kernel
theorem dX10_span_114 : decode cX10_span 114 = .ok (.goto 9, 3) := by decide +kernel
theorem dX10_span_117 : decode cX10_span 117 = .ok (.iload_n 3, 1) := by decide +kernel
theorem dX10_span_118 : decode cX10_span 118 = .ok (.iload 5, 2) := by decide +kernel
theorem dX10_span_120 : decode cX10_span 120 = .ok (.invokestatic 244, 3) := by decide +kernel
theorem dX10_span_123 : decode cX10_span 123 = .ok (.istore_n 3, 1) := by decide +kernel
theorem dX10_span_124 : decode cX10_span 124 = .ok (.iinc 4 1, 3) := by decide +kernel
theorem dX10_span_127 : decode cX10_span 127 = .ok (.goto (-88), 3) := by decide +kernel
theorem dX10_span_130 : decode cX10_span 130 = .ok (.iload_n 3, 1) := by decide +kernel
theorem dX10_span_131 : decode cX10_span 131 = .ok (.ireturn, 1) := by decide +kernel
noncomputable def fX10_span_L58 (V : VT) (u1 : Int32) (u2 : Int32) (u3 : Int32) (u4 : Int32) (u5 : Int32) : Option ((VT × Int32 × Int32 × Int32 × Int32 × Int32) ⊕ (VT × Int32 × Int32 × Int32 × Int32)) := if u1 ≤ u5 then (some (.inr ((V, u1, u2, u3, u4)))) else (ob_R (fX10_drawnDay V ) fun V12 => lt_ (u5 + (1 : Int32)) fun y13 => some (.inl (V12, u1, u2, u3, u4, y13)))
noncomputable def iX10_span_L58 : (VT × Int32 × Int32 × Int32 × Int32 × Int32) → Option ((VT × Int32 × Int32 × Int32 × Int32 × Int32) ⊕ (VT × Int32 × Int32 × Int32 × Int32)) := fun q => fX10_span_L58 (q.1) (q.2.1) (q.2.2.1) (q.2.2.2.1) (q.2.2.2.2.1) (q.2.2.2.2.2)
noncomputable def fX10_span_L39 (V : VT) (u1 : Int32) (u2 : Int32) (u3 : Int32) (u4 : Int32) : Option ((VT × Int32 × Int32 × Int32 × Int32) ⊕ (Int32 × VT)) := if (6 : Int32) < u4 then (some (.inr ((u3, V)))) else (rd_ (9 : Int32) 1988 (lt_ (va_up V 76 (upd (V 76) (9 : Int32).toNatClampNeg u4)) fun V10 => ob_R (it_ (iX10_span_L58) FV (V10, u1, u2, u3, u4, (0 : Int32))) fun x16 => (dt5_ x16 fun V21 y17 y18 y19 y20 => rd_ (7 : Int32) 1988 (rd_ (7 : Int32) 314 (lt_ ((V21 76 (7 : Int32).toNatClampNeg) - (V21 79 (7 : Int32).toNatClampNeg)) fun y24 => ob_R (fX10_bringsBack V21 ) fun V26 => if 0 ≤ y19 then (if y18 = 0 then (lt_ (if y24 < y19 then y24 else y19) fun y27 => lt_ (y20 + (1 : Int32)) fun y28 => some (.inl (V26, y17, y18, y27, y28))) else (lt_ (if y19 < y24 then y24 else y19) fun y29 => lt_ (y20 + (1 : Int32)) fun y30 => some (.inl (V26, y17, y18, y29, y30)))) else (lt_ (y20 + (1 : Int32)) fun y32 => some (.inl (V26, y17, y18, y24, y32))))))))
noncomputable def iX10_span_L39 : (VT × Int32 × Int32 × Int32 × Int32) → Option ((VT × Int32 × Int32 × Int32 × Int32) ⊕ (Int32 × VT)) := fun q => fX10_span_L39 (q.1) (q.2.1) (q.2.2.1) (q.2.2.2.1) (q.2.2.2.2)
noncomputable def fX10_span_j21 (V : VT) (u1 : Int32) (u2 : Int32) (t0 : Int32) : Option (Int32 × VT) := ob_I (fX10_throwsIf V t0 (1 : Int32)) fun y5 V6 => if y5 = 0 then (ob_R (fX10_keepsAll V6 ) fun V8 => ob_R (it_ (iX10_span_L39) FV (V8, u1, u2, (-1 : Int32), (1 : Int32))) fun x36 => some x36) else (some ((0 : Int32), V6))
noncomputable def fX10_span (V : VT) (x1 : Int32) (x2 : Int32) : Option (Int32 × VT) := lt_ (va_up V 22 (upd (V 22) 0 (0 : Int32))) fun V1 => ob_R (fX10_in V1 x1 (0 : Int32) (40 : Int32)) fun y3 => if y3 = 0 then (fX10_span_j21 V1 x1 x2 (1 : Int32)) else (fX10_span_j21 V1 x1 x2 (0 : Int32))
set_option maxHeartbeats 4000000 in
set_option maxRecDepth 100000 in
theorem wX10_span_L58 {p : Program} {l : Launch} {e : Env} {s : State} {m : MethodId} {args : Array Value} {below : List Frame} {meth : Method} {c : Code} {G : GT} {B : BGt} {Q : State → Prop} (E : En p s m args c meth cX10_span 6 RX10 (some .int) G B) {x : (VT × Int32 × Int32 × Int32 × Int32)} (ke : ∀ q : (VT × Int32 × Int32 × Int32 × Int32), x = q → ∀ (H : Heap) (locs : List Loc) (ls : Array Slot), HW G s.heap (q.1) H locs → lv_has ls 6 [(0, .ref (G.2.2 22)), (1, .int (q.2.1)), (2, .int (q.2.2.1)), (3, .int (q.2.2.2.1)), (4, .int (q.2.2.2.2))] → W p l e (rmD 16) s m args below meth c H locs 0 0 Q (F0 m 74 ls [])) : ∀ (n : Nat) (q : (VT × Int32 × Int32 × Int32 × Int32 × Int32)), it_ (iX10_span_L58) n q = some x → ∀ (H : Heap) (locs : List Loc) (ls : Array Slot), HW G s.heap (q.1) H locs → lv_has ls 6 [(0, .ref (G.2.2 22)), (1, .int (q.2.1)), (2, .int (q.2.2.1)), (3, .int (q.2.2.2.1)), (4, .int (q.2.2.2.2.1)), (5, .int (q.2.2.2.2.2))] → W p l e (rmD 16) s m args below meth c H locs 0 0 Q (F0 m 58 ls []) := by
  have hx := en_x E
  have hb := en_b E
  have hB := en_B E
  refine it_W (fun q : (VT × Int32 × Int32 × Int32 × Int32 × Int32) => ∀ (H : Heap) (locs : List Loc) (ls : Array Slot), HW G s.heap (q.1) H locs → lv_has ls 6 [(0, .ref (G.2.2 22)), (1, .int (q.2.1)), (2, .int (q.2.2.1)), (3, .int (q.2.2.2.1)), (4, .int (q.2.2.2.2.1)), (5, .int (q.2.2.2.2.2))] → W p l e (rmD 16) s m args below meth c H locs 0 0 Q (F0 m 58 ls [])) x ?_
  intro q r h kc kx
  obtain ⟨V, u1, u2, u3, u4, u5⟩ := q
  intro H locs ls hw hl
  have h : fX10_span_L58 V u1 u2 u3 u4 u5 = some r := h
  have hw : HW G s.heap V H locs := hw
  have hl : lv_has ls 6 [(0, .ref (G.2.2 22)), (1, .int u1), (2, .int u2), (3, .int u3), (4, .int u4), (5, .int u5)] := hl
  have ke : ∀ q : (VT × Int32 × Int32 × Int32 × Int32), r = .inr (q) → ∀ (H : Heap) (locs : List Loc) (ls : Array Slot), HW G s.heap (q.1) H locs → lv_has ls 6 [(0, .ref (G.2.2 22)), (1, .int (q.2.1)), (2, .int (q.2.2.1)), (3, .int (q.2.2.2.1)), (4, .int (q.2.2.2.2))] → W p l e (rmD 16) s m args below meth c H locs 0 0 Q (F0 m 74 ls []) := fun q e => ke q (kx _ e).symm
  unfold fX10_span_L58 at h
  refine lv_iload hx hb dX10_span_58 (lv_at hl 5 rfl) ?_
  refine lv_iload_n hx hb dX10_span_60 rfl (lv_at hl 1 rfl) ?_
  refine lv_icmp_ge (tgt := 74) hx hb dX10_span_61 (by decide) (fun c14 => ?_) (fun c14 => ?_)
  · rw [if_pos c14] at h
    exact ke (V, u1, u2, u3, u4) (Option.some.inj h).symm H locs ls hw (lv_sub hl [0, 1, 2, 3, 4] rfl)
  · rw [if_neg c14] at h
    refine lv_aload_n hx hb dX10_span_64 rfl (lv_at hl 0 rfl) ?_
    obtain ⟨V12, h11, h⟩ := ob_R_some h
    refine c_VV E hw (kX10_drawnDay (l := l) (G := G) hB  h11) yy_X10_drawnDay lm_RX10_392 rfl (by decide) rfl rfl hl.1 (by decide) (by decide) rfl (Nat.le_of_ble_eq_true rfl) dX10_span_65 (fun H locs hw => ?_)
    obtain ⟨y13, ey13, h⟩ := lt_some h
    refine lv_iinc (v := y13) (lv' := [(5, .int y13), (0, .ref (G.2.2 22)), (1, .int u1), (2, .int u2), (3, .int u3), (4, .int u4)]) hx hb dX10_span_68 hl (k := 5) rfl (by rw [ey13]; rfl) (by decide) rfl (fun ls hl => ?_)
    refine lv_goto (tgt := 58) hx hb dX10_span_71 (by decide) ?_
    exact kc (V12, u1, u2, u3, u4, y13) (Option.some.inj h).symm H locs ls hw (lv_sub hl [1, 2, 3, 4, 5, 0] rfl)
set_option maxHeartbeats 4000000 in
set_option maxRecDepth 100000 in
theorem wX10_span_L39 {p : Program} {l : Launch} {e : Env} {s : State} {m : MethodId} {args : Array Value} {below : List Frame} {meth : Method} {c : Code} {G : GT} {B : BGt} {Q : State → Prop} (E : En p s m args c meth cX10_span 6 RX10 (some .int) G B) {x : (Int32 × VT)} (kr : ∀ q : (Int32 × VT), x = q → Q = MQ below (QI G s.heap.size q.1 q.2) args s 0 0 (gA G s.heap.size)) : ∀ (n : Nat) (q : (VT × Int32 × Int32 × Int32 × Int32)), it_ (iX10_span_L39) n q = some x → ∀ (H : Heap) (locs : List Loc) (ls : Array Slot), HW G s.heap (q.1) H locs → lv_has ls 6 [(0, .ref (G.2.2 22)), (1, .int (q.2.1)), (2, .int (q.2.2.1)), (3, .int (q.2.2.2.1)), (4, .int (q.2.2.2.2))] → W p l e (rmD 16) s m args below meth c H locs 0 0 Q (F0 m 39 ls []) := by
  have hx := en_x E
  have hb := en_b E
  have hB := en_B E
  refine it_W (fun q : (VT × Int32 × Int32 × Int32 × Int32) => ∀ (H : Heap) (locs : List Loc) (ls : Array Slot), HW G s.heap (q.1) H locs → lv_has ls 6 [(0, .ref (G.2.2 22)), (1, .int (q.2.1)), (2, .int (q.2.2.1)), (3, .int (q.2.2.2.1)), (4, .int (q.2.2.2.2))] → W p l e (rmD 16) s m args below meth c H locs 0 0 Q (F0 m 39 ls [])) x ?_
  intro q r h kc kx
  obtain ⟨V, u1, u2, u3, u4⟩ := q
  intro H locs ls hw hl
  have h : fX10_span_L39 V u1 u2 u3 u4 = some r := h
  have hw : HW G s.heap V H locs := hw
  have hl : lv_has ls 6 [(0, .ref (G.2.2 22)), (1, .int u1), (2, .int u2), (3, .int u3), (4, .int u4)] := hl
  have kr : ∀ q : (Int32 × VT), r = .inr (q) → Q = MQ below (QI G s.heap.size q.1 q.2) args s 0 0 (gA G s.heap.size) := fun q e => kr q (kx _ e).symm
  unfold fX10_span_L39 at h
  refine lv_iload hx hb dX10_span_39 (lv_at hl 4 rfl) ?_
  refine lv_bipush (v := (6 : Int32)) hx hb dX10_span_41 (by decide) ?_
  refine lv_icmp_gt (tgt := 130) hx hb dX10_span_43 (by decide) (fun c34 => ?_) (fun c34 => ?_)
  · rw [if_pos c34] at h
    refine lv_iload_n hx hb dX10_span_130 rfl (lv_at hl 3 rfl) ?_
    rw [kr (u3, V) (Option.some.inj h).symm]
    exact r_ri E hw dX10_span_131
  · rw [if_neg c34] at h
    refine lv_aload_n hx hb dX10_span_46 rfl (lv_at hl 0 rfl) ?_
    refine r_gr E hw 22 1 76 (N := 29) (C := RX10) (T := TX10) (by decide) rfl rfl (by decide) rfl iw_10 rfl lf_RX10_13 dX10_span_47 ?_
    refine lv_bipush (v := (9 : Int32)) hx hb dX10_span_50 (by decide) ?_
    refine lv_iload hx hb dX10_span_52 (lv_at hl 4 rfl) ?_
    obtain ⟨b9, h⟩ := rd_some h
    obtain ⟨V10, eV10, h⟩ := lt_some h
    refine r_is E hw 76 1988 (by decide) (by decide) (by decide) rfl rfl b9 eV10 dX10_span_54 (fun H locs hw => ?_)
    refine lv_iconst (v := (0 : Int32)) hx hb dX10_span_55 (by decide) ?_
    refine lv_istore (lv' := [(5, .int (0 : Int32)), (0, .ref (G.2.2 22)), (1, .int u1), (2, .int u2), (3, .int u3), (4, .int u4)]) hx hb dX10_span_56 hl (by decide) rfl (fun ls hl => ?_)
    obtain ⟨x16, h15, h⟩ := ob_R_some h
    obtain ⟨V21, y17, y18, y19, y20⟩ := x16
    refine wX10_span_L58 E (fun q e H locs ls hw hl => ?_) FV (V10, u1, u2, u3, u4, (0 : Int32)) h15 H locs ls hw (lv_sub hl [1, 2, 3, 4, 5, 0] rfl)
    subst e
    have hw : HW G s.heap V21 H locs := hw
    have hl : lv_has ls 6 [(0, .ref (G.2.2 22)), (1, .int y17), (2, .int y18), (3, .int y19), (4, .int y20)] := hl
    have h := dt5_eq h
    refine lv_aload_n hx hb dX10_span_74 rfl (lv_at hl 0 rfl) ?_
    refine r_gr E hw 22 1 76 (N := 29) (C := RX10) (T := TX10) (by decide) rfl rfl (by decide) rfl iw_10 rfl lf_RX10_13 dX10_span_75 ?_
    refine lv_bipush (v := (7 : Int32)) hx hb dX10_span_78 (by decide) ?_
    obtain ⟨b22, h⟩ := rd_some h
    refine r_ia E hw 76 1988 (by decide) (by decide) (by decide) rfl rfl b22 dX10_span_80 ?_
    refine lv_aload_n hx hb dX10_span_81 rfl (lv_at hl 0 rfl) ?_
    refine r_gr E hw 22 4 79 (N := 29) (C := RX10) (T := TX10) (by decide) rfl rfl (by decide) rfl iw_10 rfl lf_RX10_23 dX10_span_82 ?_
    refine lv_bipush (v := (7 : Int32)) hx hb dX10_span_85 (by decide) ?_
    obtain ⟨b23, h⟩ := rd_some h
    refine r_ia E hw 79 314 (by decide) (by decide) (by decide) rfl rfl b23 dX10_span_87 ?_
    refine lv_isub hx hb dX10_span_88 ?_
    obtain ⟨y24, ey24, h⟩ := lt_some h
    refine lv_eqi ey24 ?_
    refine lv_istore (lv' := [(5, .int y24), (0, .ref (G.2.2 22)), (1, .int y17), (2, .int y18), (3, .int y19), (4, .int y20)]) hx hb dX10_span_89 hl (by decide) rfl (fun ls hl => ?_)
    refine lv_aload_n hx hb dX10_span_91 rfl (lv_at hl 1 rfl) ?_
    obtain ⟨V26, h25, h⟩ := ob_R_some h
    refine c_VV E hw (kX10_bringsBack (l := l) (G := G) hB  h25) yy_X10_bringsBack lm_RX10_401 rfl (by decide) rfl rfl hl.1 (by decide) (by decide) rfl (Nat.le_of_ble_eq_true rfl) dX10_span_92 (fun H locs hw => ?_)
    refine lv_iload_n hx hb dX10_span_95 rfl (lv_at hl 4 rfl) ?_
    refine lv_if_ge (tgt := 104) hx hb dX10_span_96 (by decide) (fun c33 => ?_) (fun c33 => ?_)
    · rw [if_pos c33] at h
      refine lv_iload_n hx hb dX10_span_104 rfl (lv_at hl 3 rfl) ?_
      refine lv_if_eq (tgt := 117) hx hb dX10_span_105 (by decide) (fun c31 => ?_) (fun c31 => ?_)
      · rw [if_pos c31] at h
        refine lv_iload_n hx hb dX10_span_117 rfl (lv_at hl 4 rfl) ?_
        refine lv_iload hx hb dX10_span_118 (lv_at hl 0 rfl) ?_
        refine r_min E hl.1 lm_RX10_244 (by decide) (Nat.le_of_ble_eq_true rfl) dX10_span_120 ?_
        obtain ⟨y27, ey27, h⟩ := lt_some h
        refine lv_eqi ey27 ?_
        refine lv_istore_n (lv' := [(3, .int y27), (5, .int y24), (0, .ref (G.2.2 22)), (1, .int y17), (2, .int y18), (4, .int y20)]) hx hb dX10_span_123 rfl hl (by decide) rfl (fun ls hl => ?_)
        obtain ⟨y28, ey28, h⟩ := lt_some h
        refine lv_iinc (v := y28) (lv' := [(4, .int y28), (3, .int y27), (5, .int y24), (0, .ref (G.2.2 22)), (1, .int y17), (2, .int y18)]) hx hb dX10_span_124 hl (k := 5) rfl (by rw [ey28]; rfl) (by decide) rfl (fun ls hl => ?_)
        refine lv_goto (tgt := 39) hx hb dX10_span_127 (by decide) ?_
        exact kc (V26, y17, y18, y27, y28) (Option.some.inj h).symm H locs ls hw (lv_sub hl [3, 4, 5, 1, 0] rfl)
      · rw [if_neg c31] at h
        refine lv_iload_n hx hb dX10_span_108 rfl (lv_at hl 4 rfl) ?_
        refine lv_iload hx hb dX10_span_109 (lv_at hl 0 rfl) ?_
        refine r_max E hl.1 lm_RX10_239 (by decide) (Nat.le_of_ble_eq_true rfl) dX10_span_111 ?_
        refine lv_goto (tgt := 123) hx hb dX10_span_114 (by decide) ?_
        obtain ⟨y29, ey29, h⟩ := lt_some h
        refine lv_eqi ey29 ?_
        refine lv_istore_n (lv' := [(3, .int y29), (5, .int y24), (0, .ref (G.2.2 22)), (1, .int y17), (2, .int y18), (4, .int y20)]) hx hb dX10_span_123 rfl hl (by decide) rfl (fun ls hl => ?_)
        obtain ⟨y30, ey30, h⟩ := lt_some h
        refine lv_iinc (v := y30) (lv' := [(4, .int y30), (3, .int y29), (5, .int y24), (0, .ref (G.2.2 22)), (1, .int y17), (2, .int y18)]) hx hb dX10_span_124 hl (k := 5) rfl (by rw [ey30]; rfl) (by decide) rfl (fun ls hl => ?_)
        refine lv_goto (tgt := 39) hx hb dX10_span_127 (by decide) ?_
        exact kc (V26, y17, y18, y29, y30) (Option.some.inj h).symm H locs ls hw (lv_sub hl [3, 4, 5, 1, 0] rfl)
    · rw [if_neg c33] at h
      refine lv_iload hx hb dX10_span_99 (lv_at hl 0 rfl) ?_
      refine lv_goto (tgt := 123) hx hb dX10_span_101 (by decide) ?_
      refine lv_istore_n (lv' := [(3, .int y24), (5, .int y24), (0, .ref (G.2.2 22)), (1, .int y17), (2, .int y18), (4, .int y20)]) hx hb dX10_span_123 rfl hl (by decide) rfl (fun ls hl => ?_)
      obtain ⟨y32, ey32, h⟩ := lt_some h
      refine lv_iinc (v := y32) (lv' := [(4, .int y32), (3, .int y24), (5, .int y24), (0, .ref (G.2.2 22)), (1, .int y17), (2, .int y18)]) hx hb dX10_span_124 hl (k := 5) rfl (by rw [ey32]; rfl) (by decide) rfl (fun ls hl => ?_)
      refine lv_goto (tgt := 39) hx hb dX10_span_127 (by decide) ?_
      exact kc (V26, y17, y18, y24, y32) (Option.some.inj h).symm H locs ls hw (lv_sub hl [3, 4, 5, 1, 0] rfl)
set_option maxHeartbeats 4000000 in
set_option maxRecDepth 100000 in
theorem wX10_span_j21 {p : Program} {l : Launch} {e : Env} {s : State} {m : MethodId} {args : Array Value} {below : List Frame} {meth : Method} {c : Code} {G : GT} {B : BGt} {Q : State → Prop} (E : En p s m args c meth cX10_span 6 RX10 (some .int) G B) {V : VT} {u1 : Int32} {u2 : Int32} {t0 : Int32} {r : (Int32 × VT)} (h : fX10_span_j21 V u1 u2 t0 = some r) (kr : Q = MQ below (QI G s.heap.size r.1 r.2) args s 0 0 (gA G s.heap.size)) {H : Heap} {locs : List Loc} {ls : Array Slot} (hw : HW G s.heap V H locs) (hl : lv_has ls 6 [(0, .ref (G.2.2 22)), (1, .int u1), (2, .int u2)]) : W p l e (rmD 16) s m args below meth c H locs 0 0 Q (F0 m 21 ls [.int t0, .ref (G.2.2 22)]) := by
  have hx := en_x E
  have hb := en_b E
  have hB := en_B E
  unfold fX10_span_j21 at h
  refine lv_iconst (v := (1 : Int32)) hx hb dX10_span_21 (by decide) ?_
  obtain ⟨y5, V6, h4, h⟩ := ob_I_some h
  refine c_VI E hw (kX10_throwsIf (l := l) (G := G) hB  h4) yy_X10_throwsIf lm_RX10_233 rfl (by decide) rfl rfl hl.1 (by decide) (by decide) rfl (Nat.le_of_ble_eq_true rfl) dX10_span_22 (fun H locs hw => ?_)
  refine lv_if_eq (tgt := 30) hx hb dX10_span_25 (by decide) (fun c37 => ?_) (fun c37 => ?_)
  · rw [if_pos c37] at h
    refine lv_aload_n hx hb dX10_span_30 rfl (lv_at hl 0 rfl) ?_
    obtain ⟨V8, h7, h⟩ := ob_R_some h
    refine c_VV E hw (kX10_keepsAll (l := l) (G := G) hB  h7) yy_X10_keepsAll lm_RX10_395 rfl (by decide) rfl rfl hl.1 (by decide) (by decide) rfl (Nat.le_of_ble_eq_true rfl) dX10_span_31 (fun H locs hw => ?_)
    refine lv_iconst (v := (-1 : Int32)) hx hb dX10_span_34 (by decide) ?_
    refine lv_istore_n (lv' := [(3, .int (-1 : Int32)), (0, .ref (G.2.2 22)), (1, .int u1), (2, .int u2)]) hx hb dX10_span_35 rfl hl (by decide) rfl (fun ls hl => ?_)
    refine lv_iconst (v := (1 : Int32)) hx hb dX10_span_36 (by decide) ?_
    refine lv_istore (lv' := [(4, .int (1 : Int32)), (3, .int (-1 : Int32)), (0, .ref (G.2.2 22)), (1, .int u1), (2, .int u2)]) hx hb dX10_span_37 hl (by decide) rfl (fun ls hl => ?_)
    obtain ⟨x36, h35, h⟩ := ob_R_some h
    have h := Option.some.inj h
    subst h
    exact wX10_span_L39 E (fun q e => by subst e; exact kr) FV (V8, u1, u2, (-1 : Int32), (1 : Int32)) h35 H locs ls hw (lv_sub hl [2, 3, 4, 1, 0] rfl)
  · rw [if_neg c37] at h
    refine lv_iconst (v := (0 : Int32)) hx hb dX10_span_28 (by decide) ?_
    have h := Option.some.inj h
    subst h
    rw [kr]
    exact r_ri E hw dX10_span_29
set_option maxHeartbeats 4000000 in
set_option maxRecDepth 100000 in
theorem kX10_span {l : Launch} {G : GT} {B : BGt} (hB : BGok B) {V : VT} {x1 : Int32} {x2 : Int32} {r : (Int32 × VT)} (h : fX10_span V x1 x2 = some r) : CI l G B yX10_span (.code yX10_span cX10_span 6 (some .int)) 16 [.ref (G.2.2 22), .int x1, .int x2] V r.1 r.2 := by
  intro sz
  refine met_of (Qs := fun sz => QI G sz (r.1) (r.2)) hB (by decide) (Nat.le_of_ble_eq_true rfl) ?_ sz
  intro p e s m args below meth c ls E hw hl
  have hx := en_x E
  have hb := en_b E
  generalize hQ : MQ _ _ _ _ _ _ _ = Q
  have kr : Q = MQ below (QI G s.heap.size r.1 r.2) args s 0 0 (gA G s.heap.size) := hQ.symm
  have hl : lv_has ls 6 [(0, .ref (G.2.2 22)), (1, .int x1), (2, .int x2)] := hl
  obtain ⟨H, eH⟩ : ∃ H, H = s.heap := ⟨_, rfl⟩
  obtain ⟨locs, elocs⟩ : ∃ z : List Loc, z = [] := ⟨_, rfl⟩
  have hw : HW G s.heap V H locs := by rw [eH, elocs]; exact hw
  show W p l e _ s m args below meth c s.heap [] 0 0 Q (F0 m 0 ls [])
  rw [← eH, ← elocs]
  unfold fX10_span at h
  refine lv_aload_n hx hb dX10_span_0 rfl (lv_at hl 0 rfl) ?_
  refine lv_iconst (v := (0 : Int32)) hx hb dX10_span_1 (by decide) ?_
  obtain ⟨V1, eV1, h⟩ := lt_some h
  refine r_pi E hw 22 0 (N := 29) (C := RX10) (T := TX10) (ty0 := tyX10) (ty := .int) (by decide) rfl rfl (by decide) rfl iw_10 rfl tyX10_ok nmX10 rfl rfl (vp_nar_int _) rfl lf_RX10_3 eV1 dX10_span_2 (fun H locs hw => ?_)
  refine lv_aload_n hx hb dX10_span_5 rfl (lv_at hl 0 rfl) ?_
  refine lv_iload_n hx hb dX10_span_6 rfl (lv_at hl 1 rfl) ?_
  refine lv_iconst (v := (0 : Int32)) hx hb dX10_span_7 (by decide) ?_
  refine lv_bipush (v := (40 : Int32)) hx hb dX10_span_8 (by decide) ?_
  obtain ⟨y3, h2, h⟩ := ob_R_some h
  refine c_SI E hw (kX10_in (l := l) (G := G) hB  h2) yy_X10_in lm_RX10_76 rfl hl.1 (by decide) (by decide) rfl (Nat.le_of_ble_eq_true rfl) dX10_span_10 (fun H locs hw => ?_)
  refine lv_if_ne (tgt := 20) hx hb dX10_span_13 (by decide) (fun c38 => ?_) (fun c38 => ?_)
  · rw [if_neg c38] at h
    refine lv_iconst (v := (0 : Int32)) hx hb dX10_span_20 (by decide) ?_
    exact wX10_span_j21 E h kr hw (lv_sub hl [0, 1, 2] rfl)
  · rw [if_pos c38] at h
    refine lv_iconst (v := (1 : Int32)) hx hb dX10_span_16 (by decide) ?_
    refine lv_goto (tgt := 21) hx hb dX10_span_17 (by decide) ?_
    exact wX10_span_j21 E h kr hw (lv_sub hl [0, 1, 2] rfl)
/-! ===== AllSawItModel.ofLog(II)I ===== -/
theorem dX10_ofLog_0 : decode cX10_ofLog 0 = .ok (.aload_n 0, 1) := by decide +kernel
theorem dX10_ofLog_1 : decode cX10_ofLog 1 = .ok (.getfield 13, 3) := by decide +kernel
theorem dX10_ofLog_4 : decode cX10_ofLog 4 = .ok (.sipush 134, 3) := by decide +kernel
theorem dX10_ofLog_7 : decode cX10_ofLog 7 = .ok (.iconst 3, 1) := by decide +kernel
theorem dX10_ofLog_8 : decode cX10_ofLog 8 = .ok (.iload_n 1, 1) := by decide +kernel
theorem dX10_ofLog_9 : decode cX10_ofLog 9 = .ok (.imul, 1) := by decide +kernel
theorem dX10_ofLog_10 : decode cX10_ofLog 10 = .ok (.iadd, 1) := by decide +kernel
theorem dX10_ofLog_11 : decode cX10_ofLog 11 = .ok (.iload_n 2, 1) := by decide +kernel
theorem dX10_ofLog_12 : decode cX10_ofLog 12 = .ok (.iadd, 1) := by decide +kernel
theorem dX10_ofLog_13 : decode cX10_ofLog 13 = .ok (.iaload, 1) := by decide +kernel
theorem dX10_ofLog_14 : decode cX10_ofLog 14 = .ok (.ireturn, 1) := by decide +kernel
noncomputable def fX10_ofLog (V : VT) (x1 : Int32) (x2 : Int32) : Option Int32 := rd_ (((134 : Int32) + ((3 : Int32) * x1)) + x2) 1988 (some (V 76 (((134 : Int32) + ((3 : Int32) * x1)) + x2).toNatClampNeg))
set_option maxHeartbeats 4000000 in
set_option maxRecDepth 100000 in
theorem kX10_ofLog {l : Launch} {G : GT} {B : BGt} (hB : BGok B) {V : VT} {x1 : Int32} {x2 : Int32} {r : Int32} (h : fX10_ofLog V x1 x2 = some r) : CI l G B yX10_ofLog (.code yX10_ofLog cX10_ofLog 3 (some .int)) 2 [.ref (G.2.2 22), .int x1, .int x2] V r V := by
  intro sz
  refine met_of (Qs := fun sz => QI G sz r V) hB (by decide) (Nat.le_of_ble_eq_true rfl) ?_ sz
  intro p e s m args below meth c ls E hw hl
  have hx := en_x E
  have hb := en_b E
  generalize hQ : MQ _ _ _ _ _ _ _ = Q
  have kr : Q = MQ below (QI G s.heap.size r V) args s 0 0 (gA G s.heap.size) := hQ.symm
  have hl : lv_has ls 3 [(0, .ref (G.2.2 22)), (1, .int x1), (2, .int x2)] := hl
  obtain ⟨H, eH⟩ : ∃ H, H = s.heap := ⟨_, rfl⟩
  obtain ⟨locs, elocs⟩ : ∃ z : List Loc, z = [] := ⟨_, rfl⟩
  have hw : HW G s.heap V H locs := by rw [eH, elocs]; exact hw
  show W p l e _ s m args below meth c s.heap [] 0 0 Q (F0 m 0 ls [])
  rw [← eH, ← elocs]
  unfold fX10_ofLog at h
  refine lv_aload_n hx hb dX10_ofLog_0 rfl (lv_at hl 0 rfl) ?_
  refine r_gr E hw 22 1 76 (N := 29) (C := RX10) (T := TX10) (by decide) rfl rfl (by decide) rfl iw_10 rfl lf_RX10_13 dX10_ofLog_1 ?_
  refine lv_sipush (v := (134 : Int32)) hx hb dX10_ofLog_4 (by decide) ?_
  refine lv_iconst (v := (3 : Int32)) hx hb dX10_ofLog_7 (by decide) ?_
  refine lv_iload_n hx hb dX10_ofLog_8 rfl (lv_at hl 1 rfl) ?_
  refine lv_imul hx hb dX10_ofLog_9 ?_
  refine lv_iadd hx hb dX10_ofLog_10 ?_
  refine lv_iload_n hx hb dX10_ofLog_11 rfl (lv_at hl 2 rfl) ?_
  refine lv_iadd hx hb dX10_ofLog_12 ?_
  obtain ⟨b1, h⟩ := rd_some h
  refine r_ia E hw 76 1988 (by decide) (by decide) (by decide) rfl rfl b1 dX10_ofLog_13 ?_
  have h := Option.some.inj h
  subst h
  rw [kr]
  exact r_ri E hw dX10_ofLog_14
/-! ===== AllSawItModel.led(IZ)I ===== -/
theorem dX10_led_0 : decode cX10_led 0 = .ok (.aload_n 0, 1) := by decide +kernel
theorem dX10_led_1 : decode cX10_led 1 = .ok (.iconst 0, 1) := by decide +kernel
theorem dX10_led_2 : decode cX10_led 2 = .ok (.putfield 3, 3) := by decide +kernel
theorem dX10_led_5 : decode cX10_led 5 = .ok (.aload_n 0, 1) := by decide +kernel
theorem dX10_led_6 : decode cX10_led 6 = .ok (.aload_n 0, 1) := by decide +kernel
theorem dX10_led_7 : decode cX10_led 7 = .ok (.iload_n 1, 1) := by decide +kernel
theorem dX10_led_8 : decode cX10_led 8 = .ok (.invokevirtual 309, 3) := by decide +kernel
theorem dX10_led_11 : decode cX10_led 11 = .ok (.iconst 1, 1) := by decide +kernel
theorem dX10_led_12 : decode cX10_led 12 = .ok (.invokevirtual 233, 3) := by decide +kernel
theorem dX10_led_15 : decode cX10_led 15 = .ok (.ifCond .eq 5, 3) := by decide +kernel
theorem dX10_led_18 : decode cX10_led 18 = .ok (.iconst 0, 1) := by decide +kernel
theorem dX10_led_19 : decode cX10_led 19 = .ok (.ireturn, 1) := by decide +kernel
theorem dX10_led_20 : decode cX10_led 20 = .ok (.iconst 0, 1) := by decide +kernel
theorem dX10_led_21 : decode cX10_led 21 = .ok (.istore_n 3, 1) := by decide +kernel
theorem dX10_led_22 : decode cX10_led 22 = .ok (.iconst (-1), 1) := by decide +kernel
theorem dX10_led_23 : decode cX10_led 23 = .ok (.istore 4, 2) := by decide +kernel
theorem dX10_led_25 : decode cX10_led 25 = .ok (.aload_n 0, 1) := by decide +kernel
theorem dX10_led_26 : decode cX10_led 26 = .ok (.getfield 13, 3) := by decide +kernel
theorem dX10_led_29 : decode cX10_led 29 = .ok (.bipush 8, 2) := by decide +kernel
theorem dX10_led_31 : decode cX10_led 31 = .ok (.iaload, 1) := by decide +kernel
theorem dX10_led_32 : decode cX10_led 32 = .ok (.iconst 1, 1) := by decide +kernel
theorem dX10_led_33 : decode cX10_led 33 = .ok (.isub, 1) := by decide +kernel
theorem dX10_led_34 : decode cX10_led 34 = .ok (.istore 5, 2) := by decide +kernel
theorem dX10_led_36 : decode cX10_led 36 = .ok (.iload 5, 2) := by decide +kernel
theorem dX10_led_38 : decode cX10_led 38 = .ok (.ifCond .lt 35, 3) := by decide +kernel
theorem dX10_led_41 : decode cX10_led 41 = .ok (.aload_n 0, 1) := by decide +kernel
theorem dX10_led_42 : decode cX10_led 42 = .ok (.iload 5, 2) := by decide +kernel
theorem dX10_led_44 : decode cX10_led 44 = .ok (.iconst 1, 1) := by decide +kernel
theorem dX10_led_45 : decode cX10_led 45 = .ok (.invokevirtual 425, 3) := by decide +kernel
theorem dX10_led_48 : decode cX10_led 48 = .ok (.iload_n 1, 1) := by decide +kernel
theorem dX10_led_49 : decode cX10_led 49 = .ok (.if_icmp .eq 6, 3) := by decide +kernel
theorem dX10_led_52 : decode cX10_led 52 = .ok (.goto 15, 3) := by decide +kernel
theorem dX10_led_55 : decode cX10_led 55 = .ok (.iinc 3 1, 3) := by decide +kernel
theorem dX10_led_58 : decode cX10_led 58 = .ok (.aload_n 0, 1) := by decide +kernel
theorem dX10_led_59 : decode cX10_led 59 = .ok (.iload 5, 2) := by decide +kernel
theorem dX10_led_61 : decode cX10_led 61 = .ok (.iconst 0, 1) := by decide +kernel
theorem dX10_led_62 : decode cX10_led 62 = .ok (.invokevirtual 425, 3) := by decide +kernel
theorem dX10_led_65 : decode cX10_led 65 = .ok (.istore 4, 2) := by decide +kernel
theorem dX10_led_67 : decode cX10_led 67 = .ok (.iinc 5 (-1), 3) := by decide +kernel
theorem dX10_led_70 : decode cX10_led 70 = .ok (.goto (-34), 3) := by decide +kernel
theorem dX10_led_73 : decode cX10_led 73 = .ok (.iload_n 2, 1) := by decide +kernel
theorem dX10_led_74 : decode cX10_led 74 = .ok (.ifCond .eq 8, 3) := by decide +kernel
theorem dX10_led_77 : decode cX10_led 77 = .ok (.iload 4, 2) := by decide +kernel
theorem dX10_led_79 : decode cX10_led 79 = .ok (.goto 4, 3) := by decide +kernel
theorem dX10_led_82 : decode cX10_led 82 = .ok (.iload_n 3, 1) := by decide +kernel
theorem dX10_led_83 : decode cX10_led 83 = .ok (.ireturn, 1) := by decide +kernel
noncomputable def fX10_led_L36 (V : VT) (u1 : Int32) (u2 : Int32) (u3 : Int32) (u4 : Int32) (u5 : Int32) : Option ((VT × Int32 × Int32 × Int32 × Int32 × Int32) ⊕ (VT × Int32 × Int32 × Int32)) := if u5 < 0 then (some (.inr ((V, u2, u3, u4)))) else (ob_R (fX10_ofLog V u5 (1 : Int32)) fun y10 => if y10 = u1 then (lt_ (u3 + (1 : Int32)) fun y11 => ob_R (fX10_ofLog V u5 (0 : Int32)) fun y13 => lt_ (u5 + (-1 : Int32)) fun y14 => some (.inl (V, u1, u2, y11, y13, y14))) else (lt_ (u5 + (-1 : Int32)) fun y15 => some (.inl (V, u1, u2, u3, u4, y15))))
noncomputable def iX10_led_L36 : (VT × Int32 × Int32 × Int32 × Int32 × Int32) → Option ((VT × Int32 × Int32 × Int32 × Int32 × Int32) ⊕ (VT × Int32 × Int32 × Int32)) := fun q => fX10_led_L36 (q.1) (q.2.1) (q.2.2.1) (q.2.2.2.1) (q.2.2.2.2.1) (q.2.2.2.2.2)
noncomputable def fX10_led (V : VT) (x1 : Int32) (x2 : Int32) : Option (Int32 × VT) := lt_ (va_up V 22 (upd (V 22) 0 (0 : Int32))) fun V1 => ob_R (fX10_noHouse V1 x1) fun y3 => ob_I (fX10_throwsIf V1 y3 (1 : Int32)) fun y5 V6 => if y5 = 0 then (rd_ (8 : Int32) 1988 (lt_ ((V6 76 (8 : Int32).toNatClampNeg) - (1 : Int32)) fun y8 => ob_R (it_ (iX10_led_L36) FV (V6, x1, x2, (0 : Int32), (-1 : Int32), y8)) fun x19 => (dt4_ x19 fun V23 y20 y21 y22 => if y20 = 0 then (some (y21, V23)) else (some (y22, V23))))) else (some ((0 : Int32), V6))
set_option maxHeartbeats 4000000 in
set_option maxRecDepth 100000 in
theorem wX10_led_L36 {p : Program} {l : Launch} {e : Env} {s : State} {m : MethodId} {args : Array Value} {below : List Frame} {meth : Method} {c : Code} {G : GT} {B : BGt} {Q : State → Prop} (E : En p s m args c meth cX10_led 6 RX10 (some .int) G B) {x : (VT × Int32 × Int32 × Int32)} (ke : ∀ q : (VT × Int32 × Int32 × Int32), x = q → ∀ (H : Heap) (locs : List Loc) (ls : Array Slot), HW G s.heap (q.1) H locs → lv_has ls 6 [(2, .int (q.2.1)), (3, .int (q.2.2.1)), (4, .int (q.2.2.2))] → W p l e (rmD 4) s m args below meth c H locs 0 0 Q (F0 m 73 ls [])) : ∀ (n : Nat) (q : (VT × Int32 × Int32 × Int32 × Int32 × Int32)), it_ (iX10_led_L36) n q = some x → ∀ (H : Heap) (locs : List Loc) (ls : Array Slot), HW G s.heap (q.1) H locs → lv_has ls 6 [(0, .ref (G.2.2 22)), (1, .int (q.2.1)), (2, .int (q.2.2.1)), (3, .int (q.2.2.2.1)), (4, .int (q.2.2.2.2.1)), (5, .int (q.2.2.2.2.2))] → W p l e (rmD 4) s m args below meth c H locs 0 0 Q (F0 m 36 ls []) := by
  have hx := en_x E
  have hb := en_b E
  have hB := en_B E
  refine it_W (fun q : (VT × Int32 × Int32 × Int32 × Int32 × Int32) => ∀ (H : Heap) (locs : List Loc) (ls : Array Slot), HW G s.heap (q.1) H locs → lv_has ls 6 [(0, .ref (G.2.2 22)), (1, .int (q.2.1)), (2, .int (q.2.2.1)), (3, .int (q.2.2.2.1)), (4, .int (q.2.2.2.2.1)), (5, .int (q.2.2.2.2.2))] → W p l e (rmD 4) s m args below meth c H locs 0 0 Q (F0 m 36 ls [])) x ?_
  intro q r h kc kx
  obtain ⟨V, u1, u2, u3, u4, u5⟩ := q
  intro H locs ls hw hl
  have h : fX10_led_L36 V u1 u2 u3 u4 u5 = some r := h
  have hw : HW G s.heap V H locs := hw
  have hl : lv_has ls 6 [(0, .ref (G.2.2 22)), (1, .int u1), (2, .int u2), (3, .int u3), (4, .int u4), (5, .int u5)] := hl
  have ke : ∀ q : (VT × Int32 × Int32 × Int32), r = .inr (q) → ∀ (H : Heap) (locs : List Loc) (ls : Array Slot), HW G s.heap (q.1) H locs → lv_has ls 6 [(2, .int (q.2.1)), (3, .int (q.2.2.1)), (4, .int (q.2.2.2))] → W p l e (rmD 4) s m args below meth c H locs 0 0 Q (F0 m 73 ls []) := fun q e => ke q (kx _ e).symm
  unfold fX10_led_L36 at h
  refine lv_iload hx hb dX10_led_36 (lv_at hl 5 rfl) ?_
  refine lv_if_lt (tgt := 73) hx hb dX10_led_38 (by decide) (fun c17 => ?_) (fun c17 => ?_)
  · rw [if_pos c17] at h
    exact ke (V, u2, u3, u4) (Option.some.inj h).symm H locs ls hw (lv_sub hl [2, 3, 4] rfl)
  · rw [if_neg c17] at h
    refine lv_aload_n hx hb dX10_led_41 rfl (lv_at hl 0 rfl) ?_
    refine lv_iload hx hb dX10_led_42 (lv_at hl 5 rfl) ?_
    refine lv_iconst (v := (1 : Int32)) hx hb dX10_led_44 (by decide) ?_
    obtain ⟨y10, h9, h⟩ := ob_R_some h
    refine c_VI E hw (kX10_ofLog (l := l) (G := G) hB  h9) yy_X10_ofLog lm_RX10_425 rfl (by decide) rfl rfl hl.1 (by decide) (by decide) rfl (Nat.le_of_ble_eq_true rfl) dX10_led_45 (fun H locs hw => ?_)
    refine lv_iload_n hx hb dX10_led_48 rfl (lv_at hl 1 rfl) ?_
    refine lv_icmp_eq (tgt := 55) hx hb dX10_led_49 (by decide) (fun c16 => ?_) (fun c16 => ?_)
    · rw [if_pos c16] at h
      obtain ⟨y11, ey11, h⟩ := lt_some h
      refine lv_iinc (v := y11) (lv' := [(3, .int y11), (0, .ref (G.2.2 22)), (1, .int u1), (2, .int u2), (4, .int u4), (5, .int u5)]) hx hb dX10_led_55 hl (k := 3) rfl (by rw [ey11]; rfl) (by decide) rfl (fun ls hl => ?_)
      refine lv_aload_n hx hb dX10_led_58 rfl (lv_at hl 1 rfl) ?_
      refine lv_iload hx hb dX10_led_59 (lv_at hl 5 rfl) ?_
      refine lv_iconst (v := (0 : Int32)) hx hb dX10_led_61 (by decide) ?_
      obtain ⟨y13, h12, h⟩ := ob_R_some h
      refine c_VI E hw (kX10_ofLog (l := l) (G := G) hB  h12) yy_X10_ofLog lm_RX10_425 rfl (by decide) rfl rfl hl.1 (by decide) (by decide) rfl (Nat.le_of_ble_eq_true rfl) dX10_led_62 (fun H locs hw => ?_)
      refine lv_istore (lv' := [(4, .int y13), (3, .int y11), (0, .ref (G.2.2 22)), (1, .int u1), (2, .int u2), (5, .int u5)]) hx hb dX10_led_65 hl (by decide) rfl (fun ls hl => ?_)
      obtain ⟨y14, ey14, h⟩ := lt_some h
      refine lv_iinc (v := y14) (lv' := [(5, .int y14), (4, .int y13), (3, .int y11), (0, .ref (G.2.2 22)), (1, .int u1), (2, .int u2)]) hx hb dX10_led_67 hl (k := 5) rfl (by rw [ey14]; rfl) (by decide) rfl (fun ls hl => ?_)
      refine lv_goto (tgt := 36) hx hb dX10_led_70 (by decide) ?_
      exact kc (V, u1, u2, y11, y13, y14) (Option.some.inj h).symm H locs ls hw (lv_sub hl [3, 4, 5, 2, 1, 0] rfl)
    · rw [if_neg c16] at h
      refine lv_goto (tgt := 67) hx hb dX10_led_52 (by decide) ?_
      obtain ⟨y15, ey15, h⟩ := lt_some h
      refine lv_iinc (v := y15) (lv' := [(5, .int y15), (0, .ref (G.2.2 22)), (1, .int u1), (2, .int u2), (3, .int u3), (4, .int u4)]) hx hb dX10_led_67 hl (k := 5) rfl (by rw [ey15]; rfl) (by decide) rfl (fun ls hl => ?_)
      refine lv_goto (tgt := 36) hx hb dX10_led_70 (by decide) ?_
      exact kc (V, u1, u2, u3, u4, y15) (Option.some.inj h).symm H locs ls hw (lv_sub hl [1, 2, 3, 4, 5, 0] rfl)
set_option maxHeartbeats 4000000 in
set_option maxRecDepth 100000 in
theorem kX10_led {l : Launch} {G : GT} {B : BGt} (hB : BGok B) {V : VT} {x1 : Int32} {x2 : Int32} {r : (Int32 × VT)} (h : fX10_led V x1 x2 = some r) : CI l G B yX10_led (.code yX10_led cX10_led 6 (some .int)) 4 [.ref (G.2.2 22), .int x1, .int x2] V r.1 r.2 := by
  intro sz
  refine met_of (Qs := fun sz => QI G sz (r.1) (r.2)) hB (by decide) (Nat.le_of_ble_eq_true rfl) ?_ sz
  intro p e s m args below meth c ls E hw hl
  have hx := en_x E
  have hb := en_b E
  generalize hQ : MQ _ _ _ _ _ _ _ = Q
  have kr : Q = MQ below (QI G s.heap.size r.1 r.2) args s 0 0 (gA G s.heap.size) := hQ.symm
  have hl : lv_has ls 6 [(0, .ref (G.2.2 22)), (1, .int x1), (2, .int x2)] := hl
  obtain ⟨H, eH⟩ : ∃ H, H = s.heap := ⟨_, rfl⟩
  obtain ⟨locs, elocs⟩ : ∃ z : List Loc, z = [] := ⟨_, rfl⟩
  have hw : HW G s.heap V H locs := by rw [eH, elocs]; exact hw
  show W p l e _ s m args below meth c s.heap [] 0 0 Q (F0 m 0 ls [])
  rw [← eH, ← elocs]
  unfold fX10_led at h
  refine lv_aload_n hx hb dX10_led_0 rfl (lv_at hl 0 rfl) ?_
  refine lv_iconst (v := (0 : Int32)) hx hb dX10_led_1 (by decide) ?_
  obtain ⟨V1, eV1, h⟩ := lt_some h
  refine r_pi E hw 22 0 (N := 29) (C := RX10) (T := TX10) (ty0 := tyX10) (ty := .int) (by decide) rfl rfl (by decide) rfl iw_10 rfl tyX10_ok nmX10 rfl rfl (vp_nar_int _) rfl lf_RX10_3 eV1 dX10_led_2 (fun H locs hw => ?_)
  refine lv_aload_n hx hb dX10_led_5 rfl (lv_at hl 0 rfl) ?_
  refine lv_aload_n hx hb dX10_led_6 rfl (lv_at hl 0 rfl) ?_
  refine lv_iload_n hx hb dX10_led_7 rfl (lv_at hl 1 rfl) ?_
  obtain ⟨y3, h2, h⟩ := ob_R_some h
  refine c_VI E hw (kX10_noHouse (l := l) (G := G) hB  h2) yy_X10_noHouse lm_RX10_309 rfl (by decide) rfl rfl hl.1 (by decide) (by decide) rfl (Nat.le_of_ble_eq_true rfl) dX10_led_8 (fun H locs hw => ?_)
  refine lv_iconst (v := (1 : Int32)) hx hb dX10_led_11 (by decide) ?_
  obtain ⟨y5, V6, h4, h⟩ := ob_I_some h
  refine c_VI E hw (kX10_throwsIf (l := l) (G := G) hB  h4) yy_X10_throwsIf lm_RX10_233 rfl (by decide) rfl rfl hl.1 (by decide) (by decide) rfl (Nat.le_of_ble_eq_true rfl) dX10_led_12 (fun H locs hw => ?_)
  refine lv_if_eq (tgt := 20) hx hb dX10_led_15 (by decide) (fun c25 => ?_) (fun c25 => ?_)
  · rw [if_pos c25] at h
    refine lv_iconst (v := (0 : Int32)) hx hb dX10_led_20 (by decide) ?_
    refine lv_istore_n (lv' := [(3, .int (0 : Int32)), (0, .ref (G.2.2 22)), (1, .int x1), (2, .int x2)]) hx hb dX10_led_21 rfl hl (by decide) rfl (fun ls hl => ?_)
    refine lv_iconst (v := (-1 : Int32)) hx hb dX10_led_22 (by decide) ?_
    refine lv_istore (lv' := [(4, .int (-1 : Int32)), (3, .int (0 : Int32)), (0, .ref (G.2.2 22)), (1, .int x1), (2, .int x2)]) hx hb dX10_led_23 hl (by decide) rfl (fun ls hl => ?_)
    refine lv_aload_n hx hb dX10_led_25 rfl (lv_at hl 2 rfl) ?_
    refine r_gr E hw 22 1 76 (N := 29) (C := RX10) (T := TX10) (by decide) rfl rfl (by decide) rfl iw_10 rfl lf_RX10_13 dX10_led_26 ?_
    refine lv_bipush (v := (8 : Int32)) hx hb dX10_led_29 (by decide) ?_
    obtain ⟨b7, h⟩ := rd_some h
    refine r_ia E hw 76 1988 (by decide) (by decide) (by decide) rfl rfl b7 dX10_led_31 ?_
    refine lv_iconst (v := (1 : Int32)) hx hb dX10_led_32 (by decide) ?_
    refine lv_isub hx hb dX10_led_33 ?_
    obtain ⟨y8, ey8, h⟩ := lt_some h
    refine lv_eqi ey8 ?_
    refine lv_istore (lv' := [(5, .int y8), (4, .int (-1 : Int32)), (3, .int (0 : Int32)), (0, .ref (G.2.2 22)), (1, .int x1), (2, .int x2)]) hx hb dX10_led_34 hl (by decide) rfl (fun ls hl => ?_)
    obtain ⟨x19, h18, h⟩ := ob_R_some h
    obtain ⟨V23, y20, y21, y22⟩ := x19
    refine wX10_led_L36 E (fun q e H locs ls hw hl => ?_) FV (V6, x1, x2, (0 : Int32), (-1 : Int32), y8) h18 H locs ls hw (lv_sub hl [3, 4, 5, 2, 1, 0] rfl)
    subst e
    have hw : HW G s.heap V23 H locs := hw
    have hl : lv_has ls 6 [(2, .int y20), (3, .int y21), (4, .int y22)] := hl
    have h := dt4_eq h
    refine lv_iload_n hx hb dX10_led_73 rfl (lv_at hl 0 rfl) ?_
    refine lv_if_eq (tgt := 82) hx hb dX10_led_74 (by decide) (fun c24 => ?_) (fun c24 => ?_)
    · rw [if_pos c24] at h
      refine lv_iload_n hx hb dX10_led_82 rfl (lv_at hl 1 rfl) ?_
      have h := Option.some.inj h
      subst h
      rw [kr]
      exact r_ri E hw dX10_led_83
    · rw [if_neg c24] at h
      refine lv_iload hx hb dX10_led_77 (lv_at hl 2 rfl) ?_
      refine lv_goto (tgt := 83) hx hb dX10_led_79 (by decide) ?_
      have h := Option.some.inj h
      subst h
      rw [kr]
      exact r_ri E hw dX10_led_83
  · rw [if_neg c25] at h
    refine lv_iconst (v := (0 : Int32)) hx hb dX10_led_18 (by decide) ?_
    have h := Option.some.inj h
    subst h
    rw [kr]
    exact r_ri E hw dX10_led_19
/-! ===== AllSawItModel.log(II)I ===== -/
theorem dX10_log_0 : decode cX10_log 0 = .ok (.aload_n 0, 1) := by decide +kernel
theorem dX10_log_1 : decode cX10_log 1 = .ok (.iconst 0, 1) := by decide +kernel
theorem dX10_log_2 : decode cX10_log 2 = .ok (.putfield 3, 3) := by decide +kernel
theorem dX10_log_5 : decode cX10_log 5 = .ok (.aload_n 0, 1) := by decide +kernel
theorem dX10_log_6 : decode cX10_log 6 = .ok (.iload_n 2, 1) := by decide +kernel
theorem dX10_log_7 : decode cX10_log 7 = .ok (.iconst 0, 1) := by decide +kernel
theorem dX10_log_8 : decode cX10_log 8 = .ok (.iconst 2, 1) := by decide +kernel
theorem dX10_log_9 : decode cX10_log 9 = .ok (.invokestatic 76, 3) := by decide +kernel
theorem dX10_log_12 : decode cX10_log 12 = .ok (.ifCond .ne 7, 3) := by decide +kernel
theorem dX10_log_15 : decode cX10_log 15 = .ok (.iconst 1, 1) := by decide +kernel
theorem dX10_log_16 : decode cX10_log 16 = .ok (.goto 4, 3) := by decide +kernel
theorem dX10_log_19 : decode cX10_log 19 = .ok (.iconst 0, 1) := by decide +kernel
theorem dX10_log_20 : decode cX10_log 20 = .ok (.iconst 1, 1) := by decide +kernel
theorem dX10_log_21 : decode cX10_log 21 = .ok (.invokevirtual 233, 3) := by decide +kernel
theorem dX10_log_24 : decode cX10_log 24 = .ok (.ifCond .eq 5, 3) := by decide +kernel
theorem dX10_log_27 : decode cX10_log 27 = .ok (.iconst 0, 1) := by decide +kernel
theorem dX10_log_28 : decode cX10_log 28 = .ok (.ireturn, 1) := by decide +kernel
theorem dX10_log_29 : decode cX10_log 29 = .ok (.iload_n 1, 1) := by decide +kernel
theorem dX10_log_30 : decode cX10_log 30 = .ok (.iconst 0, 1) := by decide +kernel
theorem dX10_log_31 : decode cX10_log 31 = .ok (.aload_n 0, 1) := by decide +kernel
theorem dX10_log_32 : decode cX10_log 32 = .ok (.getfield 13, 3) := by decide +kernel
theorem dX10_log_35 : decode cX10_log 35 = .ok (.bipush 8, 2) := by decide +kernel
theorem dX10_log_37 : decode cX10_log 37 = .ok (.iaload, 1) := by decide +kernel
theorem dX10_log_38 : decode cX10_log 38 = .ok (.iconst 1, 1) := by decide +kernel
theorem dX10_log_39 : decode cX10_log 39 = .ok (.isub, 1) := by decide +kernel
theorem dX10_log_40 : decode cX10_log 40 = .ok (.invokestatic 76, 3) := by decide +kernel
theorem dX10_log_43 : decode cX10_log 43 = .ok (.ifCond .eq 12, 3) := by decide +kernel
theorem dX10_log_46 : decode cX10_log 46 = .ok (.aload_n 0, 1) := by decide +kernel
theorem dX10_log_47 : decode cX10_log 47 = .ok (.iload_n 1, 1) := by decide +kernel
theorem dX10_log_48 : decode cX10_log 48 = .ok (.iload_n 2, 1) := by decide +kernel
theorem dX10_log_49 : decode cX10_log 49 = .ok (.invokevirtual 425, 3) := by decide +kernel
theorem dX10_log_52 : decode cX10_log 52 = .ok (.goto 4, 3) := by decide +kernel
theorem dX10_log_55 : decode cX10_log 55 = .ok (.iconst (-1), 1) := by decide +kernel
theorem dX10_log_56 : decode cX10_log 56 = .ok (.ireturn, 1) := by decide +kernel
noncomputable def fX10_log_j20 (V : VT) (u1 : Int32) (u2 : Int32) (t0 : Int32) : Option (Int32 × VT) := ob_I (fX10_throwsIf V t0 (1 : Int32)) fun y5 V6 => if y5 = 0 then (rd_ (8 : Int32) 1988 (ob_R (fX10_in V6 u1 (0 : Int32) ((V6 76 (8 : Int32).toNatClampNeg) - (1 : Int32))) fun y9 => if y9 = 0 then (some ((-1 : Int32), V6)) else (ob_R (fX10_ofLog V6 u1 u2) fun y11 => some (y11, V6)))) else (some ((0 : Int32), V6))
noncomputable def fX10_log (V : VT) (x1 : Int32) (x2 : Int32) : Option (Int32 × VT) := lt_ (va_up V 22 (upd (V 22) 0 (0 : Int32))) fun V1 => ob_R (fX10_in V1 x2 (0 : Int32) (2 : Int32)) fun y3 => if y3 = 0 then (fX10_log_j20 V1 x1 x2 (1 : Int32)) else (fX10_log_j20 V1 x1 x2 (0 : Int32))
set_option maxHeartbeats 4000000 in
set_option maxRecDepth 100000 in
theorem wX10_log_j20 {p : Program} {l : Launch} {e : Env} {s : State} {m : MethodId} {args : Array Value} {below : List Frame} {meth : Method} {c : Code} {G : GT} {B : BGt} {Q : State → Prop} (E : En p s m args c meth cX10_log 3 RX10 (some .int) G B) {V : VT} {u1 : Int32} {u2 : Int32} {t0 : Int32} {r : (Int32 × VT)} (h : fX10_log_j20 V u1 u2 t0 = some r) (kr : Q = MQ below (QI G s.heap.size r.1 r.2) args s 0 0 (gA G s.heap.size)) {H : Heap} {locs : List Loc} {ls : Array Slot} (hw : HW G s.heap V H locs) (hl : lv_has ls 3 [(0, .ref (G.2.2 22)), (1, .int u1), (2, .int u2)]) : W p l e (rmD 3) s m args below meth c H locs 0 0 Q (F0 m 20 ls [.int t0, .ref (G.2.2 22)]) := by
  have hx := en_x E
  have hb := en_b E
  have hB := en_B E
  unfold fX10_log_j20 at h
  refine lv_iconst (v := (1 : Int32)) hx hb dX10_log_20 (by decide) ?_
  obtain ⟨y5, V6, h4, h⟩ := ob_I_some h
  refine c_VI E hw (kX10_throwsIf (l := l) (G := G) hB  h4) yy_X10_throwsIf lm_RX10_233 rfl (by decide) rfl rfl hl.1 (by decide) (by decide) rfl (Nat.le_of_ble_eq_true rfl) dX10_log_21 (fun H locs hw => ?_)
  refine lv_if_eq (tgt := 29) hx hb dX10_log_24 (by decide) (fun c13 => ?_) (fun c13 => ?_)
  · rw [if_pos c13] at h
    refine lv_iload_n hx hb dX10_log_29 rfl (lv_at hl 1 rfl) ?_
    refine lv_iconst (v := (0 : Int32)) hx hb dX10_log_30 (by decide) ?_
    refine lv_aload_n hx hb dX10_log_31 rfl (lv_at hl 0 rfl) ?_
    refine r_gr E hw 22 1 76 (N := 29) (C := RX10) (T := TX10) (by decide) rfl rfl (by decide) rfl iw_10 rfl lf_RX10_13 dX10_log_32 ?_
    refine lv_bipush (v := (8 : Int32)) hx hb dX10_log_35 (by decide) ?_
    obtain ⟨b7, h⟩ := rd_some h
    refine r_ia E hw 76 1988 (by decide) (by decide) (by decide) rfl rfl b7 dX10_log_37 ?_
    refine lv_iconst (v := (1 : Int32)) hx hb dX10_log_38 (by decide) ?_
    refine lv_isub hx hb dX10_log_39 ?_
    obtain ⟨y9, h8, h⟩ := ob_R_some h
    refine c_SI E hw (kX10_in (l := l) (G := G) hB  h8) yy_X10_in lm_RX10_76 rfl hl.1 (by decide) (by decide) rfl (Nat.le_of_ble_eq_true rfl) dX10_log_40 (fun H locs hw => ?_)
    refine lv_if_eq (tgt := 55) hx hb dX10_log_43 (by decide) (fun c12 => ?_) (fun c12 => ?_)
    · rw [if_pos c12] at h
      refine lv_iconst (v := (-1 : Int32)) hx hb dX10_log_55 (by decide) ?_
      have h := Option.some.inj h
      subst h
      rw [kr]
      exact r_ri E hw dX10_log_56
    · rw [if_neg c12] at h
      refine lv_aload_n hx hb dX10_log_46 rfl (lv_at hl 0 rfl) ?_
      refine lv_iload_n hx hb dX10_log_47 rfl (lv_at hl 1 rfl) ?_
      refine lv_iload_n hx hb dX10_log_48 rfl (lv_at hl 2 rfl) ?_
      obtain ⟨y11, h10, h⟩ := ob_R_some h
      refine c_VI E hw (kX10_ofLog (l := l) (G := G) hB  h10) yy_X10_ofLog lm_RX10_425 rfl (by decide) rfl rfl hl.1 (by decide) (by decide) rfl (Nat.le_of_ble_eq_true rfl) dX10_log_49 (fun H locs hw => ?_)
      refine lv_goto (tgt := 56) hx hb dX10_log_52 (by decide) ?_
      have h := Option.some.inj h
      subst h
      rw [kr]
      exact r_ri E hw dX10_log_56
  · rw [if_neg c13] at h
    refine lv_iconst (v := (0 : Int32)) hx hb dX10_log_27 (by decide) ?_
    have h := Option.some.inj h
    subst h
    rw [kr]
    exact r_ri E hw dX10_log_28
set_option maxHeartbeats 4000000 in
set_option maxRecDepth 100000 in
theorem kX10_log {l : Launch} {G : GT} {B : BGt} (hB : BGok B) {V : VT} {x1 : Int32} {x2 : Int32} {r : (Int32 × VT)} (h : fX10_log V x1 x2 = some r) : CI l G B yX10_log (.code yX10_log cX10_log 3 (some .int)) 3 [.ref (G.2.2 22), .int x1, .int x2] V r.1 r.2 := by
  intro sz
  refine met_of (Qs := fun sz => QI G sz (r.1) (r.2)) hB (by decide) (Nat.le_of_ble_eq_true rfl) ?_ sz
  intro p e s m args below meth c ls E hw hl
  have hx := en_x E
  have hb := en_b E
  generalize hQ : MQ _ _ _ _ _ _ _ = Q
  have kr : Q = MQ below (QI G s.heap.size r.1 r.2) args s 0 0 (gA G s.heap.size) := hQ.symm
  have hl : lv_has ls 3 [(0, .ref (G.2.2 22)), (1, .int x1), (2, .int x2)] := hl
  obtain ⟨H, eH⟩ : ∃ H, H = s.heap := ⟨_, rfl⟩
  obtain ⟨locs, elocs⟩ : ∃ z : List Loc, z = [] := ⟨_, rfl⟩
  have hw : HW G s.heap V H locs := by rw [eH, elocs]; exact hw
  show W p l e _ s m args below meth c s.heap [] 0 0 Q (F0 m 0 ls [])
  rw [← eH, ← elocs]
  unfold fX10_log at h
  refine lv_aload_n hx hb dX10_log_0 rfl (lv_at hl 0 rfl) ?_
  refine lv_iconst (v := (0 : Int32)) hx hb dX10_log_1 (by decide) ?_
  obtain ⟨V1, eV1, h⟩ := lt_some h
  refine r_pi E hw 22 0 (N := 29) (C := RX10) (T := TX10) (ty0 := tyX10) (ty := .int) (by decide) rfl rfl (by decide) rfl iw_10 rfl tyX10_ok nmX10 rfl rfl (vp_nar_int _) rfl lf_RX10_3 eV1 dX10_log_2 (fun H locs hw => ?_)
  refine lv_aload_n hx hb dX10_log_5 rfl (lv_at hl 0 rfl) ?_
  refine lv_iload_n hx hb dX10_log_6 rfl (lv_at hl 2 rfl) ?_
  refine lv_iconst (v := (0 : Int32)) hx hb dX10_log_7 (by decide) ?_
  refine lv_iconst (v := (2 : Int32)) hx hb dX10_log_8 (by decide) ?_
  obtain ⟨y3, h2, h⟩ := ob_R_some h
  refine c_SI E hw (kX10_in (l := l) (G := G) hB  h2) yy_X10_in lm_RX10_76 rfl hl.1 (by decide) (by decide) rfl (Nat.le_of_ble_eq_true rfl) dX10_log_9 (fun H locs hw => ?_)
  refine lv_if_ne (tgt := 19) hx hb dX10_log_12 (by decide) (fun c14 => ?_) (fun c14 => ?_)
  · rw [if_neg c14] at h
    refine lv_iconst (v := (0 : Int32)) hx hb dX10_log_19 (by decide) ?_
    exact wX10_log_j20 E h kr hw (lv_sub hl [0, 1, 2] rfl)
  · rw [if_pos c14] at h
    refine lv_iconst (v := (1 : Int32)) hx hb dX10_log_15 (by decide) ?_
    refine lv_goto (tgt := 20) hx hb dX10_log_16 (by decide) ?_
    exact wX10_log_j20 E h kr hw (lv_sub hl [0, 1, 2] rfl)
/-! ===== AllSawItModel.seed(I)I ===== -/
theorem dX10_seed_0 : decode cX10_seed 0 = .ok (.aload_n 0, 1) := by decide +kernel
theorem dX10_seed_1 : decode cX10_seed 1 = .ok (.iconst 0, 1) := by decide +kernel
theorem dX10_seed_2 : decode cX10_seed 2 = .ok (.putfield 3, 3) := by decide +kernel
theorem dX10_seed_5 : decode cX10_seed 5 = .ok (.aload_n 0, 1) := by decide +kernel
theorem dX10_seed_6 : decode cX10_seed 6 = .ok (.getfield 13, 3) := by decide +kernel
theorem dX10_seed_9 : decode cX10_seed 9 = .ok (.bipush 9, 2) := by decide +kernel
theorem dX10_seed_11 : decode cX10_seed 11 = .ok (.iaload, 1) := by decide +kernel
theorem dX10_seed_12 : decode cX10_seed 12 = .ok (.istore_n 2, 1) := by decide +kernel
theorem dX10_seed_13 : decode cX10_seed 13 = .ok (.aload_n 0, 1) := by decide +kernel
theorem dX10_seed_14 : decode cX10_seed 14 = .ok (.getfield 13, 3) := by decide +kernel
theorem dX10_seed_17 : decode cX10_seed 17 = .ok (.bipush 9, 2) := by decide +kernel
theorem dX10_seed_19 : decode cX10_seed 19 = .ok (.iload_n 1, 1) := by decide +kernel
theorem dX10_seed_20 : decode cX10_seed 20 = .ok (.iastore, 1) := by decide +kernel
theorem dX10_seed_21 : decode cX10_seed 21 = .ok (.iload_n 2, 1) := by decide +kernel
theorem dX10_seed_22 : decode cX10_seed 22 = .ok (.ireturn, 1) := by decide +kernel
noncomputable def fX10_seed (V : VT) (x1 : Int32) : Option (Int32 × VT) := lt_ (va_up V 22 (upd (V 22) 0 (0 : Int32))) fun V1 => rd_ (9 : Int32) 1988 (lt_ (V1 76 (9 : Int32).toNatClampNeg) fun y3 => rd_ (9 : Int32) 1988 (lt_ (va_up V1 76 (upd (V1 76) (9 : Int32).toNatClampNeg x1)) fun V5 => some (y3, V5)))
set_option maxHeartbeats 4000000 in
set_option maxRecDepth 100000 in
theorem kX10_seed {l : Launch} {G : GT} {B : BGt} (hB : BGok B) {V : VT} {x1 : Int32} {r : (Int32 × VT)} (h : fX10_seed V x1 = some r) : CI l G B yX10_seed (.code yX10_seed cX10_seed 3 (some .int)) 2 [.ref (G.2.2 22), .int x1] V r.1 r.2 := by
  intro sz
  refine met_of (Qs := fun sz => QI G sz (r.1) (r.2)) hB (by decide) (Nat.le_of_ble_eq_true rfl) ?_ sz
  intro p e s m args below meth c ls E hw hl
  have hx := en_x E
  have hb := en_b E
  generalize hQ : MQ _ _ _ _ _ _ _ = Q
  have kr : Q = MQ below (QI G s.heap.size r.1 r.2) args s 0 0 (gA G s.heap.size) := hQ.symm
  have hl : lv_has ls 3 [(0, .ref (G.2.2 22)), (1, .int x1)] := hl
  obtain ⟨H, eH⟩ : ∃ H, H = s.heap := ⟨_, rfl⟩
  obtain ⟨locs, elocs⟩ : ∃ z : List Loc, z = [] := ⟨_, rfl⟩
  have hw : HW G s.heap V H locs := by rw [eH, elocs]; exact hw
  show W p l e _ s m args below meth c s.heap [] 0 0 Q (F0 m 0 ls [])
  rw [← eH, ← elocs]
  unfold fX10_seed at h
  refine lv_aload_n hx hb dX10_seed_0 rfl (lv_at hl 0 rfl) ?_
  refine lv_iconst (v := (0 : Int32)) hx hb dX10_seed_1 (by decide) ?_
  obtain ⟨V1, eV1, h⟩ := lt_some h
  refine r_pi E hw 22 0 (N := 29) (C := RX10) (T := TX10) (ty0 := tyX10) (ty := .int) (by decide) rfl rfl (by decide) rfl iw_10 rfl tyX10_ok nmX10 rfl rfl (vp_nar_int _) rfl lf_RX10_3 eV1 dX10_seed_2 (fun H locs hw => ?_)
  refine lv_aload_n hx hb dX10_seed_5 rfl (lv_at hl 0 rfl) ?_
  refine r_gr E hw 22 1 76 (N := 29) (C := RX10) (T := TX10) (by decide) rfl rfl (by decide) rfl iw_10 rfl lf_RX10_13 dX10_seed_6 ?_
  refine lv_bipush (v := (9 : Int32)) hx hb dX10_seed_9 (by decide) ?_
  obtain ⟨b2, h⟩ := rd_some h
  refine r_ia E hw 76 1988 (by decide) (by decide) (by decide) rfl rfl b2 dX10_seed_11 ?_
  obtain ⟨y3, ey3, h⟩ := lt_some h
  refine lv_eqi ey3 ?_
  refine lv_istore_n (lv' := [(2, .int y3), (0, .ref (G.2.2 22)), (1, .int x1)]) hx hb dX10_seed_12 rfl hl (by decide) rfl (fun ls hl => ?_)
  refine lv_aload_n hx hb dX10_seed_13 rfl (lv_at hl 1 rfl) ?_
  refine r_gr E hw 22 1 76 (N := 29) (C := RX10) (T := TX10) (by decide) rfl rfl (by decide) rfl iw_10 rfl lf_RX10_13 dX10_seed_14 ?_
  refine lv_bipush (v := (9 : Int32)) hx hb dX10_seed_17 (by decide) ?_
  refine lv_iload_n hx hb dX10_seed_19 rfl (lv_at hl 2 rfl) ?_
  obtain ⟨b4, h⟩ := rd_some h
  obtain ⟨V5, eV5, h⟩ := lt_some h
  refine r_is E hw 76 1988 (by decide) (by decide) (by decide) rfl rfl b4 eV5 dX10_seed_20 (fun H locs hw => ?_)
  refine lv_iload_n hx hb dX10_seed_21 rfl (lv_at hl 0 rfl) ?_
  have h := Option.some.inj h
  subst h
  rw [kr]
  exact r_ri E hw dX10_seed_22
/-! ===== AllSawItModel.sumOf(I)I ===== -/
theorem dX10_sumOf_0 : decode cX10_sumOf 0 = .ok (.iconst 0, 1) := by decide +kernel
theorem dX10_sumOf_1 : decode cX10_sumOf 1 = .ok (.istore_n 2, 1) := by decide +kernel
theorem dX10_sumOf_2 : decode cX10_sumOf 2 = .ok (.iconst 0, 1) := by decide +kernel
theorem dX10_sumOf_3 : decode cX10_sumOf 3 = .ok (.istore_n 3, 1) := by decide +kernel
theorem dX10_sumOf_4 : decode cX10_sumOf 4 = .ok (.iload_n 3, 1) := by decide +kernel
theorem dX10_sumOf_5 : decode cX10_sumOf 5 = .ok (.aload_n 0, 1) := by decide +kernel
theorem dX10_sumOf_6 : decode cX10_sumOf 6 = .ok (.invokevirtual 62, 3) := by decide +kernel
theorem dX10_sumOf_9 : decode cX10_sumOf 9 = .ok (.if_icmp .ge 18, 3) := by decide +kernel
theorem dX10_sumOf_12 : decode cX10_sumOf 12 = .ok (.iload_n 2, 1) := by decide +kernel
theorem dX10_sumOf_13 : decode cX10_sumOf 13 = .ok (.aload_n 0, 1) := by decide +kernel
theorem dX10_sumOf_14 : decode cX10_sumOf 14 = .ok (.iload_n 3, 1) := by decide +kernel
theorem dX10_sumOf_15 : decode cX10_sumOf 15 = .ok (.iload_n 1, 1) := by decide +kernel
theorem dX10_sumOf_16 : decode cX10_sumOf 16 = .ok (.invokevirtual 236, 3) := by decide +kernel
theorem dX10_sumOf_19 : decode cX10_sumOf 19 = .ok (.iadd, 1) := by decide +kernel
theorem dX10_sumOf_20 : decode cX10_sumOf 20 = .ok (.istore_n 2, 1) := by decide +kernel
theorem dX10_sumOf_21 : decode cX10_sumOf 21 = .ok (.iinc 3 1, 3) := by decide +kernel
theorem dX10_sumOf_24 : decode cX10_sumOf 24 = .ok (.goto (-20), 3) := by decide +kernel
theorem dX10_sumOf_27 : decode cX10_sumOf 27 = .ok (.iload_n 2, 1) := by decide +kernel
theorem dX10_sumOf_28 : decode cX10_sumOf 28 = .ok (.ireturn, 1) := by decide +kernel
noncomputable def fX10_sumOf_L4 (V : VT) (u1 : Int32) (u2 : Int32) (u3 : Int32) : Option ((Int32 × Int32 × Int32) ⊕ Int32) := ob_R (fX10_houses V ) fun y2 => if y2 ≤ u3 then (some (.inr (u2))) else (ob_R (fX10_of V u3 u1) fun y4 => lt_ (u2 + y4) fun y5 => lt_ (u3 + (1 : Int32)) fun y6 => some (.inl (u1, y5, y6)))
noncomputable def iX10_sumOf_L4 (V : VT) : (Int32 × Int32 × Int32) → Option ((Int32 × Int32 × Int32) ⊕ Int32) := fun q => fX10_sumOf_L4 V (q.1) (q.2.1) (q.2.2)
noncomputable def fX10_sumOf (V : VT) (x1 : Int32) : Option Int32 := ob_R (it_ (iX10_sumOf_L4 V) FV (x1, (0 : Int32), (0 : Int32))) fun x9 => some x9
set_option maxHeartbeats 4000000 in
set_option maxRecDepth 100000 in
theorem wX10_sumOf_L4 {p : Program} {l : Launch} {e : Env} {s : State} {m : MethodId} {args : Array Value} {below : List Frame} {meth : Method} {c : Code} {G : GT} {B : BGt} {Q : State → Prop} (E : En p s m args c meth cX10_sumOf 4 RX10 (some .int) G B) {V : VT} {x : Int32} (kr : ∀ q : Int32, x = q → Q = MQ below (QI G s.heap.size q V) args s 0 0 (gA G s.heap.size)) : ∀ (n : Nat) (q : (Int32 × Int32 × Int32)), it_ (iX10_sumOf_L4 V) n q = some x → ∀ (H : Heap) (locs : List Loc) (ls : Array Slot), HW G s.heap V H locs → lv_has ls 4 [(0, .ref (G.2.2 22)), (1, .int (q.1)), (2, .int (q.2.1)), (3, .int (q.2.2))] → W p l e (rmD 4) s m args below meth c H locs 0 0 Q (F0 m 4 ls []) := by
  have hx := en_x E
  have hb := en_b E
  have hB := en_B E
  refine it_W (fun q : (Int32 × Int32 × Int32) => ∀ (H : Heap) (locs : List Loc) (ls : Array Slot), HW G s.heap V H locs → lv_has ls 4 [(0, .ref (G.2.2 22)), (1, .int (q.1)), (2, .int (q.2.1)), (3, .int (q.2.2))] → W p l e (rmD 4) s m args below meth c H locs 0 0 Q (F0 m 4 ls [])) x ?_
  intro q r h kc kx
  obtain ⟨u1, u2, u3⟩ := q
  intro H locs ls hw hl
  have h : fX10_sumOf_L4 V u1 u2 u3 = some r := h
  have hw : HW G s.heap V H locs := hw
  have hl : lv_has ls 4 [(0, .ref (G.2.2 22)), (1, .int u1), (2, .int u2), (3, .int u3)] := hl
  have kr : ∀ q : Int32, r = .inr (q) → Q = MQ below (QI G s.heap.size q V) args s 0 0 (gA G s.heap.size) := fun q e => kr q (kx _ e).symm
  unfold fX10_sumOf_L4 at h
  refine lv_iload_n hx hb dX10_sumOf_4 rfl (lv_at hl 3 rfl) ?_
  refine lv_aload_n hx hb dX10_sumOf_5 rfl (lv_at hl 0 rfl) ?_
  obtain ⟨y2, h1, h⟩ := ob_R_some h
  refine c_VI E hw (kX10_houses (l := l) (G := G) hB  h1) yy_X10_houses lm_RX10_62 rfl (by decide) rfl rfl hl.1 (by decide) (by decide) rfl (Nat.le_of_ble_eq_true rfl) dX10_sumOf_6 (fun H locs hw => ?_)
  refine lv_icmp_ge (tgt := 27) hx hb dX10_sumOf_9 (by decide) (fun c7 => ?_) (fun c7 => ?_)
  · rw [if_pos c7] at h
    refine lv_iload_n hx hb dX10_sumOf_27 rfl (lv_at hl 2 rfl) ?_
    rw [kr u2 (Option.some.inj h).symm]
    exact r_ri E hw dX10_sumOf_28
  · rw [if_neg c7] at h
    refine lv_iload_n hx hb dX10_sumOf_12 rfl (lv_at hl 2 rfl) ?_
    refine lv_aload_n hx hb dX10_sumOf_13 rfl (lv_at hl 0 rfl) ?_
    refine lv_iload_n hx hb dX10_sumOf_14 rfl (lv_at hl 3 rfl) ?_
    refine lv_iload_n hx hb dX10_sumOf_15 rfl (lv_at hl 1 rfl) ?_
    obtain ⟨y4, h3, h⟩ := ob_R_some h
    refine c_VI E hw (kX10_of (l := l) (G := G) hB  h3) yy_X10_of lm_RX10_236 rfl (by decide) rfl rfl hl.1 (by decide) (by decide) rfl (Nat.le_of_ble_eq_true rfl) dX10_sumOf_16 (fun H locs hw => ?_)
    refine lv_iadd hx hb dX10_sumOf_19 ?_
    obtain ⟨y5, ey5, h⟩ := lt_some h
    refine lv_eqi ey5 ?_
    refine lv_istore_n (lv' := [(2, .int y5), (0, .ref (G.2.2 22)), (1, .int u1), (3, .int u3)]) hx hb dX10_sumOf_20 rfl hl (by decide) rfl (fun ls hl => ?_)
    obtain ⟨y6, ey6, h⟩ := lt_some h
    refine lv_iinc (v := y6) (lv' := [(3, .int y6), (2, .int y5), (0, .ref (G.2.2 22)), (1, .int u1)]) hx hb dX10_sumOf_21 hl (k := 3) rfl (by rw [ey6]; rfl) (by decide) rfl (fun ls hl => ?_)
    refine lv_goto (tgt := 4) hx hb dX10_sumOf_24 (by decide) ?_
    exact kc (u1, y5, y6) (Option.some.inj h).symm H locs ls hw (lv_sub hl [2, 3, 1, 0] rfl)
set_option maxHeartbeats 4000000 in
set_option maxRecDepth 100000 in
theorem kX10_sumOf {l : Launch} {G : GT} {B : BGt} (hB : BGok B) {V : VT} {x1 : Int32} {r : Int32} (h : fX10_sumOf V x1 = some r) : CI l G B yX10_sumOf (.code yX10_sumOf cX10_sumOf 4 (some .int)) 4 [.ref (G.2.2 22), .int x1] V r V := by
  intro sz
  refine met_of (Qs := fun sz => QI G sz r V) hB (by decide) (Nat.le_of_ble_eq_true rfl) ?_ sz
  intro p e s m args below meth c ls E hw hl
  have hx := en_x E
  have hb := en_b E
  generalize hQ : MQ _ _ _ _ _ _ _ = Q
  have kr : Q = MQ below (QI G s.heap.size r V) args s 0 0 (gA G s.heap.size) := hQ.symm
  have hl : lv_has ls 4 [(0, .ref (G.2.2 22)), (1, .int x1)] := hl
  obtain ⟨H, eH⟩ : ∃ H, H = s.heap := ⟨_, rfl⟩
  obtain ⟨locs, elocs⟩ : ∃ z : List Loc, z = [] := ⟨_, rfl⟩
  have hw : HW G s.heap V H locs := by rw [eH, elocs]; exact hw
  show W p l e _ s m args below meth c s.heap [] 0 0 Q (F0 m 0 ls [])
  rw [← eH, ← elocs]
  unfold fX10_sumOf at h
  refine lv_iconst (v := (0 : Int32)) hx hb dX10_sumOf_0 (by decide) ?_
  refine lv_istore_n (lv' := [(2, .int (0 : Int32)), (0, .ref (G.2.2 22)), (1, .int x1)]) hx hb dX10_sumOf_1 rfl hl (by decide) rfl (fun ls hl => ?_)
  refine lv_iconst (v := (0 : Int32)) hx hb dX10_sumOf_2 (by decide) ?_
  refine lv_istore_n (lv' := [(3, .int (0 : Int32)), (2, .int (0 : Int32)), (0, .ref (G.2.2 22)), (1, .int x1)]) hx hb dX10_sumOf_3 rfl hl (by decide) rfl (fun ls hl => ?_)
  obtain ⟨x9, h8, h⟩ := ob_R_some h
  have h := Option.some.inj h
  subst h
  exact wX10_sumOf_L4 E (fun q e => by subst e; exact kr) FV (x1, (0 : Int32), (0 : Int32)) h8 H locs ls hw (lv_sub hl [2, 3, 1, 0] rfl)
/-! ===== AllSawItModel.awayOnes()I ===== -/
theorem dX10_awayOnes_0 : decode cX10_awayOnes 0 = .ok (.iconst 0, 1) := by decide +kernel
theorem dX10_awayOnes_1 : decode cX10_awayOnes 1 = .ok (.istore_n 1, 1) := by decide +kernel
theorem dX10_awayOnes_2 : decode cX10_awayOnes 2 = .ok (.iconst 0, 1) := by decide +kernel
theorem dX10_awayOnes_3 : decode cX10_awayOnes 3 = .ok (.istore_n 2, 1) := by decide +kernel
theorem dX10_awayOnes_4 : decode cX10_awayOnes 4 = .ok (.iload_n 2, 1) := by decide +kernel
theorem dX10_awayOnes_5 : decode cX10_awayOnes 5 = .ok (.aload_n 0, 1) := by decide +kernel
theorem dX10_awayOnes_6 : decode cX10_awayOnes 6 = .ok (.invokevirtual 62, 3) := by decide +kernel
theorem dX10_awayOnes_9 : decode cX10_awayOnes 9 = .ok (.if_icmp .ge 21, 3) := by decide +kernel
theorem dX10_awayOnes_12 : decode cX10_awayOnes 12 = .ok (.iload_n 1, 1) := by decide +kernel
theorem dX10_awayOnes_13 : decode cX10_awayOnes 13 = .ok (.aload_n 0, 1) := by decide +kernel
theorem dX10_awayOnes_14 : decode cX10_awayOnes 14 = .ok (.iload_n 2, 1) := by decide +kernel
theorem dX10_awayOnes_15 : decode cX10_awayOnes 15 = .ok (.bipush 7, 2) := by decide +kernel
theorem dX10_awayOnes_17 : decode cX10_awayOnes 17 = .ok (.invokevirtual 236, 3) := by decide +kernel
theorem dX10_awayOnes_20 : decode cX10_awayOnes 20 = .ok (.iload_n 2, 1) := by decide +kernel
theorem dX10_awayOnes_21 : decode cX10_awayOnes 21 = .ok (.ishl, 1) := by decide +kernel
theorem dX10_awayOnes_22 : decode cX10_awayOnes 22 = .ok (.ior, 1) := by decide +kernel
theorem dX10_awayOnes_23 : decode cX10_awayOnes 23 = .ok (.istore_n 1, 1) := by decide +kernel
theorem dX10_awayOnes_24 : decode cX10_awayOnes 24 = .ok (.iinc 2 1, 3) := by decide +kernel
theorem dX10_awayOnes_27 : decode cX10_awayOnes 27 = .ok (.goto (-23), 3) := by decide +kernel
theorem dX10_awayOnes_30 : decode cX10_awayOnes 30 = .ok (.iload_n 1, 1) := by decide +kernel
theorem dX10_awayOnes_31 : decode cX10_awayOnes 31 = .ok (.ireturn, 1) := by decide +kernel
noncomputable def fX10_awayOnes_L4 (V : VT) (u1 : Int32) (u2 : Int32) : Option ((Int32 × Int32) ⊕ Int32) := ob_R (fX10_houses V ) fun y2 => if y2 ≤ u2 then (some (.inr (u1))) else (ob_R (fX10_of V u2 (7 : Int32)) fun y4 => lt_ (u1 ||| (y4 <<< (u2 &&& 31))) fun y5 => lt_ (u2 + (1 : Int32)) fun y6 => some (.inl (y5, y6)))
noncomputable def iX10_awayOnes_L4 (V : VT) : (Int32 × Int32) → Option ((Int32 × Int32) ⊕ Int32) := fun q => fX10_awayOnes_L4 V (q.1) (q.2)
noncomputable def fX10_awayOnes (V : VT) : Option Int32 := ob_R (it_ (iX10_awayOnes_L4 V) FV ((0 : Int32), (0 : Int32))) fun x9 => some x9
set_option maxHeartbeats 4000000 in
set_option maxRecDepth 100000 in
theorem wX10_awayOnes_L4 {p : Program} {l : Launch} {e : Env} {s : State} {m : MethodId} {args : Array Value} {below : List Frame} {meth : Method} {c : Code} {G : GT} {B : BGt} {Q : State → Prop} (E : En p s m args c meth cX10_awayOnes 3 RX10 (some .int) G B) {V : VT} {x : Int32} (kr : ∀ q : Int32, x = q → Q = MQ below (QI G s.heap.size q V) args s 0 0 (gA G s.heap.size)) : ∀ (n : Nat) (q : (Int32 × Int32)), it_ (iX10_awayOnes_L4 V) n q = some x → ∀ (H : Heap) (locs : List Loc) (ls : Array Slot), HW G s.heap V H locs → lv_has ls 3 [(0, .ref (G.2.2 22)), (1, .int (q.1)), (2, .int (q.2))] → W p l e (rmD 4) s m args below meth c H locs 0 0 Q (F0 m 4 ls []) := by
  have hx := en_x E
  have hb := en_b E
  have hB := en_B E
  refine it_W (fun q : (Int32 × Int32) => ∀ (H : Heap) (locs : List Loc) (ls : Array Slot), HW G s.heap V H locs → lv_has ls 3 [(0, .ref (G.2.2 22)), (1, .int (q.1)), (2, .int (q.2))] → W p l e (rmD 4) s m args below meth c H locs 0 0 Q (F0 m 4 ls [])) x ?_
  intro q r h kc kx
  obtain ⟨u1, u2⟩ := q
  intro H locs ls hw hl
  have h : fX10_awayOnes_L4 V u1 u2 = some r := h
  have hw : HW G s.heap V H locs := hw
  have hl : lv_has ls 3 [(0, .ref (G.2.2 22)), (1, .int u1), (2, .int u2)] := hl
  have kr : ∀ q : Int32, r = .inr (q) → Q = MQ below (QI G s.heap.size q V) args s 0 0 (gA G s.heap.size) := fun q e => kr q (kx _ e).symm
  unfold fX10_awayOnes_L4 at h
  refine lv_iload_n hx hb dX10_awayOnes_4 rfl (lv_at hl 2 rfl) ?_
  refine lv_aload_n hx hb dX10_awayOnes_5 rfl (lv_at hl 0 rfl) ?_
  obtain ⟨y2, h1, h⟩ := ob_R_some h
  refine c_VI E hw (kX10_houses (l := l) (G := G) hB  h1) yy_X10_houses lm_RX10_62 rfl (by decide) rfl rfl hl.1 (by decide) (by decide) rfl (Nat.le_of_ble_eq_true rfl) dX10_awayOnes_6 (fun H locs hw => ?_)
  refine lv_icmp_ge (tgt := 30) hx hb dX10_awayOnes_9 (by decide) (fun c7 => ?_) (fun c7 => ?_)
  · rw [if_pos c7] at h
    refine lv_iload_n hx hb dX10_awayOnes_30 rfl (lv_at hl 1 rfl) ?_
    rw [kr u1 (Option.some.inj h).symm]
    exact r_ri E hw dX10_awayOnes_31
  · rw [if_neg c7] at h
    refine lv_iload_n hx hb dX10_awayOnes_12 rfl (lv_at hl 1 rfl) ?_
    refine lv_aload_n hx hb dX10_awayOnes_13 rfl (lv_at hl 0 rfl) ?_
    refine lv_iload_n hx hb dX10_awayOnes_14 rfl (lv_at hl 2 rfl) ?_
    refine lv_bipush (v := (7 : Int32)) hx hb dX10_awayOnes_15 (by decide) ?_
    obtain ⟨y4, h3, h⟩ := ob_R_some h
    refine c_VI E hw (kX10_of (l := l) (G := G) hB  h3) yy_X10_of lm_RX10_236 rfl (by decide) rfl rfl hl.1 (by decide) (by decide) rfl (Nat.le_of_ble_eq_true rfl) dX10_awayOnes_17 (fun H locs hw => ?_)
    refine lv_iload_n hx hb dX10_awayOnes_20 rfl (lv_at hl 2 rfl) ?_
    refine lv_ishl hx hb dX10_awayOnes_21 ?_
    refine lv_ior hx hb dX10_awayOnes_22 ?_
    obtain ⟨y5, ey5, h⟩ := lt_some h
    refine lv_eqi ey5 ?_
    refine lv_istore_n (lv' := [(1, .int y5), (0, .ref (G.2.2 22)), (2, .int u2)]) hx hb dX10_awayOnes_23 rfl hl (by decide) rfl (fun ls hl => ?_)
    obtain ⟨y6, ey6, h⟩ := lt_some h
    refine lv_iinc (v := y6) (lv' := [(2, .int y6), (1, .int y5), (0, .ref (G.2.2 22))]) hx hb dX10_awayOnes_24 hl (k := 2) rfl (by rw [ey6]; rfl) (by decide) rfl (fun ls hl => ?_)
    refine lv_goto (tgt := 4) hx hb dX10_awayOnes_27 (by decide) ?_
    exact kc (y5, y6) (Option.some.inj h).symm H locs ls hw (lv_sub hl [2, 1, 0] rfl)
set_option maxHeartbeats 4000000 in
set_option maxRecDepth 100000 in
theorem kX10_awayOnes {l : Launch} {G : GT} {B : BGt} (hB : BGok B) {V : VT} {r : Int32} (h : fX10_awayOnes V = some r) : CI l G B yX10_awayOnes (.code yX10_awayOnes cX10_awayOnes 3 (some .int)) 4 [.ref (G.2.2 22)] V r V := by
  intro sz
  refine met_of (Qs := fun sz => QI G sz r V) hB (by decide) (Nat.le_of_ble_eq_true rfl) ?_ sz
  intro p e s m args below meth c ls E hw hl
  have hx := en_x E
  have hb := en_b E
  generalize hQ : MQ _ _ _ _ _ _ _ = Q
  have kr : Q = MQ below (QI G s.heap.size r V) args s 0 0 (gA G s.heap.size) := hQ.symm
  have hl : lv_has ls 3 [(0, .ref (G.2.2 22))] := hl
  obtain ⟨H, eH⟩ : ∃ H, H = s.heap := ⟨_, rfl⟩
  obtain ⟨locs, elocs⟩ : ∃ z : List Loc, z = [] := ⟨_, rfl⟩
  have hw : HW G s.heap V H locs := by rw [eH, elocs]; exact hw
  show W p l e _ s m args below meth c s.heap [] 0 0 Q (F0 m 0 ls [])
  rw [← eH, ← elocs]
  unfold fX10_awayOnes at h
  refine lv_iconst (v := (0 : Int32)) hx hb dX10_awayOnes_0 (by decide) ?_
  refine lv_istore_n (lv' := [(1, .int (0 : Int32)), (0, .ref (G.2.2 22))]) hx hb dX10_awayOnes_1 rfl hl (by decide) rfl (fun ls hl => ?_)
  refine lv_iconst (v := (0 : Int32)) hx hb dX10_awayOnes_2 (by decide) ?_
  refine lv_istore_n (lv' := [(2, .int (0 : Int32)), (1, .int (0 : Int32)), (0, .ref (G.2.2 22))]) hx hb dX10_awayOnes_3 rfl hl (by decide) rfl (fun ls hl => ?_)
  obtain ⟨x9, h8, h⟩ := ob_R_some h
  have h := Option.some.inj h
  subst h
  exact wX10_awayOnes_L4 E (fun q e => by subst e; exact kr) FV ((0 : Int32), (0 : Int32)) h8 H locs ls hw (lv_sub hl [2, 1, 0] rfl)
/-! ===== AllSawItModel.count(I)I ===== -/
theorem dX10_count_0 : decode cX10_count 0 = .ok (.aload_n 0, 1) := by decide +kernel
theorem dX10_count_1 : decode cX10_count 1 = .ok (.iconst 0, 1) := by decide +kernel
theorem dX10_count_2 : decode cX10_count 2 = .ok (.putfield 3, 3) := by decide +kernel
theorem dX10_count_5 : decode cX10_count 5 = .ok (.iload_n 1, 1) := by decide +kernel
theorem dX10_count_6 : decode cX10_count 6 = .ok (.tableswitch 116 3 12 #[54, 116, 116, 116, 77, 82, 89, 95, 103, 111], 54) := by decide +kernel
theorem dX10_count_60 : decode cX10_count 60 = .ok (.aload_n 0, 1) := by decide +kernel
theorem dX10_count_61 : decode cX10_count 61 = .ok (.getfield 13, 3) := by decide +kernel
theorem dX10_count_64 : decode cX10_count 64 = .ok (.iconst 3, 1) := by decide +kernel
theorem dX10_count_65 : decode cX10_count 65 = .ok (.iaload, 1) := by decide +kernel
theorem dX10_count_66 : decode cX10_count 66 = .ok (.iconst 1, 1) := by decide +kernel
theorem dX10_count_67 : decode cX10_count 67 = .ok (.if_icmp .ne 14, 3) := by decide +kernel
theorem dX10_count_70 : decode cX10_count 70 = .ok (.aload_n 0, 1) := by decide +kernel
theorem dX10_count_71 : decode cX10_count 71 = .ok (.getfield 13, 3) := by decide +kernel
theorem dX10_count_74 : decode cX10_count 74 = .ok (.sipush 314, 3) := by decide +kernel
theorem dX10_count_77 : decode cX10_count 77 = .ok (.iaload, 1) := by decide +kernel
theorem dX10_count_78 : decode cX10_count 78 = .ok (.goto 4, 3) := by decide +kernel
theorem dX10_count_81 : decode cX10_count 81 = .ok (.iconst (-1), 1) := by decide +kernel
theorem dX10_count_82 : decode cX10_count 82 = .ok (.ireturn, 1) := by decide +kernel
theorem dX10_count_83 : decode cX10_count 83 = .ok (.aload_n 0, 1) := by decide +kernel
theorem dX10_count_84 : decode cX10_count 84 = .ok (.invokevirtual 428, 3) := by decide +kernel
theorem dX10_count_87 : decode cX10_count 87 = .ok (.ireturn, 1) := by decide +kernel
theorem dX10_count_88 : decode cX10_count 88 = .ok (.aload_n 0, 1) := by decide +kernel
theorem dX10_count_89 : decode cX10_count 89 = .ok (.bipush 6, 2) := by decide +kernel
theorem dX10_count_91 : decode cX10_count 91 = .ok (.invokevirtual 431, 3) := by decide +kernel
theorem dX10_count_94 : decode cX10_count 94 = .ok (.ireturn, 1) := by decide +kernel
theorem dX10_count_95 : decode cX10_count 95 = .ok (.aload_n 0, 1) := by decide +kernel
theorem dX10_count_96 : decode cX10_count 96 = .ok (.iconst 5, 1) := by decide +kernel
theorem dX10_count_97 : decode cX10_count 97 = .ok (.invokevirtual 431, 3) := by decide +kernel
theorem dX10_count_100 : decode cX10_count 100 = .ok (.ireturn, 1) := by decide +kernel
theorem dX10_count_101 : decode cX10_count 101 = .ok (.aload_n 0, 1) := by decide +kernel
theorem dX10_count_102 : decode cX10_count 102 = .ok (.getfield 13, 3) := by decide +kernel
theorem dX10_count_105 : decode cX10_count 105 = .ok (.bipush 7, 2) := by decide +kernel
theorem dX10_count_107 : decode cX10_count 107 = .ok (.iaload, 1) := by decide +kernel
theorem dX10_count_108 : decode cX10_count 108 = .ok (.ireturn, 1) := by decide +kernel
theorem dX10_count_109 : decode cX10_count 109 = .ok (.aload_n 0, 1) := by decide +kernel
theorem dX10_count_110 : decode cX10_count 110 = .ok (.getfield 13, 3) := by decide +kernel
theorem dX10_count_113 : decode cX10_count 113 = .ok (.bipush 8, 2) := by decide +kernel
theorem dX10_count_115 : decode cX10_count 115 = .ok (.iaload, 1) := by decide +kernel
theorem dX10_count_116 : decode cX10_count 116 = .ok (.ireturn, 1) := by decide +kernel
theorem dX10_count_117 : decode cX10_count 117 = .ok (.aload_n 0, 1) := by decide +kernel
theorem dX10_count_118 : decode cX10_count 118 = .ok (.getfield 59, 3) := by decide +kernel
theorem dX10_count_121 : decode cX10_count 121 = .ok (.ireturn, 1) := by decide +kernel
theorem dX10_count_122 : decode cX10_count 122 = .ok (.iload_n 1, 1) := by decide +kernel
theorem dX10_count_123 : decode cX10_count 123 = .ok (.iconst 0, 1) := by decide +kernel
theorem dX10_count_124 : decode cX10_count 124 = .ok (.bipush 6, 2) := by decide +kernel
theorem dX10_count_126 : decode cX10_count 126 = .ok (.invokestatic 76, 3) := by decide +kernel
theorem dX10_count_129 : decode cX10_count 129 = .ok (.ifCond .eq 12, 3) := by decide +kernel
theorem dX10_count_132 : decode cX10_count 132 = .ok (.aload_n 0, 1) := by decide +kernel
theorem dX10_count_133 : decode cX10_count 133 = .ok (.getfield 13, 3) := by decide +kernel
theorem dX10_count_136 : decode cX10_count 136 = .ok (.iload_n 1, 1) := by decide +kernel
theorem dX10_count_137 : decode cX10_count 137 = .ok (.iaload, 1) := by decide +kernel
theorem dX10_count_138 : decode cX10_count 138 = .ok (.goto 4, 3) := by decide +kernel
theorem dX10_count_141 : decode cX10_count 141 = .ok (.iconst (-1), 1) := by decide +kernel
theorem dX10_count_142 : decode cX10_count 142 = .ok (.ireturn, 1) := by decide +kernel
noncomputable def fX10_count (V : VT) (x1 : Int32) : Option (Int32 × VT) := lt_ (va_up V 22 (upd (V 22) 0 (0 : Int32))) fun V1 => if x1 = (3 : Int32) then (rd_ (3 : Int32) 1988 (if (V1 76 (3 : Int32).toNatClampNeg) = (1 : Int32) then (rd_ (314 : Int32) 1988 (some ((V1 76 (314 : Int32).toNatClampNeg), V1))) else (some ((-1 : Int32), V1)))) else if x1 = (7 : Int32) then (ob_R (fX10_awayOnes V1 ) fun y7 => some (y7, V1)) else if x1 = (8 : Int32) then (ob_R (fX10_sumOf V1 (6 : Int32)) fun y10 => some (y10, V1)) else if x1 = (9 : Int32) then (ob_R (fX10_sumOf V1 (5 : Int32)) fun y13 => some (y13, V1)) else if x1 = (10 : Int32) then (rd_ (7 : Int32) 1988 (some ((V1 76 (7 : Int32).toNatClampNeg), V1))) else if x1 = (11 : Int32) then (rd_ (8 : Int32) 1988 (some ((V1 76 (8 : Int32).toNatClampNeg), V1))) else if x1 = (12 : Int32) then (some ((V1 22 7), V1)) else (ob_R (fX10_in V1 x1 (0 : Int32) (6 : Int32)) fun y21 => if y21 = 0 then (some ((-1 : Int32), V1)) else (rd_ x1 1988 (some ((V1 76 x1.toNatClampNeg), V1))))
set_option maxHeartbeats 4000000 in
set_option maxRecDepth 100000 in
theorem kX10_count {l : Launch} {G : GT} {B : BGt} (hB : BGok B) {V : VT} {x1 : Int32} {r : (Int32 × VT)} (h : fX10_count V x1 = some r) : CI l G B yX10_count (.code yX10_count cX10_count 2 (some .int)) 5 [.ref (G.2.2 22), .int x1] V r.1 r.2 := by
  intro sz
  refine met_of (Qs := fun sz => QI G sz (r.1) (r.2)) hB (by decide) (Nat.le_of_ble_eq_true rfl) ?_ sz
  intro p e s m args below meth c ls E hw hl
  have hx := en_x E
  have hb := en_b E
  generalize hQ : MQ _ _ _ _ _ _ _ = Q
  have kr : Q = MQ below (QI G s.heap.size r.1 r.2) args s 0 0 (gA G s.heap.size) := hQ.symm
  have hl : lv_has ls 2 [(0, .ref (G.2.2 22)), (1, .int x1)] := hl
  obtain ⟨H, eH⟩ : ∃ H, H = s.heap := ⟨_, rfl⟩
  obtain ⟨locs, elocs⟩ : ∃ z : List Loc, z = [] := ⟨_, rfl⟩
  have hw : HW G s.heap V H locs := by rw [eH, elocs]; exact hw
  show W p l e _ s m args below meth c s.heap [] 0 0 Q (F0 m 0 ls [])
  rw [← eH, ← elocs]
  unfold fX10_count at h
  refine lv_aload_n hx hb dX10_count_0 rfl (lv_at hl 0 rfl) ?_
  refine lv_iconst (v := (0 : Int32)) hx hb dX10_count_1 (by decide) ?_
  obtain ⟨V1, eV1, h⟩ := lt_some h
  refine r_pi E hw 22 0 (N := 29) (C := RX10) (T := TX10) (ty0 := tyX10) (ty := .int) (by decide) rfl rfl (by decide) rfl iw_10 rfl tyX10_ok nmX10 rfl rfl (vp_nar_int _) rfl lf_RX10_3 eV1 dX10_count_2 (fun H locs hw => ?_)
  refine lv_iload_n hx hb dX10_count_5 rfl (lv_at hl 1 rfl) ?_
  by_cases c5 : x1 = (3 : Int32)
  · rw [if_pos c5] at h
    refine lv_tableIn (tgt := 60) hx hb dX10_count_6 (by rw [c5]; decide) (by rw [c5]; decide) (by rw [c5]; rfl) (by decide) ?_
    refine lv_aload_n hx hb dX10_count_60 rfl (lv_at hl 0 rfl) ?_
    refine r_gr E hw 22 1 76 (N := 29) (C := RX10) (T := TX10) (by decide) rfl rfl (by decide) rfl iw_10 rfl lf_RX10_13 dX10_count_61 ?_
    refine lv_iconst (v := (3 : Int32)) hx hb dX10_count_64 (by decide) ?_
    obtain ⟨b2, h⟩ := rd_some h
    refine r_ia E hw 76 1988 (by decide) (by decide) (by decide) rfl rfl b2 dX10_count_65 ?_
    refine lv_iconst (v := (1 : Int32)) hx hb dX10_count_66 (by decide) ?_
    refine lv_icmp_ne (tgt := 81) hx hb dX10_count_67 (by decide) (fun c4 => ?_) (fun c4 => ?_)
    · rw [if_neg c4] at h
      refine lv_iconst (v := (-1 : Int32)) hx hb dX10_count_81 (by decide) ?_
      have h := Option.some.inj h
      subst h
      rw [kr]
      exact r_ri E hw dX10_count_82
    · rw [if_pos c4] at h
      refine lv_aload_n hx hb dX10_count_70 rfl (lv_at hl 0 rfl) ?_
      refine r_gr E hw 22 1 76 (N := 29) (C := RX10) (T := TX10) (by decide) rfl rfl (by decide) rfl iw_10 rfl lf_RX10_13 dX10_count_71 ?_
      refine lv_sipush (v := (314 : Int32)) hx hb dX10_count_74 (by decide) ?_
      obtain ⟨b3, h⟩ := rd_some h
      refine r_ia E hw 76 1988 (by decide) (by decide) (by decide) rfl rfl b3 dX10_count_77 ?_
      refine lv_goto (tgt := 82) hx hb dX10_count_78 (by decide) ?_
      have h := Option.some.inj h
      subst h
      rw [kr]
      exact r_ri E hw dX10_count_82
  · rw [if_neg c5] at h
    by_cases c8 : x1 = (7 : Int32)
    · rw [if_pos c8] at h
      refine lv_tableIn (tgt := 83) hx hb dX10_count_6 (by rw [c8]; decide) (by rw [c8]; decide) (by rw [c8]; rfl) (by decide) ?_
      refine lv_aload_n hx hb dX10_count_83 rfl (lv_at hl 0 rfl) ?_
      obtain ⟨y7, h6, h⟩ := ob_R_some h
      refine c_VI E hw (kX10_awayOnes (l := l) (G := G) hB  h6) yy_X10_awayOnes lm_RX10_428 rfl (by decide) rfl rfl hl.1 (by decide) (by decide) rfl (Nat.le_of_ble_eq_true rfl) dX10_count_84 (fun H locs hw => ?_)
      have h := Option.some.inj h
      subst h
      rw [kr]
      exact r_ri E hw dX10_count_87
    · rw [if_neg c8] at h
      by_cases c11 : x1 = (8 : Int32)
      · rw [if_pos c11] at h
        refine lv_tableIn (tgt := 88) hx hb dX10_count_6 (by rw [c11]; decide) (by rw [c11]; decide) (by rw [c11]; rfl) (by decide) ?_
        refine lv_aload_n hx hb dX10_count_88 rfl (lv_at hl 0 rfl) ?_
        refine lv_bipush (v := (6 : Int32)) hx hb dX10_count_89 (by decide) ?_
        obtain ⟨y10, h9, h⟩ := ob_R_some h
        refine c_VI E hw (kX10_sumOf (l := l) (G := G) hB  h9) yy_X10_sumOf lm_RX10_431 rfl (by decide) rfl rfl hl.1 (by decide) (by decide) rfl (Nat.le_of_ble_eq_true rfl) dX10_count_91 (fun H locs hw => ?_)
        have h := Option.some.inj h
        subst h
        rw [kr]
        exact r_ri E hw dX10_count_94
      · rw [if_neg c11] at h
        by_cases c14 : x1 = (9 : Int32)
        · rw [if_pos c14] at h
          refine lv_tableIn (tgt := 95) hx hb dX10_count_6 (by rw [c14]; decide) (by rw [c14]; decide) (by rw [c14]; rfl) (by decide) ?_
          refine lv_aload_n hx hb dX10_count_95 rfl (lv_at hl 0 rfl) ?_
          refine lv_iconst (v := (5 : Int32)) hx hb dX10_count_96 (by decide) ?_
          obtain ⟨y13, h12, h⟩ := ob_R_some h
          refine c_VI E hw (kX10_sumOf (l := l) (G := G) hB  h12) yy_X10_sumOf lm_RX10_431 rfl (by decide) rfl rfl hl.1 (by decide) (by decide) rfl (Nat.le_of_ble_eq_true rfl) dX10_count_97 (fun H locs hw => ?_)
          have h := Option.some.inj h
          subst h
          rw [kr]
          exact r_ri E hw dX10_count_100
        · rw [if_neg c14] at h
          by_cases c16 : x1 = (10 : Int32)
          · rw [if_pos c16] at h
            refine lv_tableIn (tgt := 101) hx hb dX10_count_6 (by rw [c16]; decide) (by rw [c16]; decide) (by rw [c16]; rfl) (by decide) ?_
            refine lv_aload_n hx hb dX10_count_101 rfl (lv_at hl 0 rfl) ?_
            refine r_gr E hw 22 1 76 (N := 29) (C := RX10) (T := TX10) (by decide) rfl rfl (by decide) rfl iw_10 rfl lf_RX10_13 dX10_count_102 ?_
            refine lv_bipush (v := (7 : Int32)) hx hb dX10_count_105 (by decide) ?_
            obtain ⟨b15, h⟩ := rd_some h
            refine r_ia E hw 76 1988 (by decide) (by decide) (by decide) rfl rfl b15 dX10_count_107 ?_
            have h := Option.some.inj h
            subst h
            rw [kr]
            exact r_ri E hw dX10_count_108
          · rw [if_neg c16] at h
            by_cases c18 : x1 = (11 : Int32)
            · rw [if_pos c18] at h
              refine lv_tableIn (tgt := 109) hx hb dX10_count_6 (by rw [c18]; decide) (by rw [c18]; decide) (by rw [c18]; rfl) (by decide) ?_
              refine lv_aload_n hx hb dX10_count_109 rfl (lv_at hl 0 rfl) ?_
              refine r_gr E hw 22 1 76 (N := 29) (C := RX10) (T := TX10) (by decide) rfl rfl (by decide) rfl iw_10 rfl lf_RX10_13 dX10_count_110 ?_
              refine lv_bipush (v := (8 : Int32)) hx hb dX10_count_113 (by decide) ?_
              obtain ⟨b17, h⟩ := rd_some h
              refine r_ia E hw 76 1988 (by decide) (by decide) (by decide) rfl rfl b17 dX10_count_115 ?_
              have h := Option.some.inj h
              subst h
              rw [kr]
              exact r_ri E hw dX10_count_116
            · rw [if_neg c18] at h
              by_cases c19 : x1 = (12 : Int32)
              · rw [if_pos c19] at h
                refine lv_tableIn (tgt := 117) hx hb dX10_count_6 (by rw [c19]; decide) (by rw [c19]; decide) (by rw [c19]; rfl) (by decide) ?_
                refine lv_aload_n hx hb dX10_count_117 rfl (lv_at hl 0 rfl) ?_
                refine r_gi E hw 22 7 (N := 29) (C := RX10) (T := TX10) (by decide) rfl rfl (by decide) rfl iw_10 rfl lf_RX10_59 dX10_count_118 ?_
                have h := Option.some.inj h
                subst h
                rw [kr]
                exact r_ri E hw dX10_count_121
              · rw [if_neg c19] at h
                by_cases c24 : x1 = (4 : Int32)
                · refine lv_tableIn (tgt := 122) hx hb dX10_count_6 (by rw [c24]; decide) (by rw [c24]; decide) (by rw [c24]; rfl) (by decide) ?_
                  refine lv_iload_n hx hb dX10_count_122 rfl (lv_at hl 1 rfl) ?_
                  refine lv_iconst (v := (0 : Int32)) hx hb dX10_count_123 (by decide) ?_
                  refine lv_bipush (v := (6 : Int32)) hx hb dX10_count_124 (by decide) ?_
                  obtain ⟨y21, h20, h⟩ := ob_R_some h
                  refine c_SI E hw (kX10_in (l := l) (G := G) hB  h20) yy_X10_in lm_RX10_76 rfl hl.1 (by decide) (by decide) rfl (Nat.le_of_ble_eq_true rfl) dX10_count_126 (fun H locs hw => ?_)
                  refine lv_if_eq (tgt := 141) hx hb dX10_count_129 (by decide) (fun c23 => ?_) (fun c23 => ?_)
                  · rw [if_pos c23] at h
                    refine lv_iconst (v := (-1 : Int32)) hx hb dX10_count_141 (by decide) ?_
                    have h := Option.some.inj h
                    subst h
                    rw [kr]
                    exact r_ri E hw dX10_count_142
                  · rw [if_neg c23] at h
                    refine lv_aload_n hx hb dX10_count_132 rfl (lv_at hl 0 rfl) ?_
                    refine r_gr E hw 22 1 76 (N := 29) (C := RX10) (T := TX10) (by decide) rfl rfl (by decide) rfl iw_10 rfl lf_RX10_13 dX10_count_133 ?_
                    refine lv_iload_n hx hb dX10_count_136 rfl (lv_at hl 1 rfl) ?_
                    obtain ⟨b22, h⟩ := rd_some h
                    refine r_ia E hw 76 1988 (by decide) (by decide) (by decide) rfl rfl b22 dX10_count_137 ?_
                    refine lv_goto (tgt := 142) hx hb dX10_count_138 (by decide) ?_
                    have h := Option.some.inj h
                    subst h
                    rw [kr]
                    exact r_ri E hw dX10_count_142
                · skip
                  by_cases c25 : x1 = (5 : Int32)
                  · refine lv_tableIn (tgt := 122) hx hb dX10_count_6 (by rw [c25]; decide) (by rw [c25]; decide) (by rw [c25]; rfl) (by decide) ?_
                    refine lv_iload_n hx hb dX10_count_122 rfl (lv_at hl 1 rfl) ?_
                    refine lv_iconst (v := (0 : Int32)) hx hb dX10_count_123 (by decide) ?_
                    refine lv_bipush (v := (6 : Int32)) hx hb dX10_count_124 (by decide) ?_
                    obtain ⟨y21, h20, h⟩ := ob_R_some h
                    refine c_SI E hw (kX10_in (l := l) (G := G) hB  h20) yy_X10_in lm_RX10_76 rfl hl.1 (by decide) (by decide) rfl (Nat.le_of_ble_eq_true rfl) dX10_count_126 (fun H locs hw => ?_)
                    refine lv_if_eq (tgt := 141) hx hb dX10_count_129 (by decide) (fun c23 => ?_) (fun c23 => ?_)
                    · rw [if_pos c23] at h
                      refine lv_iconst (v := (-1 : Int32)) hx hb dX10_count_141 (by decide) ?_
                      have h := Option.some.inj h
                      subst h
                      rw [kr]
                      exact r_ri E hw dX10_count_142
                    · rw [if_neg c23] at h
                      refine lv_aload_n hx hb dX10_count_132 rfl (lv_at hl 0 rfl) ?_
                      refine r_gr E hw 22 1 76 (N := 29) (C := RX10) (T := TX10) (by decide) rfl rfl (by decide) rfl iw_10 rfl lf_RX10_13 dX10_count_133 ?_
                      refine lv_iload_n hx hb dX10_count_136 rfl (lv_at hl 1 rfl) ?_
                      obtain ⟨b22, h⟩ := rd_some h
                      refine r_ia E hw 76 1988 (by decide) (by decide) (by decide) rfl rfl b22 dX10_count_137 ?_
                      refine lv_goto (tgt := 142) hx hb dX10_count_138 (by decide) ?_
                      have h := Option.some.inj h
                      subst h
                      rw [kr]
                      exact r_ri E hw dX10_count_142
                  · skip
                    by_cases c26 : x1 = (6 : Int32)
                    · refine lv_tableIn (tgt := 122) hx hb dX10_count_6 (by rw [c26]; decide) (by rw [c26]; decide) (by rw [c26]; rfl) (by decide) ?_
                      refine lv_iload_n hx hb dX10_count_122 rfl (lv_at hl 1 rfl) ?_
                      refine lv_iconst (v := (0 : Int32)) hx hb dX10_count_123 (by decide) ?_
                      refine lv_bipush (v := (6 : Int32)) hx hb dX10_count_124 (by decide) ?_
                      obtain ⟨y21, h20, h⟩ := ob_R_some h
                      refine c_SI E hw (kX10_in (l := l) (G := G) hB  h20) yy_X10_in lm_RX10_76 rfl hl.1 (by decide) (by decide) rfl (Nat.le_of_ble_eq_true rfl) dX10_count_126 (fun H locs hw => ?_)
                      refine lv_if_eq (tgt := 141) hx hb dX10_count_129 (by decide) (fun c23 => ?_) (fun c23 => ?_)
                      · rw [if_pos c23] at h
                        refine lv_iconst (v := (-1 : Int32)) hx hb dX10_count_141 (by decide) ?_
                        have h := Option.some.inj h
                        subst h
                        rw [kr]
                        exact r_ri E hw dX10_count_142
                      · rw [if_neg c23] at h
                        refine lv_aload_n hx hb dX10_count_132 rfl (lv_at hl 0 rfl) ?_
                        refine r_gr E hw 22 1 76 (N := 29) (C := RX10) (T := TX10) (by decide) rfl rfl (by decide) rfl iw_10 rfl lf_RX10_13 dX10_count_133 ?_
                        refine lv_iload_n hx hb dX10_count_136 rfl (lv_at hl 1 rfl) ?_
                        obtain ⟨b22, h⟩ := rd_some h
                        refine r_ia E hw 76 1988 (by decide) (by decide) (by decide) rfl rfl b22 dX10_count_137 ?_
                        refine lv_goto (tgt := 142) hx hb dX10_count_138 (by decide) ?_
                        have h := Option.some.inj h
                        subst h
                        rw [kr]
                        exact r_ri E hw dX10_count_142
                    · skip
                      have nc5 := lv_neT (a := 3) c5 (by decide)
                      have nc8 := lv_neT (a := 7) c8 (by decide)
                      have nc11 := lv_neT (a := 8) c11 (by decide)
                      have nc14 := lv_neT (a := 9) c14 (by decide)
                      have nc16 := lv_neT (a := 10) c16 (by decide)
                      have nc18 := lv_neT (a := 11) c18 (by decide)
                      have nc19 := lv_neT (a := 12) c19 (by decide)
                      have nc24 := lv_neT (a := 4) c24 (by decide)
                      have nc25 := lv_neT (a := 5) c25 (by decide)
                      have nc26 := lv_neT (a := 6) c26 (by decide)
                      refine lv_tableOut (tgt := 122) hx hb dX10_count_6 (by omega) (by decide) ?_
                      refine lv_iload_n hx hb dX10_count_122 rfl (lv_at hl 1 rfl) ?_
                      refine lv_iconst (v := (0 : Int32)) hx hb dX10_count_123 (by decide) ?_
                      refine lv_bipush (v := (6 : Int32)) hx hb dX10_count_124 (by decide) ?_
                      obtain ⟨y21, h20, h⟩ := ob_R_some h
                      refine c_SI E hw (kX10_in (l := l) (G := G) hB  h20) yy_X10_in lm_RX10_76 rfl hl.1 (by decide) (by decide) rfl (Nat.le_of_ble_eq_true rfl) dX10_count_126 (fun H locs hw => ?_)
                      refine lv_if_eq (tgt := 141) hx hb dX10_count_129 (by decide) (fun c23 => ?_) (fun c23 => ?_)
                      · rw [if_pos c23] at h
                        refine lv_iconst (v := (-1 : Int32)) hx hb dX10_count_141 (by decide) ?_
                        have h := Option.some.inj h
                        subst h
                        rw [kr]
                        exact r_ri E hw dX10_count_142
                      · rw [if_neg c23] at h
                        refine lv_aload_n hx hb dX10_count_132 rfl (lv_at hl 0 rfl) ?_
                        refine r_gr E hw 22 1 76 (N := 29) (C := RX10) (T := TX10) (by decide) rfl rfl (by decide) rfl iw_10 rfl lf_RX10_13 dX10_count_133 ?_
                        refine lv_iload_n hx hb dX10_count_136 rfl (lv_at hl 1 rfl) ?_
                        obtain ⟨b22, h⟩ := rd_some h
                        refine r_ia E hw 76 1988 (by decide) (by decide) (by decide) rfl rfl b22 dX10_count_137 ?_
                        refine lv_goto (tgt := 142) hx hb dX10_count_138 (by decide) ?_
                        have h := Option.some.inj h
                        subst h
                        rw [kr]
                        exact r_ri E hw dX10_count_142
