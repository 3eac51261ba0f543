/-! ===== AllSawItModel.away(IZ)Z ===== -/
theorem dX10_away_0 : decode cX10_away 0 = .ok (.aload_n 0, 1) := by decide +kernel
theorem dX10_away_1 : decode cX10_away 1 = .ok (.iconst 0, 1) := by decide +kernel
theorem dX10_away_2 : decode cX10_away 2 = .ok (.putfield 3, 3) := by decide +kernel
theorem dX10_away_5 : decode cX10_away 5 = .ok (.aload_n 0, 1) := by decide +kernel
theorem dX10_away_6 : decode cX10_away 6 = .ok (.aload_n 0, 1) := by decide +kernel
theorem dX10_away_7 : decode cX10_away 7 = .ok (.iload_n 1, 1) := by decide +kernel
theorem dX10_away_8 : decode cX10_away 8 = .ok (.invokevirtual 309, 3) := by decide +kernel
theorem dX10_away_11 : decode cX10_away 11 = .ok (.iconst 1, 1) := by decide +kernel
theorem dX10_away_12 : decode cX10_away 12 = .ok (.invokevirtual 233, 3) := by decide +kernel
theorem dX10_away_15 : decode cX10_away 15 = .ok (.ifCond .eq 5, 3) := by decide +kernel
theorem dX10_away_18 : decode cX10_away 18 = .ok (.iconst 0, 1) := by decide +kernel
theorem dX10_away_19 : decode cX10_away 19 = .ok (.ireturn, 1) := by decide +kernel
theorem dX10_away_20 : decode cX10_away 20 = .ok (.aload_n 0, 1) := by decide +kernel
theorem dX10_away_21 : decode cX10_away 21 = .ok (.invokevirtual 389, 3) := by decide +kernel
theorem dX10_away_24 : decode cX10_away 24 = .ok (.aload_n 0, 1) := by decide +kernel
theorem dX10_away_25 : decode cX10_away 25 = .ok (.iload_n 1, 1) := by decide +kernel
theorem dX10_away_26 : decode cX10_away 26 = .ok (.bipush 7, 2) := by decide +kernel
theorem dX10_away_28 : decode cX10_away 28 = .ok (.invokevirtual 236, 3) := by decide +kernel
theorem dX10_away_31 : decode cX10_away 31 = .ok (.iconst 1, 1) := by decide +kernel
theorem dX10_away_32 : decode cX10_away 32 = .ok (.if_icmp .ne 7, 3) := by decide +kernel
theorem dX10_away_35 : decode cX10_away 35 = .ok (.iconst 1, 1) := by decide +kernel
theorem dX10_away_36 : decode cX10_away 36 = .ok (.goto 4, 3) := by decide +kernel
theorem dX10_away_39 : decode cX10_away 39 = .ok (.iconst 0, 1) := by decide +kernel
theorem dX10_away_40 : decode cX10_away 40 = .ok (.istore_n 3, 1) := by decide +kernel
theorem dX10_away_41 : decode cX10_away 41 = .ok (.aload_n 0, 1) := by decide +kernel
theorem dX10_away_42 : decode cX10_away 42 = .ok (.getfield 13, 3) := by decide +kernel
theorem dX10_away_45 : decode cX10_away 45 = .ok (.iload_n 1, 1) := by decide +kernel
theorem dX10_away_46 : decode cX10_away 46 = .ok (.bipush 7, 2) := by decide +kernel
theorem dX10_away_48 : decode cX10_away 48 = .ok (.invokestatic 66, 3) := by decide +kernel
theorem dX10_away_51 : decode cX10_away 51 = .ok (.iload_n 2, 1) := by decide +kernel
theorem dX10_away_52 : decode cX10_away 52 = .ok (.ifCond .eq 7, 3) := by decide +kernel
theorem dX10_away_55 : decode cX10_away 55 = .ok (.iconst 1, 1) := by decide +kernel
theorem dX10_away_56 : decode cX10_away 56 = .ok (.goto 4, 3) := by decide +kernel
theorem dX10_away_59 : decode cX10_away 59 = .ok (.iconst 0, 1) := by decide +kernel
theorem dX10_away_60 : decode cX10_away 60 = .ok (.iastore, 1) := by decide +kernel
theorem dX10_away_61 : decode cX10_away 61 = .ok (.iload_n 3, 1) := by decide +kernel
theorem dX10_away_62 : decode cX10_away 62 = .ok (.iload_n 2, 1) := by decide +kernel
theorem dX10_away_63 : decode cX10_away 63 = .ok (.if_icmp .eq 7, 3) := by decide +kernel
theorem dX10_away_66 : decode cX10_away 66 = .ok (.iconst 1, 1) := by decide +kernel
theorem dX10_away_67 : decode cX10_away 67 = .ok (.goto 4, 3) := by decide +kernel
theorem dX10_away_70 : decode cX10_away 70 = .ok (.iconst 0, 1) := by decide +kernel
theorem dX10_away_71 : decode cX10_away 71 = .ok (.ireturn, 1) := by decide +kernel
noncomputable def fX10_away_j60 (V : VT) (u2 : Int32) (u3 : Int32) (t0 : Int32) (t1 : Int32) : Option (Int32 × VT) := rd_ t1 1988 (lt_ (va_up V 76 (upd (V 76) t1.toNatClampNeg t0)) fun V14 => if u3 = u2 then (zo_ (0 : Int32) (some ((0 : Int32), V14))) else (zo_ (1 : Int32) (some ((1 : Int32), V14))))
noncomputable def fX10_away_j40 (V : VT) (u1 : Int32) (u2 : Int32) (t0 : Int32) : Option (Int32 × VT) := ob_R (fX10_at V u1 (7 : Int32)) fun y12 => if u2 = 0 then (fX10_away_j60 V u2 t0 (0 : Int32) y12) else (fX10_away_j60 V u2 t0 (1 : Int32) y12)
noncomputable def fX10_away (V : VT) (x1 : Int32) (x2 : Int32) : Option (Int32 × VT) := lt_ (va_up V 22 (upd (V 22) 0 (0 : Int32))) fun V1 => ob_R (fX10_noHouse V1 x1) fun y3 => ob_I (fX10_throwsIf V1 y3 (1 : Int32)) fun y5 V6 => if y5 = 0 then (ob_R (fX10_remembers V6 ) fun V8 => ob_R (fX10_of V8 x1 (7 : Int32)) fun y10 => if y10 = (1 : Int32) then (fX10_away_j40 V8 x1 x2 (1 : Int32)) else (fX10_away_j40 V8 x1 x2 (0 : Int32))) else (zo_ (0 : Int32) (some ((0 : Int32), V6)))
set_option maxHeartbeats 4000000 in
set_option maxRecDepth 100000 in
theorem wX10_away_j60 {p : Program} {l : Launch} {e : Env} {s : State} {m : MethodId} {args : Array Value} {below : List Frame} {meth : Method} {c : Code} {G : GT} {B : BGt} {Q : State → Prop} (E : En p s m args c meth cX10_away 4 RX10 (some .boolean) G B) {V : VT} {u2 : Int32} {u3 : Int32} {t0 : Int32} {t1 : Int32} {r : (Int32 × VT)} (h : fX10_away_j60 V u2 u3 t0 t1 = some r) (kr : Q = MQ below (QI G s.heap.size r.1 r.2) args s 0 0 (gA G s.heap.size)) {H : Heap} {locs : List Loc} {ls : Array Slot} (hw : HW G s.heap V H locs) (hl : lv_has ls 4 [(2, .int u2), (3, .int u3)]) : W p l e (rmD 4) s m args below meth c H locs 0 0 Q (F0 m 60 ls [.int t0, .int t1, .ref (G.2.2 76)]) := by
  have hx := en_x E
  have hb := en_b E
  have hB := en_B E
  unfold fX10_away_j60 at h
  obtain ⟨b13, h⟩ := rd_some h
  obtain ⟨V14, eV14, h⟩ := lt_some h
  refine r_is E hw 76 1988 (by decide) (by decide) (by decide) rfl rfl b13 eV14 dX10_away_60 (fun H locs hw => ?_)
  refine lv_iload_n hx hb dX10_away_61 rfl (lv_at hl 1 rfl) ?_
  refine lv_iload_n hx hb dX10_away_62 rfl (lv_at hl 0 rfl) ?_
  refine lv_icmp_eq (tgt := 70) hx hb dX10_away_63 (by decide) (fun c17 => ?_) (fun c17 => ?_)
  · rw [if_pos c17] at h
    refine lv_iconst (v := (0 : Int32)) hx hb dX10_away_70 (by decide) ?_
    obtain ⟨z15, h⟩ := zo_some h
    have h := Option.some.inj h
    subst h
    rw [kr]
    exact r_rz E hw z15 dX10_away_71
  · rw [if_neg c17] at h
    refine lv_iconst (v := (1 : Int32)) hx hb dX10_away_66 (by decide) ?_
    refine lv_goto (tgt := 71) hx hb dX10_away_67 (by decide) ?_
    obtain ⟨z16, h⟩ := zo_some h
    have h := Option.some.inj h
    subst h
    rw [kr]
    exact r_rz E hw z16 dX10_away_71
set_option maxHeartbeats 4000000 in
set_option maxRecDepth 100000 in
theorem wX10_away_j40 {p : Program} {l : Launch} {e : Env} {s : State} {m : MethodId} {args : Array Value} {below : List Frame} {meth : Method} {c : Code} {G : GT} {B : BGt} {Q : State → Prop} (E : En p s m args c meth cX10_away 4 RX10 (some .boolean) G B) {V : VT} {u1 : Int32} {u2 : Int32} {t0 : Int32} {r : (Int32 × VT)} (h : fX10_away_j40 V u1 u2 t0 = some r) (kr : Q = MQ below (QI G s.heap.size r.1 r.2) args s 0 0 (gA G s.heap.size)) {H : Heap} {locs : List Loc} {ls : Array Slot} (hw : HW G s.heap V H locs) (hl : lv_has ls 4 [(0, .ref (G.2.2 22)), (1, .int u1), (2, .int u2)]) : W p l e (rmD 4) s m args below meth c H locs 0 0 Q (F0 m 40 ls [.int t0]) := by
  have hx := en_x E
  have hb := en_b E
  have hB := en_B E
  unfold fX10_away_j40 at h
  refine lv_istore_n (lv' := [(3, .int t0), (0, .ref (G.2.2 22)), (1, .int u1), (2, .int u2)]) hx hb dX10_away_40 rfl hl (by decide) rfl (fun ls hl => ?_)
  refine lv_aload_n hx hb dX10_away_41 rfl (lv_at hl 1 rfl) ?_
  refine r_gr E hw 22 1 76 (N := 29) (C := RX10) (T := TX10) (by decide) rfl rfl (by decide) rfl iw_10 rfl lf_RX10_13 dX10_away_42 ?_
  refine lv_iload_n hx hb dX10_away_45 rfl (lv_at hl 2 rfl) ?_
  refine lv_bipush (v := (7 : Int32)) hx hb dX10_away_46 (by decide) ?_
  obtain ⟨y12, h11, h⟩ := ob_R_some h
  refine c_SI E hw (kX10_at (l := l) (G := G) hB  h11) yy_X10_at lm_RX10_66 rfl hl.1 (by decide) (by decide) rfl (Nat.le_of_ble_eq_true rfl) dX10_away_48 (fun H locs hw => ?_)
  refine lv_iload_n hx hb dX10_away_51 rfl (lv_at hl 3 rfl) ?_
  refine lv_if_eq (tgt := 59) hx hb dX10_away_52 (by decide) (fun c18 => ?_) (fun c18 => ?_)
  · rw [if_pos c18] at h
    refine lv_iconst (v := (0 : Int32)) hx hb dX10_away_59 (by decide) ?_
    exact wX10_away_j60 E h kr hw (lv_sub hl [3, 0] rfl)
  · rw [if_neg c18] at h
    refine lv_iconst (v := (1 : Int32)) hx hb dX10_away_55 (by decide) ?_
    refine lv_goto (tgt := 60) hx hb dX10_away_56 (by decide) ?_
    exact wX10_away_j60 E h kr hw (lv_sub hl [3, 0] rfl)
set_option maxHeartbeats 4000000 in
set_option maxRecDepth 100000 in
theorem kX10_away {l : Launch} {G : GT} {B : BGt} (hB : BGok B) {V : VT} {x1 : Int32} {x2 : Int32} {r : (Int32 × VT)} (h : fX10_away V x1 x2 = some r) : CI l G B yX10_away (.code yX10_away cX10_away 4 (some .boolean)) 4 [.ref (G.2.2 22), .int x1, .int x2] V r.1 r.2 := by
  intro sz
  refine met_of (Qs := fun sz => QI G sz (r.1) (r.2)) hB (by decide) (Nat.le_of_ble_eq_true rfl) ?_ sz
  intro p e s m args below meth c ls E hw hl
  have hx := en_x E
  have hb := en_b E
  generalize hQ : MQ _ _ _ _ _ _ _ = Q
  have kr : Q = MQ below (QI G s.heap.size r.1 r.2) args s 0 0 (gA G s.heap.size) := hQ.symm
  have hl : lv_has ls 4 [(0, .ref (G.2.2 22)), (1, .int x1), (2, .int x2)] := hl
  obtain ⟨H, eH⟩ : ∃ H, H = s.heap := ⟨_, rfl⟩
  obtain ⟨locs, elocs⟩ : ∃ z : List Loc, z = [] := ⟨_, rfl⟩
  have hw : HW G s.heap V H locs := by rw [eH, elocs]; exact hw
  show W p l e _ s m args below meth c s.heap [] 0 0 Q (F0 m 0 ls [])
  rw [← eH, ← elocs]
  unfold fX10_away at h
  refine lv_aload_n hx hb dX10_away_0 rfl (lv_at hl 0 rfl) ?_
  refine lv_iconst (v := (0 : Int32)) hx hb dX10_away_1 (by decide) ?_
  obtain ⟨V1, eV1, h⟩ := lt_some h
  refine r_pi E hw 22 0 (N := 29) (C := RX10) (T := TX10) (ty0 := tyX10) (ty := .int) (by decide) rfl rfl (by decide) rfl iw_10 rfl tyX10_ok nmX10 rfl rfl (vp_nar_int _) rfl lf_RX10_3 eV1 dX10_away_2 (fun H locs hw => ?_)
  refine lv_aload_n hx hb dX10_away_5 rfl (lv_at hl 0 rfl) ?_
  refine lv_aload_n hx hb dX10_away_6 rfl (lv_at hl 0 rfl) ?_
  refine lv_iload_n hx hb dX10_away_7 rfl (lv_at hl 1 rfl) ?_
  obtain ⟨y3, h2, h⟩ := ob_R_some h
  refine c_VI E hw (kX10_noHouse (l := l) (G := G) hB  h2) yy_X10_noHouse lm_RX10_309 rfl (by decide) rfl rfl hl.1 (by decide) (by decide) rfl (Nat.le_of_ble_eq_true rfl) dX10_away_8 (fun H locs hw => ?_)
  refine lv_iconst (v := (1 : Int32)) hx hb dX10_away_11 (by decide) ?_
  obtain ⟨y5, V6, h4, h⟩ := ob_I_some h
  refine c_VI E hw (kX10_throwsIf (l := l) (G := G) hB  h4) yy_X10_throwsIf lm_RX10_233 rfl (by decide) rfl rfl hl.1 (by decide) (by decide) rfl (Nat.le_of_ble_eq_true rfl) dX10_away_12 (fun H locs hw => ?_)
  refine lv_if_eq (tgt := 20) hx hb dX10_away_15 (by decide) (fun c21 => ?_) (fun c21 => ?_)
  · rw [if_pos c21] at h
    refine lv_aload_n hx hb dX10_away_20 rfl (lv_at hl 0 rfl) ?_
    obtain ⟨V8, h7, h⟩ := ob_R_some h
    refine c_VV E hw (kX10_remembers (l := l) (G := G) hB  h7) yy_X10_remembers lm_RX10_389 rfl (by decide) rfl rfl hl.1 (by decide) (by decide) rfl (Nat.le_of_ble_eq_true rfl) dX10_away_21 (fun H locs hw => ?_)
    refine lv_aload_n hx hb dX10_away_24 rfl (lv_at hl 0 rfl) ?_
    refine lv_iload_n hx hb dX10_away_25 rfl (lv_at hl 1 rfl) ?_
    refine lv_bipush (v := (7 : Int32)) hx hb dX10_away_26 (by decide) ?_
    obtain ⟨y10, h9, h⟩ := ob_R_some h
    refine c_VI E hw (kX10_of (l := l) (G := G) hB  h9) yy_X10_of lm_RX10_236 rfl (by decide) rfl rfl hl.1 (by decide) (by decide) rfl (Nat.le_of_ble_eq_true rfl) dX10_away_28 (fun H locs hw => ?_)
    refine lv_iconst (v := (1 : Int32)) hx hb dX10_away_31 (by decide) ?_
    refine lv_icmp_ne (tgt := 39) hx hb dX10_away_32 (by decide) (fun c19 => ?_) (fun c19 => ?_)
    · rw [if_neg c19] at h
      refine lv_iconst (v := (0 : Int32)) hx hb dX10_away_39 (by decide) ?_
      exact wX10_away_j40 E h kr hw (lv_sub hl [0, 1, 2] rfl)
    · rw [if_pos c19] at h
      refine lv_iconst (v := (1 : Int32)) hx hb dX10_away_35 (by decide) ?_
      refine lv_goto (tgt := 40) hx hb dX10_away_36 (by decide) ?_
      exact wX10_away_j40 E h kr hw (lv_sub hl [0, 1, 2] rfl)
  · rw [if_neg c21] at h
    refine lv_iconst (v := (0 : Int32)) hx hb dX10_away_18 (by decide) ?_
    obtain ⟨z20, h⟩ := zo_some h
    have h := Option.some.inj h
    subst h
    rw [kr]
    exact r_rz E hw z20 dX10_away_19
/-! ===== AllSawItModel.mirror(I)I ===== -/
theorem dX10_mirror_0 : decode cX10_mirror 0 = .ok (.aload_n 0, 1) := by decide +kernel
theorem dX10_mirror_1 : decode cX10_mirror 1 = .ok (.iconst 0, 1) := by decide +kernel
theorem dX10_mirror_2 : decode cX10_mirror 2 = .ok (.putfield 3, 3) := by decide +kernel
theorem dX10_mirror_5 : decode cX10_mirror 5 = .ok (.aload_n 0, 1) := by decide +kernel
theorem dX10_mirror_6 : decode cX10_mirror 6 = .ok (.aload_n 0, 1) := by decide +kernel
theorem dX10_mirror_7 : decode cX10_mirror 7 = .ok (.iload_n 1, 1) := by decide +kernel
theorem dX10_mirror_8 : decode cX10_mirror 8 = .ok (.invokevirtual 309, 3) := by decide +kernel
theorem dX10_mirror_11 : decode cX10_mirror 11 = .ok (.iconst 1, 1) := by decide +kernel
theorem dX10_mirror_12 : decode cX10_mirror 12 = .ok (.invokevirtual 233, 3) := by decide +kernel
theorem dX10_mirror_15 : decode cX10_mirror 15 = .ok (.ifCond .ne 27, 3) := by decide +kernel
theorem dX10_mirror_18 : decode cX10_mirror 18 = .ok (.aload_n 0, 1) := by decide +kernel
theorem dX10_mirror_19 : decode cX10_mirror 19 = .ok (.aload_n 0, 1) := by decide +kernel
theorem dX10_mirror_20 : decode cX10_mirror 20 = .ok (.iload_n 1, 1) := by decide +kernel
theorem dX10_mirror_21 : decode cX10_mirror 21 = .ok (.bipush 6, 2) := by decide +kernel
theorem dX10_mirror_23 : decode cX10_mirror 23 = .ok (.invokevirtual 236, 3) := by decide +kernel
theorem dX10_mirror_26 : decode cX10_mirror 26 = .ok (.iconst 3, 1) := by decide +kernel
theorem dX10_mirror_27 : decode cX10_mirror 27 = .ok (.if_icmp .ne 7, 3) := by decide +kernel
theorem dX10_mirror_30 : decode cX10_mirror 30 = .ok (.iconst 1, 1) := by decide +kernel
theorem dX10_mirror_31 : decode cX10_mirror 31 = .ok (.goto 4, 3) := by decide +kernel
theorem dX10_mirror_34 : decode cX10_mirror 34 = .ok (.iconst 0, 1) := by decide +kernel
theorem dX10_mirror_35 : decode cX10_mirror 35 = .ok (.iconst 2, 1) := by decide +kernel
theorem dX10_mirror_36 : decode cX10_mirror 36 = .ok (.invokevirtual 233, 3) := by decide +kernel
theorem dX10_mirror_39 : decode cX10_mirror 39 = .ok (.ifCond .eq 5, 3) := by decide +kernel
theorem dX10_mirror_42 : decode cX10_mirror 42 = .ok (.iconst 0, 1) := by decide +kernel
theorem dX10_mirror_43 : decode cX10_mirror 43 = .ok (.ireturn, 1) := by decide +kernel
theorem dX10_mirror_44 : decode cX10_mirror 44 = .ok (.aload_n 0, 1) := by decide +kernel
theorem dX10_mirror_45 : decode cX10_mirror 45 = .ok (.invokevirtual 389, 3) := by decide +kernel
theorem dX10_mirror_48 : decode cX10_mirror 48 = .ok (.aload_n 0, 1) := by decide +kernel
theorem dX10_mirror_49 : decode cX10_mirror 49 = .ok (.getfield 13, 3) := by decide +kernel
theorem dX10_mirror_52 : decode cX10_mirror 52 = .ok (.iload_n 1, 1) := by decide +kernel
theorem dX10_mirror_53 : decode cX10_mirror 53 = .ok (.bipush 6, 2) := by decide +kernel
theorem dX10_mirror_55 : decode cX10_mirror 55 = .ok (.invokestatic 66, 3) := by decide +kernel
theorem dX10_mirror_58 : decode cX10_mirror 58 = .ok (.dup2, 1) := by decide +kernel
theorem dX10_mirror_59 : decode cX10_mirror 59 = .ok (.iaload, 1) := by decide +kernel
theorem dX10_mirror_60 : decode cX10_mirror 60 = .ok (.iconst 1, 1) := by decide +kernel
theorem dX10_mirror_61 : decode cX10_mirror 61 = .ok (.iadd, 1) := by decide +kernel
theorem dX10_mirror_62 : decode cX10_mirror 62 = .ok (.iastore, 1) := by decide +kernel
theorem dX10_mirror_63 : decode cX10_mirror 63 = .ok (.aload_n 0, 1) := by decide +kernel
theorem dX10_mirror_64 : decode cX10_mirror 64 = .ok (.iload_n 1, 1) := by decide +kernel
theorem dX10_mirror_65 : decode cX10_mirror 65 = .ok (.bipush 6, 2) := by decide +kernel
theorem dX10_mirror_67 : decode cX10_mirror 67 = .ok (.invokevirtual 236, 3) := by decide +kernel
theorem dX10_mirror_70 : decode cX10_mirror 70 = .ok (.ireturn, 1) := by decide +kernel
noncomputable def fX10_mirror_j35 (V : VT) (u1 : Int32) (t0 : Int32) : Option (Int32 × VT) := ob_I (fX10_throwsIf V t0 (2 : Int32)) fun y10 V11 => if y10 = 0 then (ob_R (fX10_remembers V11 ) fun V13 => ob_R (fX10_at V13 u1 (6 : Int32)) fun y15 => rd_ y15 1988 (rd_ y15 1988 (lt_ (va_up V13 76 (upd (V13 76) y15.toNatClampNeg ((V13 76 y15.toNatClampNeg) + (1 : Int32)))) fun V18 => ob_R (fX10_of V18 u1 (6 : Int32)) fun y20 => some (y20, V18)))) else (some ((0 : Int32), V11))
noncomputable def fX10_mirror (V : VT) (x1 : Int32) : Option (Int32 × VT) := lt_ (va_up V 22 (upd (V 22) 0 (0 : Int32))) fun V1 => ob_R (fX10_noHouse V1 x1) fun y3 => ob_I (fX10_throwsIf V1 y3 (1 : Int32)) fun y5 V6 => if y5 = 0 then (ob_R (fX10_of V6 x1 (6 : Int32)) fun y8 => if y8 = (3 : Int32) then (fX10_mirror_j35 V6 x1 (1 : Int32)) else (fX10_mirror_j35 V6 x1 (0 : Int32))) else (some ((0 : Int32), V6))
set_option maxHeartbeats 4000000 in
set_option maxRecDepth 100000 in
theorem wX10_mirror_j35 {p : Program} {l : Launch} {e : Env} {s : State} {m : MethodId} {args : Array Value} {below : List Frame} {meth : Method} {c : Code} {G : GT} {B : BGt} {Q : State → Prop} (E : En p s m args c meth cX10_mirror 2 RX10 (some .int) G B) {V : VT} {u1 : Int32} {t0 : Int32} {r : (Int32 × VT)} (h : fX10_mirror_j35 V u1 t0 = some r) (kr : Q = MQ below (QI G s.heap.size r.1 r.2) args s 0 0 (gA G s.heap.size)) {H : Heap} {locs : List Loc} {ls : Array Slot} (hw : HW G s.heap V H locs) (hl : lv_has ls 2 [(0, .ref (G.2.2 22)), (1, .int u1)]) : W p l e (rmD 4) s m args below meth c H locs 0 0 Q (F0 m 35 ls [.int t0, .ref (G.2.2 22)]) := by
  have hx := en_x E
  have hb := en_b E
  have hB := en_B E
  unfold fX10_mirror_j35 at h
  refine lv_iconst (v := (2 : Int32)) hx hb dX10_mirror_35 (by decide) ?_
  obtain ⟨y10, V11, h9, h⟩ := ob_I_some h
  refine c_VI E hw (kX10_throwsIf (l := l) (G := G) hB  h9) yy_X10_throwsIf lm_RX10_233 rfl (by decide) rfl rfl hl.1 (by decide) (by decide) rfl (Nat.le_of_ble_eq_true rfl) dX10_mirror_36 (fun H locs hw => ?_)
  refine lv_if_eq (tgt := 44) hx hb dX10_mirror_39 (by decide) (fun c21 => ?_) (fun c21 => ?_)
  · rw [if_pos c21] at h
    refine lv_aload_n hx hb dX10_mirror_44 rfl (lv_at hl 0 rfl) ?_
    obtain ⟨V13, h12, h⟩ := ob_R_some h
    refine c_VV E hw (kX10_remembers (l := l) (G := G) hB  h12) yy_X10_remembers lm_RX10_389 rfl (by decide) rfl rfl hl.1 (by decide) (by decide) rfl (Nat.le_of_ble_eq_true rfl) dX10_mirror_45 (fun H locs hw => ?_)
    refine lv_aload_n hx hb dX10_mirror_48 rfl (lv_at hl 0 rfl) ?_
    refine r_gr E hw 22 1 76 (N := 29) (C := RX10) (T := TX10) (by decide) rfl rfl (by decide) rfl iw_10 rfl lf_RX10_13 dX10_mirror_49 ?_
    refine lv_iload_n hx hb dX10_mirror_52 rfl (lv_at hl 1 rfl) ?_
    refine lv_bipush (v := (6 : Int32)) hx hb dX10_mirror_53 (by decide) ?_
    obtain ⟨y15, h14, h⟩ := ob_R_some h
    refine c_SI E hw (kX10_at (l := l) (G := G) hB  h14) yy_X10_at lm_RX10_66 rfl hl.1 (by decide) (by decide) rfl (Nat.le_of_ble_eq_true rfl) dX10_mirror_55 (fun H locs hw => ?_)
    refine lv_dup2_11 hx hb dX10_mirror_58 rfl rfl ?_
    obtain ⟨b16, h⟩ := rd_some h
    refine r_ia E hw 76 1988 (by decide) (by decide) (by decide) rfl rfl b16 dX10_mirror_59 ?_
    refine lv_iconst (v := (1 : Int32)) hx hb dX10_mirror_60 (by decide) ?_
    refine lv_iadd hx hb dX10_mirror_61 ?_
    obtain ⟨b17, h⟩ := rd_some h
    obtain ⟨V18, eV18, h⟩ := lt_some h
    refine r_is E hw 76 1988 (by decide) (by decide) (by decide) rfl rfl b17 eV18 dX10_mirror_62 (fun H locs hw => ?_)
    refine lv_aload_n hx hb dX10_mirror_63 rfl (lv_at hl 0 rfl) ?_
    refine lv_iload_n hx hb dX10_mirror_64 rfl (lv_at hl 1 rfl) ?_
    refine lv_bipush (v := (6 : Int32)) hx hb dX10_mirror_65 (by decide) ?_
    obtain ⟨y20, h19, h⟩ := ob_R_some h
    refine c_VI E hw (kX10_of (l := l) (G := G) hB  h19) yy_X10_of lm_RX10_236 rfl (by decide) rfl rfl hl.1 (by decide) (by decide) rfl (Nat.le_of_ble_eq_true rfl) dX10_mirror_67 (fun H locs hw => ?_)
    have h := Option.some.inj h
    subst h
    rw [kr]
    exact r_ri E hw dX10_mirror_70
  · rw [if_neg c21] at h
    refine lv_iconst (v := (0 : Int32)) hx hb dX10_mirror_42 (by decide) ?_
    have h := Option.some.inj h
    subst h
    rw [kr]
    exact r_ri E hw dX10_mirror_43
set_option maxHeartbeats 4000000 in
set_option maxRecDepth 100000 in
theorem kX10_mirror {l : Launch} {G : GT} {B : BGt} (hB : BGok B) {V : VT} {x1 : Int32} {r : (Int32 × VT)} (h : fX10_mirror V x1 = some r) : CI l G B yX10_mirror (.code yX10_mirror cX10_mirror 2 (some .int)) 4 [.ref (G.2.2 22), .int x1] V r.1 r.2 := by
  intro sz
  refine met_of (Qs := fun sz => QI G sz (r.1) (r.2)) hB (by decide) (Nat.le_of_ble_eq_true rfl) ?_ sz
  intro p e s m args below meth c ls E hw hl
  have hx := en_x E
  have hb := en_b E
  generalize hQ : MQ _ _ _ _ _ _ _ = Q
  have kr : Q = MQ below (QI G s.heap.size r.1 r.2) args s 0 0 (gA G s.heap.size) := hQ.symm
  have hl : lv_has ls 2 [(0, .ref (G.2.2 22)), (1, .int x1)] := hl
  obtain ⟨H, eH⟩ : ∃ H, H = s.heap := ⟨_, rfl⟩
  obtain ⟨locs, elocs⟩ : ∃ z : List Loc, z = [] := ⟨_, rfl⟩
  have hw : HW G s.heap V H locs := by rw [eH, elocs]; exact hw
  show W p l e _ s m args below meth c s.heap [] 0 0 Q (F0 m 0 ls [])
  rw [← eH, ← elocs]
  unfold fX10_mirror at h
  refine lv_aload_n hx hb dX10_mirror_0 rfl (lv_at hl 0 rfl) ?_
  refine lv_iconst (v := (0 : Int32)) hx hb dX10_mirror_1 (by decide) ?_
  obtain ⟨V1, eV1, h⟩ := lt_some h
  refine r_pi E hw 22 0 (N := 29) (C := RX10) (T := TX10) (ty0 := tyX10) (ty := .int) (by decide) rfl rfl (by decide) rfl iw_10 rfl tyX10_ok nmX10 rfl rfl (vp_nar_int _) rfl lf_RX10_3 eV1 dX10_mirror_2 (fun H locs hw => ?_)
  refine lv_aload_n hx hb dX10_mirror_5 rfl (lv_at hl 0 rfl) ?_
  refine lv_aload_n hx hb dX10_mirror_6 rfl (lv_at hl 0 rfl) ?_
  refine lv_iload_n hx hb dX10_mirror_7 rfl (lv_at hl 1 rfl) ?_
  obtain ⟨y3, h2, h⟩ := ob_R_some h
  refine c_VI E hw (kX10_noHouse (l := l) (G := G) hB  h2) yy_X10_noHouse lm_RX10_309 rfl (by decide) rfl rfl hl.1 (by decide) (by decide) rfl (Nat.le_of_ble_eq_true rfl) dX10_mirror_8 (fun H locs hw => ?_)
  refine lv_iconst (v := (1 : Int32)) hx hb dX10_mirror_11 (by decide) ?_
  obtain ⟨y5, V6, h4, h⟩ := ob_I_some h
  refine c_VI E hw (kX10_throwsIf (l := l) (G := G) hB  h4) yy_X10_throwsIf lm_RX10_233 rfl (by decide) rfl rfl hl.1 (by decide) (by decide) rfl (Nat.le_of_ble_eq_true rfl) dX10_mirror_12 (fun H locs hw => ?_)
  refine lv_if_ne (tgt := 42) hx hb dX10_mirror_15 (by decide) (fun c23 => ?_) (fun c23 => ?_)
  · rw [if_neg c23] at h
    refine lv_iconst (v := (0 : Int32)) hx hb dX10_mirror_42 (by decide) ?_
    have h := Option.some.inj h
    subst h
    rw [kr]
    exact r_ri E hw dX10_mirror_43
  · rw [if_pos c23] at h
    refine lv_aload_n hx hb dX10_mirror_18 rfl (lv_at hl 0 rfl) ?_
    refine lv_aload_n hx hb dX10_mirror_19 rfl (lv_at hl 0 rfl) ?_
    refine lv_iload_n hx hb dX10_mirror_20 rfl (lv_at hl 1 rfl) ?_
    refine lv_bipush (v := (6 : Int32)) hx hb dX10_mirror_21 (by decide) ?_
    obtain ⟨y8, h7, h⟩ := ob_R_some h
    refine c_VI E hw (kX10_of (l := l) (G := G) hB  h7) yy_X10_of lm_RX10_236 rfl (by decide) rfl rfl hl.1 (by decide) (by decide) rfl (Nat.le_of_ble_eq_true rfl) dX10_mirror_23 (fun H locs hw => ?_)
    refine lv_iconst (v := (3 : Int32)) hx hb dX10_mirror_26 (by decide) ?_
    refine lv_icmp_ne (tgt := 34) hx hb dX10_mirror_27 (by decide) (fun c22 => ?_) (fun c22 => ?_)
    · rw [if_neg c22] at h
      refine lv_iconst (v := (0 : Int32)) hx hb dX10_mirror_34 (by decide) ?_
      exact wX10_mirror_j35 E h kr hw (lv_sub hl [0, 1] rfl)
    · rw [if_pos c22] at h
      refine lv_iconst (v := (1 : Int32)) hx hb dX10_mirror_30 (by decide) ?_
      refine lv_goto (tgt := 35) hx hb dX10_mirror_31 (by decide) ?_
      exact wX10_mirror_j35 E h kr hw (lv_sub hl [0, 1] rfl)
/-! ===== AllSawItModel.up(III)I ===== -/
theorem dX10_up_0 : decode cX10_up 0 = .ok (.aload_n 0, 1) := by decide +kernel
theorem dX10_up_1 : decode cX10_up 1 = .ok (.iconst 0, 1) := by decide +kernel
theorem dX10_up_2 : decode cX10_up 2 = .ok (.putfield 3, 3) := by decide +kernel
theorem dX10_up_5 : decode cX10_up 5 = .ok (.aload_n 0, 1) := by decide +kernel
theorem dX10_up_6 : decode cX10_up 6 = .ok (.aload_n 0, 1) := by decide +kernel
theorem dX10_up_7 : decode cX10_up 7 = .ok (.iload_n 1, 1) := by decide +kernel
theorem dX10_up_8 : decode cX10_up 8 = .ok (.invokevirtual 309, 3) := by decide +kernel
theorem dX10_up_11 : decode cX10_up 11 = .ok (.ifCond .ne 10, 3) := by decide +kernel
theorem dX10_up_14 : decode cX10_up 14 = .ok (.iload_n 2, 1) := by decide +kernel
theorem dX10_up_15 : decode cX10_up 15 = .ok (.invokestatic 315, 3) := by decide +kernel
theorem dX10_up_18 : decode cX10_up 18 = .ok (.ifCond .eq 7, 3) := by decide +kernel
theorem dX10_up_21 : decode cX10_up 21 = .ok (.iconst 1, 1) := by decide +kernel
theorem dX10_up_22 : decode cX10_up 22 = .ok (.goto 4, 3) := by decide +kernel
theorem dX10_up_25 : decode cX10_up 25 = .ok (.iconst 0, 1) := by decide +kernel
theorem dX10_up_26 : decode cX10_up 26 = .ok (.iconst 1, 1) := by decide +kernel
theorem dX10_up_27 : decode cX10_up 27 = .ok (.invokevirtual 233, 3) := by decide +kernel
theorem dX10_up_30 : decode cX10_up 30 = .ok (.ifCond .ne 26, 3) := by decide +kernel
theorem dX10_up_33 : decode cX10_up 33 = .ok (.aload_n 0, 1) := by decide +kernel
theorem dX10_up_34 : decode cX10_up 34 = .ok (.iload_n 3, 1) := by decide +kernel
theorem dX10_up_35 : decode cX10_up 35 = .ok (.iconst 0, 1) := by decide +kernel
theorem dX10_up_36 : decode cX10_up 36 = .ok (.bipush 24, 2) := by decide +kernel
theorem dX10_up_38 : decode cX10_up 38 = .ok (.invokestatic 76, 3) := by decide +kernel
theorem dX10_up_41 : decode cX10_up 41 = .ok (.ifCond .ne 7, 3) := by decide +kernel
theorem dX10_up_44 : decode cX10_up 44 = .ok (.iconst 1, 1) := by decide +kernel
theorem dX10_up_45 : decode cX10_up 45 = .ok (.goto 4, 3) := by decide +kernel
theorem dX10_up_48 : decode cX10_up 48 = .ok (.iconst 0, 1) := by decide +kernel
theorem dX10_up_49 : decode cX10_up 49 = .ok (.iconst 2, 1) := by decide +kernel
theorem dX10_up_50 : decode cX10_up 50 = .ok (.invokevirtual 233, 3) := by decide +kernel
theorem dX10_up_53 : decode cX10_up 53 = .ok (.ifCond .eq 5, 3) := by decide +kernel
theorem dX10_up_56 : decode cX10_up 56 = .ok (.iconst 0, 1) := by decide +kernel
theorem dX10_up_57 : decode cX10_up 57 = .ok (.ireturn, 1) := by decide +kernel
theorem dX10_up_58 : decode cX10_up 58 = .ok (.aload_n 0, 1) := by decide +kernel
theorem dX10_up_59 : decode cX10_up 59 = .ok (.invokevirtual 389, 3) := by decide +kernel
theorem dX10_up_62 : decode cX10_up 62 = .ok (.aload_n 0, 1) := by decide +kernel
theorem dX10_up_63 : decode cX10_up 63 = .ok (.iload_n 1, 1) := by decide +kernel
theorem dX10_up_64 : decode cX10_up 64 = .ok (.iconst 4, 1) := by decide +kernel
theorem dX10_up_65 : decode cX10_up 65 = .ok (.invokevirtual 236, 3) := by decide +kernel
theorem dX10_up_68 : decode cX10_up 68 = .ok (.istore 4, 2) := by decide +kernel
theorem dX10_up_70 : decode cX10_up 70 = .ok (.aload_n 0, 1) := by decide +kernel
theorem dX10_up_71 : decode cX10_up 71 = .ok (.getfield 13, 3) := by decide +kernel
theorem dX10_up_74 : decode cX10_up 74 = .ok (.iload_n 1, 1) := by decide +kernel
theorem dX10_up_75 : decode cX10_up 75 = .ok (.iconst 3, 1) := by decide +kernel
theorem dX10_up_76 : decode cX10_up 76 = .ok (.invokestatic 66, 3) := by decide +kernel
theorem dX10_up_79 : decode cX10_up 79 = .ok (.iload_n 2, 1) := by decide +kernel
theorem dX10_up_80 : decode cX10_up 80 = .ok (.iastore, 1) := by decide +kernel
theorem dX10_up_81 : decode cX10_up 81 = .ok (.aload_n 0, 1) := by decide +kernel
theorem dX10_up_82 : decode cX10_up 82 = .ok (.getfield 13, 3) := by decide +kernel
theorem dX10_up_85 : decode cX10_up 85 = .ok (.iload_n 1, 1) := by decide +kernel
theorem dX10_up_86 : decode cX10_up 86 = .ok (.iconst 4, 1) := by decide +kernel
theorem dX10_up_87 : decode cX10_up 87 = .ok (.invokestatic 66, 3) := by decide +kernel
theorem dX10_up_90 : decode cX10_up 90 = .ok (.iload_n 3, 1) := by decide +kernel
theorem dX10_up_91 : decode cX10_up 91 = .ok (.iastore, 1) := by decide +kernel
theorem dX10_up_92 : decode cX10_up 92 = .ok (.iload 4, 2) := by decide +kernel
theorem dX10_up_94 : decode cX10_up 94 = .ok (.ireturn, 1) := by decide +kernel
noncomputable def fX10_up_j49 (V : VT) (u1 : Int32) (u2 : Int32) (u3 : Int32) (t0 : Int32) : Option (Int32 × VT) := ob_I (fX10_throwsIf V t0 (2 : Int32)) fun y10 V11 => if y10 = 0 then (ob_R (fX10_remembers V11 ) fun V13 => ob_R (fX10_of V13 u1 (4 : Int32)) fun y15 => ob_R (fX10_at V13 u1 (3 : Int32)) fun y17 => rd_ y17 1988 (lt_ (va_up V13 76 (upd (V13 76) y17.toNatClampNeg u2)) fun V19 => ob_R (fX10_at V19 u1 (4 : Int32)) fun y21 => rd_ y21 1988 (lt_ (va_up V19 76 (upd (V19 76) y21.toNatClampNeg u3)) fun V23 => some (y15, V23)))) else (some ((0 : Int32), V11))
noncomputable def fX10_up_j26 (V : VT) (u1 : Int32) (u2 : Int32) (u3 : Int32) (t0 : Int32) : Option (Int32 × VT) := ob_I (fX10_throwsIf V t0 (1 : Int32)) fun y5 V6 => if y5 = 0 then (ob_R (fX10_in V6 u3 (0 : Int32) (24 : Int32)) fun y8 => if y8 = 0 then (fX10_up_j49 V6 u1 u2 u3 (1 : Int32)) else (fX10_up_j49 V6 u1 u2 u3 (0 : Int32))) else (some ((0 : Int32), V6))
noncomputable def fX10_up_j21 (V : VT) (u1 : Int32) (u2 : Int32) (u3 : Int32) : Option (Int32 × VT) := fX10_up_j26 V u1 u2 u3 (1 : Int32)
noncomputable def fX10_up (V : VT) (x1 : Int32) (x2 : Int32) (x3 : Int32) : Option (Int32 × VT) := lt_ (va_up V 22 (upd (V 22) 0 (0 : Int32))) fun V1 => ob_R (fX10_noHouse V1 x1) fun y3 => if y3 = 0 then (ob_R (fX10_noHour V1 x2) fun y28 => if y28 = 0 then (fX10_up_j26 V1 x1 x2 x3 (0 : Int32)) else (fX10_up_j21 V1 x1 x2 x3)) else (fX10_up_j21 V1 x1 x2 x3)
set_option maxHeartbeats 4000000 in
set_option maxRecDepth 100000 in
theorem wX10_up_j49 {p : Program} {l : Launch} {e : Env} {s : State} {m : MethodId} {args : Array Value} {below : List Frame} {meth : Method} {c : Code} {G : GT} {B : BGt} {Q : State → Prop} (E : En p s m args c meth cX10_up 5 RX10 (some .int) G B) {V : VT} {u1 : Int32} {u2 : Int32} {u3 : Int32} {t0 : Int32} {r : (Int32 × VT)} (h : fX10_up_j49 V u1 u2 u3 t0 = some r) (kr : Q = MQ below (QI G s.heap.size r.1 r.2) args s 0 0 (gA G s.heap.size)) {H : Heap} {locs : List Loc} {ls : Array Slot} (hw : HW G s.heap V H locs) (hl : lv_has ls 5 [(0, .ref (G.2.2 22)), (1, .int u1), (2, .int u2), (3, .int u3)]) : W p l e (rmD 4) s m args below meth c H locs 0 0 Q (F0 m 49 ls [.int t0, .ref (G.2.2 22)]) := by
  have hx := en_x E
  have hb := en_b E
  have hB := en_B E
  unfold fX10_up_j49 at h
  refine lv_iconst (v := (2 : Int32)) hx hb dX10_up_49 (by decide) ?_
  obtain ⟨y10, V11, h9, h⟩ := ob_I_some h
  refine c_VI E hw (kX10_throwsIf (l := l) (G := G) hB  h9) yy_X10_throwsIf lm_RX10_233 rfl (by decide) rfl rfl hl.1 (by decide) (by decide) rfl (Nat.le_of_ble_eq_true rfl) dX10_up_50 (fun H locs hw => ?_)
  refine lv_if_eq (tgt := 58) hx hb dX10_up_53 (by decide) (fun c24 => ?_) (fun c24 => ?_)
  · rw [if_pos c24] at h
    refine lv_aload_n hx hb dX10_up_58 rfl (lv_at hl 0 rfl) ?_
    obtain ⟨V13, h12, h⟩ := ob_R_some h
    refine c_VV E hw (kX10_remembers (l := l) (G := G) hB  h12) yy_X10_remembers lm_RX10_389 rfl (by decide) rfl rfl hl.1 (by decide) (by decide) rfl (Nat.le_of_ble_eq_true rfl) dX10_up_59 (fun H locs hw => ?_)
    refine lv_aload_n hx hb dX10_up_62 rfl (lv_at hl 0 rfl) ?_
    refine lv_iload_n hx hb dX10_up_63 rfl (lv_at hl 1 rfl) ?_
    refine lv_iconst (v := (4 : Int32)) hx hb dX10_up_64 (by decide) ?_
    obtain ⟨y15, h14, h⟩ := ob_R_some h
    refine c_VI E hw (kX10_of (l := l) (G := G) hB  h14) yy_X10_of lm_RX10_236 rfl (by decide) rfl rfl hl.1 (by decide) (by decide) rfl (Nat.le_of_ble_eq_true rfl) dX10_up_65 (fun H locs hw => ?_)
    refine lv_istore (lv' := [(4, .int y15), (0, .ref (G.2.2 22)), (1, .int u1), (2, .int u2), (3, .int u3)]) hx hb dX10_up_68 hl (by decide) rfl (fun ls hl => ?_)
    refine lv_aload_n hx hb dX10_up_70 rfl (lv_at hl 1 rfl) ?_
    refine r_gr E hw 22 1 76 (N := 29) (C := RX10) (T := TX10) (by decide) rfl rfl (by decide) rfl iw_10 rfl lf_RX10_13 dX10_up_71 ?_
    refine lv_iload_n hx hb dX10_up_74 rfl (lv_at hl 2 rfl) ?_
    refine lv_iconst (v := (3 : Int32)) hx hb dX10_up_75 (by decide) ?_
    obtain ⟨y17, h16, h⟩ := ob_R_some h
    refine c_SI E hw (kX10_at (l := l) (G := G) hB  h16) yy_X10_at lm_RX10_66 rfl hl.1 (by decide) (by decide) rfl (Nat.le_of_ble_eq_true rfl) dX10_up_76 (fun H locs hw => ?_)
    refine lv_iload_n hx hb dX10_up_79 rfl (lv_at hl 3 rfl) ?_
    obtain ⟨b18, h⟩ := rd_some h
    obtain ⟨V19, eV19, h⟩ := lt_some h
    refine r_is E hw 76 1988 (by decide) (by decide) (by decide) rfl rfl b18 eV19 dX10_up_80 (fun H locs hw => ?_)
    refine lv_aload_n hx hb dX10_up_81 rfl (lv_at hl 1 rfl) ?_
    refine r_gr E hw 22 1 76 (N := 29) (C := RX10) (T := TX10) (by decide) rfl rfl (by decide) rfl iw_10 rfl lf_RX10_13 dX10_up_82 ?_
    refine lv_iload_n hx hb dX10_up_85 rfl (lv_at hl 2 rfl) ?_
    refine lv_iconst (v := (4 : Int32)) hx hb dX10_up_86 (by decide) ?_
    obtain ⟨y21, h20, h⟩ := ob_R_some h
    refine c_SI E hw (kX10_at (l := l) (G := G) hB  h20) yy_X10_at lm_RX10_66 rfl hl.1 (by decide) (by decide) rfl (Nat.le_of_ble_eq_true rfl) dX10_up_87 (fun H locs hw => ?_)
    refine lv_iload_n hx hb dX10_up_90 rfl (lv_at hl 4 rfl) ?_
    obtain ⟨b22, h⟩ := rd_some h
    obtain ⟨V23, eV23, h⟩ := lt_some h
    refine r_is E hw 76 1988 (by decide) (by decide) (by decide) rfl rfl b22 eV23 dX10_up_91 (fun H locs hw => ?_)
    refine lv_iload hx hb dX10_up_92 (lv_at hl 0 rfl) ?_
    have h := Option.some.inj h
    subst h
    rw [kr]
    exact r_ri E hw dX10_up_94
  · rw [if_neg c24] at h
    refine lv_iconst (v := (0 : Int32)) hx hb dX10_up_56 (by decide) ?_
    have h := Option.some.inj h
    subst h
    rw [kr]
    exact r_ri E hw dX10_up_57
set_option maxHeartbeats 4000000 in
set_option maxRecDepth 100000 in
theorem wX10_up_j26 {p : Program} {l : Launch} {e : Env} {s : State} {m : MethodId} {args : Array Value} {below : List Frame} {meth : Method} {c : Code} {G : GT} {B : BGt} {Q : State → Prop} (E : En p s m args c meth cX10_up 5 RX10 (some .int) G B) {V : VT} {u1 : Int32} {u2 : Int32} {u3 : Int32} {t0 : Int32} {r : (Int32 × VT)} (h : fX10_up_j26 V u1 u2 u3 t0 = some r) (kr : Q = MQ below (QI G s.heap.size r.1 r.2) args s 0 0 (gA G s.heap.size)) {H : Heap} {locs : List Loc} {ls : Array Slot} (hw : HW G s.heap V H locs) (hl : lv_has ls 5 [(0, .ref (G.2.2 22)), (1, .int u1), (2, .int u2), (3, .int u3)]) : W p l e (rmD 4) s m args below meth c H locs 0 0 Q (F0 m 26 ls [.int t0, .ref (G.2.2 22)]) := by
  have hx := en_x E
  have hb := en_b E
  have hB := en_B E
  unfold fX10_up_j26 at h
  refine lv_iconst (v := (1 : Int32)) hx hb dX10_up_26 (by decide) ?_
  obtain ⟨y5, V6, h4, h⟩ := ob_I_some h
  refine c_VI E hw (kX10_throwsIf (l := l) (G := G) hB  h4) yy_X10_throwsIf lm_RX10_233 rfl (by decide) rfl rfl hl.1 (by decide) (by decide) rfl (Nat.le_of_ble_eq_true rfl) dX10_up_27 (fun H locs hw => ?_)
  refine lv_if_ne (tgt := 56) hx hb dX10_up_30 (by decide) (fun c26 => ?_) (fun c26 => ?_)
  · rw [if_neg c26] at h
    refine lv_iconst (v := (0 : Int32)) hx hb dX10_up_56 (by decide) ?_
    have h := Option.some.inj h
    subst h
    rw [kr]
    exact r_ri E hw dX10_up_57
  · rw [if_pos c26] at h
    refine lv_aload_n hx hb dX10_up_33 rfl (lv_at hl 0 rfl) ?_
    refine lv_iload_n hx hb dX10_up_34 rfl (lv_at hl 3 rfl) ?_
    refine lv_iconst (v := (0 : Int32)) hx hb dX10_up_35 (by decide) ?_
    refine lv_bipush (v := (24 : Int32)) hx hb dX10_up_36 (by decide) ?_
    obtain ⟨y8, h7, h⟩ := ob_R_some h
    refine c_SI E hw (kX10_in (l := l) (G := G) hB  h7) yy_X10_in lm_RX10_76 rfl hl.1 (by decide) (by decide) rfl (Nat.le_of_ble_eq_true rfl) dX10_up_38 (fun H locs hw => ?_)
    refine lv_if_ne (tgt := 48) hx hb dX10_up_41 (by decide) (fun c25 => ?_) (fun c25 => ?_)
    · rw [if_neg c25] at h
      refine lv_iconst (v := (0 : Int32)) hx hb dX10_up_48 (by decide) ?_
      exact wX10_up_j49 E h kr hw (lv_sub hl [0, 1, 2, 3] rfl)
    · rw [if_pos c25] at h
      refine lv_iconst (v := (1 : Int32)) hx hb dX10_up_44 (by decide) ?_
      refine lv_goto (tgt := 49) hx hb dX10_up_45 (by decide) ?_
      exact wX10_up_j49 E h kr hw (lv_sub hl [0, 1, 2, 3] rfl)
set_option maxHeartbeats 4000000 in
set_option maxRecDepth 100000 in
theorem wX10_up_j21 {p : Program} {l : Launch} {e : Env} {s : State} {m : MethodId} {args : Array Value} {below : List Frame} {meth : Method} {c : Code} {G : GT} {B : BGt} {Q : State → Prop} (E : En p s m args c meth cX10_up 5 RX10 (some .int) G B) {V : VT} {u1 : Int32} {u2 : Int32} {u3 : Int32} {r : (Int32 × VT)} (h : fX10_up_j21 V u1 u2 u3 = some r) (kr : Q = MQ below (QI G s.heap.size r.1 r.2) args s 0 0 (gA G s.heap.size)) {H : Heap} {locs : List Loc} {ls : Array Slot} (hw : HW G s.heap V H locs) (hl : lv_has ls 5 [(0, .ref (G.2.2 22)), (1, .int u1), (2, .int u2), (3, .int u3)]) : W p l e (rmD 4) s m args below meth c H locs 0 0 Q (F0 m 21 ls [.ref (G.2.2 22)]) := by
  have hx := en_x E
  have hb := en_b E
  have hB := en_B E
  unfold fX10_up_j21 at h
  refine lv_iconst (v := (1 : Int32)) hx hb dX10_up_21 (by decide) ?_
  refine lv_goto (tgt := 26) hx hb dX10_up_22 (by decide) ?_
  exact wX10_up_j26 E h kr hw (lv_sub hl [0, 1, 2, 3] rfl)
set_option maxHeartbeats 4000000 in
set_option maxRecDepth 100000 in
theorem kX10_up {l : Launch} {G : GT} {B : BGt} (hB : BGok B) {V : VT} {x1 : Int32} {x2 : Int32} {x3 : Int32} {r : (Int32 × VT)} (h : fX10_up V x1 x2 x3 = some r) : CI l G B yX10_up (.code yX10_up cX10_up 5 (some .int)) 4 [.ref (G.2.2 22), .int x1, .int x2, .int x3] V r.1 r.2 := by
  intro sz
  refine met_of (Qs := fun sz => QI G sz (r.1) (r.2)) hB (by decide) (Nat.le_of_ble_eq_true rfl) ?_ sz
  intro p e s m args below meth c ls E hw hl
  have hx := en_x E
  have hb := en_b E
  generalize hQ : MQ _ _ _ _ _ _ _ = Q
  have kr : Q = MQ below (QI G s.heap.size r.1 r.2) args s 0 0 (gA G s.heap.size) := hQ.symm
  have hl : lv_has ls 5 [(0, .ref (G.2.2 22)), (1, .int x1), (2, .int x2), (3, .int x3)] := hl
  obtain ⟨H, eH⟩ : ∃ H, H = s.heap := ⟨_, rfl⟩
  obtain ⟨locs, elocs⟩ : ∃ z : List Loc, z = [] := ⟨_, rfl⟩
  have hw : HW G s.heap V H locs := by rw [eH, elocs]; exact hw
  show W p l e _ s m args below meth c s.heap [] 0 0 Q (F0 m 0 ls [])
  rw [← eH, ← elocs]
  unfold fX10_up at h
  refine lv_aload_n hx hb dX10_up_0 rfl (lv_at hl 0 rfl) ?_
  refine lv_iconst (v := (0 : Int32)) hx hb dX10_up_1 (by decide) ?_
  obtain ⟨V1, eV1, h⟩ := lt_some h
  refine r_pi E hw 22 0 (N := 29) (C := RX10) (T := TX10) (ty0 := tyX10) (ty := .int) (by decide) rfl rfl (by decide) rfl iw_10 rfl tyX10_ok nmX10 rfl rfl (vp_nar_int _) rfl lf_RX10_3 eV1 dX10_up_2 (fun H locs hw => ?_)
  refine lv_aload_n hx hb dX10_up_5 rfl (lv_at hl 0 rfl) ?_
  refine lv_aload_n hx hb dX10_up_6 rfl (lv_at hl 0 rfl) ?_
  refine lv_iload_n hx hb dX10_up_7 rfl (lv_at hl 1 rfl) ?_
  obtain ⟨y3, h2, h⟩ := ob_R_some h
  refine c_VI E hw (kX10_noHouse (l := l) (G := G) hB  h2) yy_X10_noHouse lm_RX10_309 rfl (by decide) rfl rfl hl.1 (by decide) (by decide) rfl (Nat.le_of_ble_eq_true rfl) dX10_up_8 (fun H locs hw => ?_)
  refine lv_if_ne (tgt := 21) hx hb dX10_up_11 (by decide) (fun c30 => ?_) (fun c30 => ?_)
  · rw [if_neg c30] at h
    exact wX10_up_j21 E h kr hw (lv_sub hl [0, 1, 2, 3] rfl)
  · rw [if_pos c30] at h
    refine lv_iload_n hx hb dX10_up_14 rfl (lv_at hl 2 rfl) ?_
    obtain ⟨y28, h27, h⟩ := ob_R_some h
    refine c_SI E hw (kX10_noHour (l := l) (G := G) hB  h27) yy_X10_noHour lm_RX10_315 rfl hl.1 (by decide) (by decide) rfl (Nat.le_of_ble_eq_true rfl) dX10_up_15 (fun H locs hw => ?_)
    refine lv_if_eq (tgt := 25) hx hb dX10_up_18 (by decide) (fun c29 => ?_) (fun c29 => ?_)
    · rw [if_pos c29] at h
      refine lv_iconst (v := (0 : Int32)) hx hb dX10_up_25 (by decide) ?_
      exact wX10_up_j26 E h kr hw (lv_sub hl [0, 1, 2, 3] rfl)
    · rw [if_neg c29] at h
      exact wX10_up_j21 E h kr hw (lv_sub hl [0, 1, 2, 3] rfl)
/-! ===== AllSawItModel.spite(II)I ===== -/
theorem dX10_spite_0 : decode cX10_spite 0 = .ok (.aload_n 0, 1) := by decide +kernel
theorem dX10_spite_1 : decode cX10_spite 1 = .ok (.iconst 0, 1) := by decide +kernel
theorem dX10_spite_2 : decode cX10_spite 2 = .ok (.putfield 3, 3) := by decide +kernel
theorem dX10_spite_5 : decode cX10_spite 5 = .ok (.aload_n 0, 1) := by decide +kernel
theorem dX10_spite_6 : decode cX10_spite 6 = .ok (.aload_n 0, 1) := by decide +kernel
theorem dX10_spite_7 : decode cX10_spite 7 = .ok (.iload_n 1, 1) := by decide +kernel
theorem dX10_spite_8 : decode cX10_spite 8 = .ok (.invokevirtual 309, 3) := by decide +kernel
theorem dX10_spite_11 : decode cX10_spite 11 = .ok (.iconst 1, 1) := by decide +kernel
theorem dX10_spite_12 : decode cX10_spite 12 = .ok (.invokevirtual 233, 3) := by decide +kernel
theorem dX10_spite_15 : decode cX10_spite 15 = .ok (.ifCond .ne 26, 3) := by decide +kernel
theorem dX10_spite_18 : decode cX10_spite 18 = .ok (.aload_n 0, 1) := by decide +kernel
theorem dX10_spite_19 : decode cX10_spite 19 = .ok (.iload_n 2, 1) := by decide +kernel
theorem dX10_spite_20 : decode cX10_spite 20 = .ok (.iconst 0, 1) := by decide +kernel
theorem dX10_spite_21 : decode cX10_spite 21 = .ok (.bipush 9, 2) := by decide +kernel
theorem dX10_spite_23 : decode cX10_spite 23 = .ok (.invokestatic 76, 3) := by decide +kernel
theorem dX10_spite_26 : decode cX10_spite 26 = .ok (.ifCond .ne 7, 3) := by decide +kernel
theorem dX10_spite_29 : decode cX10_spite 29 = .ok (.iconst 1, 1) := by decide +kernel
theorem dX10_spite_30 : decode cX10_spite 30 = .ok (.goto 4, 3) := by decide +kernel
theorem dX10_spite_33 : decode cX10_spite 33 = .ok (.iconst 0, 1) := by decide +kernel
theorem dX10_spite_34 : decode cX10_spite 34 = .ok (.iconst 2, 1) := by decide +kernel
theorem dX10_spite_35 : decode cX10_spite 35 = .ok (.invokevirtual 233, 3) := by decide +kernel
theorem dX10_spite_38 : decode cX10_spite 38 = .ok (.ifCond .eq 5, 3) := by decide +kernel
theorem dX10_spite_41 : decode cX10_spite 41 = .ok (.iconst 0, 1) := by decide +kernel
theorem dX10_spite_42 : decode cX10_spite 42 = .ok (.ireturn, 1) := by decide +kernel
theorem dX10_spite_43 : decode cX10_spite 43 = .ok (.aload_n 0, 1) := by decide +kernel
theorem dX10_spite_44 : decode cX10_spite 44 = .ok (.invokevirtual 389, 3) := by decide +kernel
theorem dX10_spite_47 : decode cX10_spite 47 = .ok (.aload_n 0, 1) := by decide +kernel
theorem dX10_spite_48 : decode cX10_spite 48 = .ok (.iload_n 1, 1) := by decide +kernel
theorem dX10_spite_49 : decode cX10_spite 49 = .ok (.iconst 5, 1) := by decide +kernel
theorem dX10_spite_50 : decode cX10_spite 50 = .ok (.invokevirtual 236, 3) := by decide +kernel
theorem dX10_spite_53 : decode cX10_spite 53 = .ok (.istore_n 3, 1) := by decide +kernel
theorem dX10_spite_54 : decode cX10_spite 54 = .ok (.aload_n 0, 1) := by decide +kernel
theorem dX10_spite_55 : decode cX10_spite 55 = .ok (.getfield 13, 3) := by decide +kernel
theorem dX10_spite_58 : decode cX10_spite 58 = .ok (.iload_n 1, 1) := by decide +kernel
theorem dX10_spite_59 : decode cX10_spite 59 = .ok (.iconst 5, 1) := by decide +kernel
theorem dX10_spite_60 : decode cX10_spite 60 = .ok (.invokestatic 66, 3) := by decide +kernel
theorem dX10_spite_63 : decode cX10_spite 63 = .ok (.iload_n 2, 1) := by decide +kernel
theorem dX10_spite_64 : decode cX10_spite 64 = .ok (.iastore, 1) := by decide +kernel
theorem dX10_spite_65 : decode cX10_spite 65 = .ok (.iload_n 3, 1) := by decide +kernel
theorem dX10_spite_66 : decode cX10_spite 66 = .ok (.ireturn, 1) := by decide +kernel
noncomputable def fX10_spite_j34 (V : VT) (u1 : Int32) (u2 : Int32) (t0 : Int32) : Option (Int32 × VT) := ob_I (fX10_throwsIf V t0 (2 : Int32)) fun y10 V11 => if y10 = 0 then (ob_R (fX10_remembers V11 ) fun V13 => ob_R (fX10_of V13 u1 (5 : Int32)) fun y15 => ob_R (fX10_at V13 u1 (5 : Int32)) fun y17 => rd_ y17 1988 (lt_ (va_up V13 76 (upd (V13 76) y17.toNatClampNeg u2)) fun V19 => some (y15, V19))) else (some ((0 : Int32), V11))
noncomputable def fX10_spite (V : VT) (x1 : Int32) (x2 : Int32) : Option (Int32 × VT) := lt_ (va_up V 22 (upd (V 22) 0 (0 : Int32))) fun V1 => ob_R (fX10_noHouse V1 x1) fun y3 => ob_I (fX10_throwsIf V1 y3 (1 : Int32)) fun y5 V6 => if y5 = 0 then (ob_R (fX10_in V6 x2 (0 : Int32) (9 : Int32)) fun y8 => if y8 = 0 then (fX10_spite_j34 V6 x1 x2 (1 : Int32)) else (fX10_spite_j34 V6 x1 x2 (0 : Int32))) else (some ((0 : Int32), V6))
set_option maxHeartbeats 4000000 in
set_option maxRecDepth 100000 in
theorem wX10_spite_j34 {p : Program} {l : Launch} {e : Env} {s : State} {m : MethodId} {args : Array Value} {below : List Frame} {meth : Method} {c : Code} {G : GT} {B : BGt} {Q : State → Prop} (E : En p s m args c meth cX10_spite 4 RX10 (some .int) G B) {V : VT} {u1 : Int32} {u2 : Int32} {t0 : Int32} {r : (Int32 × VT)} (h : fX10_spite_j34 V u1 u2 t0 = some r) (kr : Q = MQ below (QI G s.heap.size r.1 r.2) args s 0 0 (gA G s.heap.size)) {H : Heap} {locs : List Loc} {ls : Array Slot} (hw : HW G s.heap V H locs) (hl : lv_has ls 4 [(0, .ref (G.2.2 22)), (1, .int u1), (2, .int u2)]) : W p l e (rmD 4) s m args below meth c H locs 0 0 Q (F0 m 34 ls [.int t0, .ref (G.2.2 22)]) := by
  have hx := en_x E
  have hb := en_b E
  have hB := en_B E
  unfold fX10_spite_j34 at h
  refine lv_iconst (v := (2 : Int32)) hx hb dX10_spite_34 (by decide) ?_
  obtain ⟨y10, V11, h9, h⟩ := ob_I_some h
  refine c_VI E hw (kX10_throwsIf (l := l) (G := G) hB  h9) yy_X10_throwsIf lm_RX10_233 rfl (by decide) rfl rfl hl.1 (by decide) (by decide) rfl (Nat.le_of_ble_eq_true rfl) dX10_spite_35 (fun H locs hw => ?_)
  refine lv_if_eq (tgt := 43) hx hb dX10_spite_38 (by decide) (fun c20 => ?_) (fun c20 => ?_)
  · rw [if_pos c20] at h
    refine lv_aload_n hx hb dX10_spite_43 rfl (lv_at hl 0 rfl) ?_
    obtain ⟨V13, h12, h⟩ := ob_R_some h
    refine c_VV E hw (kX10_remembers (l := l) (G := G) hB  h12) yy_X10_remembers lm_RX10_389 rfl (by decide) rfl rfl hl.1 (by decide) (by decide) rfl (Nat.le_of_ble_eq_true rfl) dX10_spite_44 (fun H locs hw => ?_)
    refine lv_aload_n hx hb dX10_spite_47 rfl (lv_at hl 0 rfl) ?_
    refine lv_iload_n hx hb dX10_spite_48 rfl (lv_at hl 1 rfl) ?_
    refine lv_iconst (v := (5 : Int32)) hx hb dX10_spite_49 (by decide) ?_
    obtain ⟨y15, h14, h⟩ := ob_R_some h
    refine c_VI E hw (kX10_of (l := l) (G := G) hB  h14) yy_X10_of lm_RX10_236 rfl (by decide) rfl rfl hl.1 (by decide) (by decide) rfl (Nat.le_of_ble_eq_true rfl) dX10_spite_50 (fun H locs hw => ?_)
    refine lv_istore_n (lv' := [(3, .int y15), (0, .ref (G.2.2 22)), (1, .int u1), (2, .int u2)]) hx hb dX10_spite_53 rfl hl (by decide) rfl (fun ls hl => ?_)
    refine lv_aload_n hx hb dX10_spite_54 rfl (lv_at hl 1 rfl) ?_
    refine r_gr E hw 22 1 76 (N := 29) (C := RX10) (T := TX10) (by decide) rfl rfl (by decide) rfl iw_10 rfl lf_RX10_13 dX10_spite_55 ?_
    refine lv_iload_n hx hb dX10_spite_58 rfl (lv_at hl 2 rfl) ?_
    refine lv_iconst (v := (5 : Int32)) hx hb dX10_spite_59 (by decide) ?_
    obtain ⟨y17, h16, h⟩ := ob_R_some h
    refine c_SI E hw (kX10_at (l := l) (G := G) hB  h16) yy_X10_at lm_RX10_66 rfl hl.1 (by decide) (by decide) rfl (Nat.le_of_ble_eq_true rfl) dX10_spite_60 (fun H locs hw => ?_)
    refine lv_iload_n hx hb dX10_spite_63 rfl (lv_at hl 3 rfl) ?_
    obtain ⟨b18, h⟩ := rd_some h
    obtain ⟨V19, eV19, h⟩ := lt_some h
    refine r_is E hw 76 1988 (by decide) (by decide) (by decide) rfl rfl b18 eV19 dX10_spite_64 (fun H locs hw => ?_)
    refine lv_iload_n hx hb dX10_spite_65 rfl (lv_at hl 0 rfl) ?_
    have h := Option.some.inj h
    subst h
    rw [kr]
    exact r_ri E hw dX10_spite_66
  · rw [if_neg c20] at h
    refine lv_iconst (v := (0 : Int32)) hx hb dX10_spite_41 (by decide) ?_
    have h := Option.some.inj h
    subst h
    rw [kr]
    exact r_ri E hw dX10_spite_42
set_option maxHeartbeats 4000000 in
set_option maxRecDepth 100000 in
theorem kX10_spite {l : Launch} {G : GT} {B : BGt} (hB : BGok B) {V : VT} {x1 : Int32} {x2 : Int32} {r : (Int32 × VT)} (h : fX10_spite V x1 x2 = some r) : CI l G B yX10_spite (.code yX10_spite cX10_spite 4 (some .int)) 4 [.ref (G.2.2 22), .int x1, .int x2] V r.1 r.2 := by
  intro sz
  refine met_of (Qs := fun sz => QI G sz (r.1) (r.2)) hB (by decide) (Nat.le_of_ble_eq_true rfl) ?_ sz
  intro p e s m args below meth c ls E hw hl
  have hx := en_x E
  have hb := en_b E
  generalize hQ : MQ _ _ _ _ _ _ _ = Q
  have kr : Q = MQ below (QI G s.heap.size r.1 r.2) args s 0 0 (gA G s.heap.size) := hQ.symm
  have hl : lv_has ls 4 [(0, .ref (G.2.2 22)), (1, .int x1), (2, .int x2)] := hl
  obtain ⟨H, eH⟩ : ∃ H, H = s.heap := ⟨_, rfl⟩
  obtain ⟨locs, elocs⟩ : ∃ z : List Loc, z = [] := ⟨_, rfl⟩
  have hw : HW G s.heap V H locs := by rw [eH, elocs]; exact hw
  show W p l e _ s m args below meth c s.heap [] 0 0 Q (F0 m 0 ls [])
  rw [← eH, ← elocs]
  unfold fX10_spite at h
  refine lv_aload_n hx hb dX10_spite_0 rfl (lv_at hl 0 rfl) ?_
  refine lv_iconst (v := (0 : Int32)) hx hb dX10_spite_1 (by decide) ?_
  obtain ⟨V1, eV1, h⟩ := lt_some h
  refine r_pi E hw 22 0 (N := 29) (C := RX10) (T := TX10) (ty0 := tyX10) (ty := .int) (by decide) rfl rfl (by decide) rfl iw_10 rfl tyX10_ok nmX10 rfl rfl (vp_nar_int _) rfl lf_RX10_3 eV1 dX10_spite_2 (fun H locs hw => ?_)
  refine lv_aload_n hx hb dX10_spite_5 rfl (lv_at hl 0 rfl) ?_
  refine lv_aload_n hx hb dX10_spite_6 rfl (lv_at hl 0 rfl) ?_
  refine lv_iload_n hx hb dX10_spite_7 rfl (lv_at hl 1 rfl) ?_
  obtain ⟨y3, h2, h⟩ := ob_R_some h
  refine c_VI E hw (kX10_noHouse (l := l) (G := G) hB  h2) yy_X10_noHouse lm_RX10_309 rfl (by decide) rfl rfl hl.1 (by decide) (by decide) rfl (Nat.le_of_ble_eq_true rfl) dX10_spite_8 (fun H locs hw => ?_)
  refine lv_iconst (v := (1 : Int32)) hx hb dX10_spite_11 (by decide) ?_
  obtain ⟨y5, V6, h4, h⟩ := ob_I_some h
  refine c_VI E hw (kX10_throwsIf (l := l) (G := G) hB  h4) yy_X10_throwsIf lm_RX10_233 rfl (by decide) rfl rfl hl.1 (by decide) (by decide) rfl (Nat.le_of_ble_eq_true rfl) dX10_spite_12 (fun H locs hw => ?_)
  refine lv_if_ne (tgt := 41) hx hb dX10_spite_15 (by decide) (fun c22 => ?_) (fun c22 => ?_)
  · rw [if_neg c22] at h
    refine lv_iconst (v := (0 : Int32)) hx hb dX10_spite_41 (by decide) ?_
    have h := Option.some.inj h
    subst h
    rw [kr]
    exact r_ri E hw dX10_spite_42
  · rw [if_pos c22] at h
    refine lv_aload_n hx hb dX10_spite_18 rfl (lv_at hl 0 rfl) ?_
    refine lv_iload_n hx hb dX10_spite_19 rfl (lv_at hl 2 rfl) ?_
    refine lv_iconst (v := (0 : Int32)) hx hb dX10_spite_20 (by decide) ?_
    refine lv_bipush (v := (9 : Int32)) hx hb dX10_spite_21 (by decide) ?_
    obtain ⟨y8, h7, h⟩ := ob_R_some h
    refine c_SI E hw (kX10_in (l := l) (G := G) hB  h7) yy_X10_in lm_RX10_76 rfl hl.1 (by decide) (by decide) rfl (Nat.le_of_ble_eq_true rfl) dX10_spite_23 (fun H locs hw => ?_)
    refine lv_if_ne (tgt := 33) hx hb dX10_spite_26 (by decide) (fun c21 => ?_) (fun c21 => ?_)
    · rw [if_neg c21] at h
      refine lv_iconst (v := (0 : Int32)) hx hb dX10_spite_33 (by decide) ?_
      exact wX10_spite_j34 E h kr hw (lv_sub hl [0, 1, 2] rfl)
    · rw [if_pos c21] at h
      refine lv_iconst (v := (1 : Int32)) hx hb dX10_spite_29 (by decide) ?_
      refine lv_goto (tgt := 34) hx hb dX10_spite_30 (by decide) ?_
      exact wX10_spite_j34 E h kr hw (lv_sub hl [0, 1, 2] rfl)
/-! ===== AllSawItModel.lodger(I)I ===== -/
theorem dX10_lodger_0 : decode cX10_lodger 0 = .ok (.aload_n 0, 1) := by decide +kernel
theorem dX10_lodger_1 : decode cX10_lodger 1 = .ok (.iconst 0, 1) := by decide +kernel
theorem dX10_lodger_2 : decode cX10_lodger 2 = .ok (.putfield 3, 3) := by decide +kernel
theorem dX10_lodger_5 : decode cX10_lodger 5 = .ok (.aload_n 0, 1) := by decide +kernel
theorem dX10_lodger_6 : decode cX10_lodger 6 = .ok (.aload_n 0, 1) := by decide +kernel
theorem dX10_lodger_7 : decode cX10_lodger 7 = .ok (.iload_n 1, 1) := by decide +kernel
theorem dX10_lodger_8 : decode cX10_lodger 8 = .ok (.invokevirtual 309, 3) := by decide +kernel
theorem dX10_lodger_11 : decode cX10_lodger 11 = .ok (.iconst 1, 1) := by decide +kernel
theorem dX10_lodger_12 : decode cX10_lodger 12 = .ok (.invokevirtual 233, 3) := by decide +kernel
theorem dX10_lodger_15 : decode cX10_lodger 15 = .ok (.ifCond .ne 25, 3) := by decide +kernel
theorem dX10_lodger_18 : decode cX10_lodger 18 = .ok (.aload_n 0, 1) := by decide +kernel
theorem dX10_lodger_19 : decode cX10_lodger 19 = .ok (.aload_n 0, 1) := by decide +kernel
theorem dX10_lodger_20 : decode cX10_lodger 20 = .ok (.invokevirtual 62, 3) := by decide +kernel
theorem dX10_lodger_23 : decode cX10_lodger 23 = .ok (.bipush 8, 2) := by decide +kernel
theorem dX10_lodger_25 : decode cX10_lodger 25 = .ok (.if_icmp .ne 7, 3) := by decide +kernel
theorem dX10_lodger_28 : decode cX10_lodger 28 = .ok (.iconst 1, 1) := by decide +kernel
theorem dX10_lodger_29 : decode cX10_lodger 29 = .ok (.goto 4, 3) := by decide +kernel
theorem dX10_lodger_32 : decode cX10_lodger 32 = .ok (.iconst 0, 1) := by decide +kernel
theorem dX10_lodger_33 : decode cX10_lodger 33 = .ok (.iconst 2, 1) := by decide +kernel
theorem dX10_lodger_34 : decode cX10_lodger 34 = .ok (.invokevirtual 233, 3) := by decide +kernel
theorem dX10_lodger_37 : decode cX10_lodger 37 = .ok (.ifCond .eq 5, 3) := by decide +kernel
theorem dX10_lodger_40 : decode cX10_lodger 40 = .ok (.iconst 0, 1) := by decide +kernel
theorem dX10_lodger_41 : decode cX10_lodger 41 = .ok (.ireturn, 1) := by decide +kernel
theorem dX10_lodger_42 : decode cX10_lodger 42 = .ok (.aload_n 0, 1) := by decide +kernel
theorem dX10_lodger_43 : decode cX10_lodger 43 = .ok (.invokevirtual 389, 3) := by decide +kernel
theorem dX10_lodger_46 : decode cX10_lodger 46 = .ok (.aload_n 0, 1) := by decide +kernel
theorem dX10_lodger_47 : decode cX10_lodger 47 = .ok (.invokevirtual 62, 3) := by decide +kernel
theorem dX10_lodger_50 : decode cX10_lodger 50 = .ok (.istore_n 2, 1) := by decide +kernel
theorem dX10_lodger_51 : decode cX10_lodger 51 = .ok (.iconst 0, 1) := by decide +kernel
theorem dX10_lodger_52 : decode cX10_lodger 52 = .ok (.istore_n 3, 1) := by decide +kernel
theorem dX10_lodger_53 : decode cX10_lodger 53 = .ok (.iload_n 3, 1) := by decide +kernel
theorem dX10_lodger_54 : decode cX10_lodger 54 = .ok (.bipush 8, 2) := by decide +kernel
theorem dX10_lodger_56 : decode cX10_lodger 56 = .ok (.if_icmp .ge 25, 3) := by decide +kernel
theorem dX10_lodger_59 : decode cX10_lodger 59 = .ok (.aload_n 0, 1) := by decide +kernel
theorem dX10_lodger_60 : decode cX10_lodger 60 = .ok (.getfield 13, 3) := by decide +kernel
theorem dX10_lodger_63 : decode cX10_lodger 63 = .ok (.iload_n 2, 1) := by decide +kernel
theorem dX10_lodger_64 : decode cX10_lodger 64 = .ok (.iload_n 3, 1) := by decide +kernel
theorem dX10_lodger_65 : decode cX10_lodger 65 = .ok (.invokestatic 66, 3) := by decide +kernel
theorem dX10_lodger_68 : decode cX10_lodger 68 = .ok (.aload_n 0, 1) := by decide +kernel
theorem dX10_lodger_69 : decode cX10_lodger 69 = .ok (.iload_n 1, 1) := by decide +kernel
theorem dX10_lodger_70 : decode cX10_lodger 70 = .ok (.iload_n 3, 1) := by decide +kernel
theorem dX10_lodger_71 : decode cX10_lodger 71 = .ok (.invokevirtual 236, 3) := by decide +kernel
theorem dX10_lodger_74 : decode cX10_lodger 74 = .ok (.iastore, 1) := by decide +kernel
theorem dX10_lodger_75 : decode cX10_lodger 75 = .ok (.iinc 3 1, 3) := by decide +kernel
theorem dX10_lodger_78 : decode cX10_lodger 78 = .ok (.goto (-25), 3) := by decide +kernel
theorem dX10_lodger_81 : decode cX10_lodger 81 = .ok (.aload_n 0, 1) := by decide +kernel
theorem dX10_lodger_82 : decode cX10_lodger 82 = .ok (.getfield 13, 3) := by decide +kernel
theorem dX10_lodger_85 : decode cX10_lodger 85 = .ok (.iconst 0, 1) := by decide +kernel
theorem dX10_lodger_86 : decode cX10_lodger 86 = .ok (.dup2, 1) := by decide +kernel
theorem dX10_lodger_87 : decode cX10_lodger 87 = .ok (.iaload, 1) := by decide +kernel
theorem dX10_lodger_88 : decode cX10_lodger 88 = .ok (.iconst 1, 1) := by decide +kernel
theorem dX10_lodger_89 : decode cX10_lodger 89 = .ok (.iadd, 1) := by decide +kernel
theorem dX10_lodger_90 : decode cX10_lodger 90 = .ok (.iastore, 1) := by decide +kernel
theorem dX10_lodger_91 : decode cX10_lodger 91 = .ok (.iload_n 2, 1) := by decide +kernel
theorem dX10_lodger_92 : decode cX10_lodger 92 = .ok (.ireturn, 1) := by decide +kernel
noncomputable def fX10_lodger_L53 (V : VT) (u1 : Int32) (u2 : Int32) (u3 : Int32) : Option ((VT × Int32 × Int32 × Int32) ⊕ (Int32 × VT)) := if (8 : Int32) ≤ u3 then (rd_ (0 : Int32) 1988 (rd_ (0 : Int32) 1988 (lt_ (va_up V 76 (upd (V 76) (0 : Int32).toNatClampNeg ((V 76 (0 : Int32).toNatClampNeg) + (1 : Int32)))) fun V18 => some (.inr ((u2, V18)))))) else (ob_R (fX10_at V u2 u3) fun y20 => ob_R (fX10_of V u1 u3) fun y22 => rd_ y20 1988 (lt_ (va_up V 76 (upd (V 76) y20.toNatClampNeg y22)) fun V24 => lt_ (u3 + (1 : Int32)) fun y25 => some (.inl (V24, u1, u2, y25))))
noncomputable def iX10_lodger_L53 : (VT × Int32 × Int32 × Int32) → Option ((VT × Int32 × Int32 × Int32) ⊕ (Int32 × VT)) := fun q => fX10_lodger_L53 (q.1) (q.2.1) (q.2.2.1) (q.2.2.2)
noncomputable def fX10_lodger_j33 (V : VT) (u1 : Int32) (t0 : Int32) : Option (Int32 × VT) := ob_I (fX10_throwsIf V t0 (2 : Int32)) fun y10 V11 => if y10 = 0 then (ob_R (fX10_remembers V11 ) fun V13 => ob_R (fX10_houses V13 ) fun y15 => ob_R (it_ (iX10_lodger_L53) FV (V13, u1, y15, (0 : Int32))) fun x28 => some x28) else (some ((0 : Int32), V11))
noncomputable def fX10_lodger (V : VT) (x1 : Int32) : Option (Int32 × VT) := lt_ (va_up V 22 (upd (V 22) 0 (0 : Int32))) fun V1 => ob_R (fX10_noHouse V1 x1) fun y3 => ob_I (fX10_throwsIf V1 y3 (1 : Int32)) fun y5 V6 => if y5 = 0 then (ob_R (fX10_houses V6 ) fun y8 => if y8 = (8 : Int32) then (fX10_lodger_j33 V6 x1 (1 : Int32)) else (fX10_lodger_j33 V6 x1 (0 : Int32))) else (some ((0 : Int32), V6))
set_option maxHeartbeats 4000000 in
set_option maxRecDepth 100000 in
theorem wX10_lodger_L53 {p : Program} {l : Launch} {e : Env} {s : State} {m : MethodId} {args : Array Value} {below : List Frame} {meth : Method} {c : Code} {G : GT} {B : BGt} {Q : State → Prop} (E : En p s m args c meth cX10_lodger 4 RX10 (some .int) G B) {x : (Int32 × VT)} (kr : ∀ q : (Int32 × VT), x = q → Q = MQ below (QI G s.heap.size q.1 q.2) args s 0 0 (gA G s.heap.size)) : ∀ (n : Nat) (q : (VT × Int32 × Int32 × Int32)), it_ (iX10_lodger_L53) n q = some x → ∀ (H : Heap) (locs : List Loc) (ls : Array Slot), HW G s.heap (q.1) H locs → lv_has ls 4 [(0, .ref (G.2.2 22)), (1, .int (q.2.1)), (2, .int (q.2.2.1)), (3, .int (q.2.2.2))] → W p l e (rmD 4) s m args below meth c H locs 0 0 Q (F0 m 53 ls []) := by
  have hx := en_x E
  have hb := en_b E
  have hB := en_B E
  refine it_W (fun q : (VT × Int32 × Int32 × Int32) => ∀ (H : Heap) (locs : List Loc) (ls : Array Slot), HW G s.heap (q.1) H locs → lv_has ls 4 [(0, .ref (G.2.2 22)), (1, .int (q.2.1)), (2, .int (q.2.2.1)), (3, .int (q.2.2.2))] → W p l e (rmD 4) s m args below meth c H locs 0 0 Q (F0 m 53 ls [])) x ?_
  intro q r h kc kx
  obtain ⟨V, u1, u2, u3⟩ := q
  intro H locs ls hw hl
  have h : fX10_lodger_L53 V u1 u2 u3 = some r := h
  have hw : HW G s.heap V H locs := hw
  have hl : lv_has ls 4 [(0, .ref (G.2.2 22)), (1, .int u1), (2, .int u2), (3, .int u3)] := hl
  have kr : ∀ q : (Int32 × VT), r = .inr (q) → Q = MQ below (QI G s.heap.size q.1 q.2) args s 0 0 (gA G s.heap.size) := fun q e => kr q (kx _ e).symm
  unfold fX10_lodger_L53 at h
  refine lv_iload_n hx hb dX10_lodger_53 rfl (lv_at hl 3 rfl) ?_
  refine lv_bipush (v := (8 : Int32)) hx hb dX10_lodger_54 (by decide) ?_
  refine lv_icmp_ge (tgt := 81) hx hb dX10_lodger_56 (by decide) (fun c26 => ?_) (fun c26 => ?_)
  · rw [if_pos c26] at h
    refine lv_aload_n hx hb dX10_lodger_81 rfl (lv_at hl 0 rfl) ?_
    refine r_gr E hw 22 1 76 (N := 29) (C := RX10) (T := TX10) (by decide) rfl rfl (by decide) rfl iw_10 rfl lf_RX10_13 dX10_lodger_82 ?_
    refine lv_iconst (v := (0 : Int32)) hx hb dX10_lodger_85 (by decide) ?_
    refine lv_dup2_11 hx hb dX10_lodger_86 rfl rfl ?_
    obtain ⟨b16, h⟩ := rd_some h
    refine r_ia E hw 76 1988 (by decide) (by decide) (by decide) rfl rfl b16 dX10_lodger_87 ?_
    refine lv_iconst (v := (1 : Int32)) hx hb dX10_lodger_88 (by decide) ?_
    refine lv_iadd hx hb dX10_lodger_89 ?_
    obtain ⟨b17, h⟩ := rd_some h
    obtain ⟨V18, eV18, h⟩ := lt_some h
    refine r_is E hw 76 1988 (by decide) (by decide) (by decide) rfl rfl b17 eV18 dX10_lodger_90 (fun H locs hw => ?_)
    refine lv_iload_n hx hb dX10_lodger_91 rfl (lv_at hl 2 rfl) ?_
    rw [kr (u2, V18) (Option.some.inj h).symm]
    exact r_ri E hw dX10_lodger_92
  · rw [if_neg c26] at h
    refine lv_aload_n hx hb dX10_lodger_59 rfl (lv_at hl 0 rfl) ?_
    refine r_gr E hw 22 1 76 (N := 29) (C := RX10) (T := TX10) (by decide) rfl rfl (by decide) rfl iw_10 rfl lf_RX10_13 dX10_lodger_60 ?_
    refine lv_iload_n hx hb dX10_lodger_63 rfl (lv_at hl 2 rfl) ?_
    refine lv_iload_n hx hb dX10_lodger_64 rfl (lv_at hl 3 rfl) ?_
    obtain ⟨y20, h19, h⟩ := ob_R_some h
    refine c_SI E hw (kX10_at (l := l) (G := G) hB  h19) yy_X10_at lm_RX10_66 rfl hl.1 (by decide) (by decide) rfl (Nat.le_of_ble_eq_true rfl) dX10_lodger_65 (fun H locs hw => ?_)
    refine lv_aload_n hx hb dX10_lodger_68 rfl (lv_at hl 0 rfl) ?_
    refine lv_iload_n hx hb dX10_lodger_69 rfl (lv_at hl 1 rfl) ?_
    refine lv_iload_n hx hb dX10_lodger_70 rfl (lv_at hl 3 rfl) ?_
    obtain ⟨y22, h21, h⟩ := ob_R_some h
    refine c_VI E hw (kX10_of (l := l) (G := G) hB  h21) yy_X10_of lm_RX10_236 rfl (by decide) rfl rfl hl.1 (by decide) (by decide) rfl (Nat.le_of_ble_eq_true rfl) dX10_lodger_71 (fun H locs hw => ?_)
    obtain ⟨b23, h⟩ := rd_some h
    obtain ⟨V24, eV24, h⟩ := lt_some h
    refine r_is E hw 76 1988 (by decide) (by decide) (by decide) rfl rfl b23 eV24 dX10_lodger_74 (fun H locs hw => ?_)
    obtain ⟨y25, ey25, h⟩ := lt_some h
    refine lv_iinc (v := y25) (lv' := [(3, .int y25), (0, .ref (G.2.2 22)), (1, .int u1), (2, .int u2)]) hx hb dX10_lodger_75 hl (k := 3) rfl (by rw [ey25]; rfl) (by decide) rfl (fun ls hl => ?_)
    refine lv_goto (tgt := 53) hx hb dX10_lodger_78 (by decide) ?_
    exact kc (V24, u1, u2, y25) (Option.some.inj h).symm H locs ls hw (lv_sub hl [1, 2, 3, 0] rfl)
set_option maxHeartbeats 4000000 in
set_option maxRecDepth 100000 in
theorem wX10_lodger_j33 {p : Program} {l : Launch} {e : Env} {s : State} {m : MethodId} {args : Array Value} {below : List Frame} {meth : Method} {c : Code} {G : GT} {B : BGt} {Q : State → Prop} (E : En p s m args c meth cX10_lodger 4 RX10 (some .int) G B) {V : VT} {u1 : Int32} {t0 : Int32} {r : (Int32 × VT)} (h : fX10_lodger_j33 V u1 t0 = some r) (kr : Q = MQ below (QI G s.heap.size r.1 r.2) args s 0 0 (gA G s.heap.size)) {H : Heap} {locs : List Loc} {ls : Array Slot} (hw : HW G s.heap V H locs) (hl : lv_has ls 4 [(0, .ref (G.2.2 22)), (1, .int u1)]) : W p l e (rmD 4) s m args below meth c H locs 0 0 Q (F0 m 33 ls [.int t0, .ref (G.2.2 22)]) := by
  have hx := en_x E
  have hb := en_b E
  have hB := en_B E
  unfold fX10_lodger_j33 at h
  refine lv_iconst (v := (2 : Int32)) hx hb dX10_lodger_33 (by decide) ?_
  obtain ⟨y10, V11, h9, h⟩ := ob_I_some h
  refine c_VI E hw (kX10_throwsIf (l := l) (G := G) hB  h9) yy_X10_throwsIf lm_RX10_233 rfl (by decide) rfl rfl hl.1 (by decide) (by decide) rfl (Nat.le_of_ble_eq_true rfl) dX10_lodger_34 (fun H locs hw => ?_)
  refine lv_if_eq (tgt := 42) hx hb dX10_lodger_37 (by decide) (fun c29 => ?_) (fun c29 => ?_)
  · rw [if_pos c29] at h
    refine lv_aload_n hx hb dX10_lodger_42 rfl (lv_at hl 0 rfl) ?_
    obtain ⟨V13, h12, h⟩ := ob_R_some h
    refine c_VV E hw (kX10_remembers (l := l) (G := G) hB  h12) yy_X10_remembers lm_RX10_389 rfl (by decide) rfl rfl hl.1 (by decide) (by decide) rfl (Nat.le_of_ble_eq_true rfl) dX10_lodger_43 (fun H locs hw => ?_)
    refine lv_aload_n hx hb dX10_lodger_46 rfl (lv_at hl 0 rfl) ?_
    obtain ⟨y15, h14, h⟩ := ob_R_some h
    refine c_VI E hw (kX10_houses (l := l) (G := G) hB  h14) yy_X10_houses lm_RX10_62 rfl (by decide) rfl rfl hl.1 (by decide) (by decide) rfl (Nat.le_of_ble_eq_true rfl) dX10_lodger_47 (fun H locs hw => ?_)
    refine lv_istore_n (lv' := [(2, .int y15), (0, .ref (G.2.2 22)), (1, .int u1)]) hx hb dX10_lodger_50 rfl hl (by decide) rfl (fun ls hl => ?_)
    refine lv_iconst (v := (0 : Int32)) hx hb dX10_lodger_51 (by decide) ?_
    refine lv_istore_n (lv' := [(3, .int (0 : Int32)), (2, .int y15), (0, .ref (G.2.2 22)), (1, .int u1)]) hx hb dX10_lodger_52 rfl hl (by decide) rfl (fun ls hl => ?_)
    obtain ⟨x28, h27, h⟩ := ob_R_some h
    have h := Option.some.inj h
    subst h
    exact wX10_lodger_L53 E (fun q e => by subst e; exact kr) FV (V13, u1, y15, (0 : Int32)) h27 H locs ls hw (lv_sub hl [2, 3, 1, 0] rfl)
  · rw [if_neg c29] at h
    refine lv_iconst (v := (0 : Int32)) hx hb dX10_lodger_40 (by decide) ?_
    have h := Option.some.inj h
    subst h
    rw [kr]
    exact r_ri E hw dX10_lodger_41
set_option maxHeartbeats 4000000 in
set_option maxRecDepth 100000 in
theorem kX10_lodger {l : Launch} {G : GT} {B : BGt} (hB : BGok B) {V : VT} {x1 : Int32} {r : (Int32 × VT)} (h : fX10_lodger V x1 = some r) : CI l G B yX10_lodger (.code yX10_lodger cX10_lodger 4 (some .int)) 4 [.ref (G.2.2 22), .int x1] V r.1 r.2 := by
  intro sz
  refine met_of (Qs := fun sz => QI G sz (r.1) (r.2)) hB (by decide) (Nat.le_of_ble_eq_true rfl) ?_ sz
  intro p e s m args below meth c ls E hw hl
  have hx := en_x E
  have hb := en_b E
  generalize hQ : MQ _ _ _ _ _ _ _ = Q
  have kr : Q = MQ below (QI G s.heap.size r.1 r.2) args s 0 0 (gA G s.heap.size) := hQ.symm
  have hl : lv_has ls 4 [(0, .ref (G.2.2 22)), (1, .int x1)] := hl
  obtain ⟨H, eH⟩ : ∃ H, H = s.heap := ⟨_, rfl⟩
  obtain ⟨locs, elocs⟩ : ∃ z : List Loc, z = [] := ⟨_, rfl⟩
  have hw : HW G s.heap V H locs := by rw [eH, elocs]; exact hw
  show W p l e _ s m args below meth c s.heap [] 0 0 Q (F0 m 0 ls [])
  rw [← eH, ← elocs]
  unfold fX10_lodger at h
  refine lv_aload_n hx hb dX10_lodger_0 rfl (lv_at hl 0 rfl) ?_
  refine lv_iconst (v := (0 : Int32)) hx hb dX10_lodger_1 (by decide) ?_
  obtain ⟨V1, eV1, h⟩ := lt_some h
  refine r_pi E hw 22 0 (N := 29) (C := RX10) (T := TX10) (ty0 := tyX10) (ty := .int) (by decide) rfl rfl (by decide) rfl iw_10 rfl tyX10_ok nmX10 rfl rfl (vp_nar_int _) rfl lf_RX10_3 eV1 dX10_lodger_2 (fun H locs hw => ?_)
  refine lv_aload_n hx hb dX10_lodger_5 rfl (lv_at hl 0 rfl) ?_
  refine lv_aload_n hx hb dX10_lodger_6 rfl (lv_at hl 0 rfl) ?_
  refine lv_iload_n hx hb dX10_lodger_7 rfl (lv_at hl 1 rfl) ?_
  obtain ⟨y3, h2, h⟩ := ob_R_some h
  refine c_VI E hw (kX10_noHouse (l := l) (G := G) hB  h2) yy_X10_noHouse lm_RX10_309 rfl (by decide) rfl rfl hl.1 (by decide) (by decide) rfl (Nat.le_of_ble_eq_true rfl) dX10_lodger_8 (fun H locs hw => ?_)
  refine lv_iconst (v := (1 : Int32)) hx hb dX10_lodger_11 (by decide) ?_
  obtain ⟨y5, V6, h4, h⟩ := ob_I_some h
  refine c_VI E hw (kX10_throwsIf (l := l) (G := G) hB  h4) yy_X10_throwsIf lm_RX10_233 rfl (by decide) rfl rfl hl.1 (by decide) (by decide) rfl (Nat.le_of_ble_eq_true rfl) dX10_lodger_12 (fun H locs hw => ?_)
  refine lv_if_ne (tgt := 40) hx hb dX10_lodger_15 (by decide) (fun c31 => ?_) (fun c31 => ?_)
  · rw [if_neg c31] at h
    refine lv_iconst (v := (0 : Int32)) hx hb dX10_lodger_40 (by decide) ?_
    have h := Option.some.inj h
    subst h
    rw [kr]
    exact r_ri E hw dX10_lodger_41
  · rw [if_pos c31] at h
    refine lv_aload_n hx hb dX10_lodger_18 rfl (lv_at hl 0 rfl) ?_
    refine lv_aload_n hx hb dX10_lodger_19 rfl (lv_at hl 0 rfl) ?_
    obtain ⟨y8, h7, h⟩ := ob_R_some h
    refine c_VI E hw (kX10_houses (l := l) (G := G) hB  h7) yy_X10_houses lm_RX10_62 rfl (by decide) rfl rfl hl.1 (by decide) (by decide) rfl (Nat.le_of_ble_eq_true rfl) dX10_lodger_20 (fun H locs hw => ?_)
    refine lv_bipush (v := (8 : Int32)) hx hb dX10_lodger_23 (by decide) ?_
    refine lv_icmp_ne (tgt := 32) hx hb dX10_lodger_25 (by decide) (fun c30 => ?_) (fun c30 => ?_)
    · rw [if_neg c30] at h
      refine lv_iconst (v := (0 : Int32)) hx hb dX10_lodger_32 (by decide) ?_
      exact wX10_lodger_j33 E h kr hw (lv_sub hl [0, 1] rfl)
    · rw [if_pos c30] at h
      refine lv_iconst (v := (1 : Int32)) hx hb dX10_lodger_28 (by decide) ?_
      refine lv_goto (tgt := 33) hx hb dX10_lodger_29 (by decide) ?_
      exact wX10_lodger_j33 E h kr hw (lv_sub hl [0, 1] rfl)
/-! ===== AllSawItModel.days(I)I ===== -/
theorem dX10_days_0 : decode cX10_days 0 = .ok (.aload_n 0, 1) := by decide +kernel
theorem dX10_days_1 : decode cX10_days 1 = .ok (.iconst 0, 1) := by decide +kernel
theorem dX10_days_2 : decode cX10_days 2 = .ok (.putfield 3, 3) := by decide +kernel
theorem dX10_days_5 : decode cX10_days 5 = .ok (.aload_n 0, 1) := by decide +kernel
theorem dX10_days_6 : decode cX10_days 6 = .ok (.iload_n 1, 1) := by decide +kernel
theorem dX10_days_7 : decode cX10_days 7 = .ok (.iconst 1, 1) := by decide +kernel
theorem dX10_days_8 : decode cX10_days 8 = .ok (.bipush 60, 2) := by decide +kernel
theorem dX10_days_10 : decode cX10_days 10 = .ok (.invokestatic 76, 3) := by decide +kernel
theorem dX10_days_13 : decode cX10_days 13 = .ok (.ifCond .ne 7, 3) := by decide +kernel
theorem dX10_days_16 : decode cX10_days 16 = .ok (.iconst 1, 1) := by decide +kernel
theorem dX10_days_17 : decode cX10_days 17 = .ok (.goto 4, 3) := by decide +kernel
theorem dX10_days_20 : decode cX10_days 20 = .ok (.iconst 0, 1) := by decide +kernel
theorem dX10_days_21 : decode cX10_days 21 = .ok (.iconst 1, 1) := by decide +kernel
theorem dX10_days_22 : decode cX10_days 22 = .ok (.invokevirtual 233, 3) := by decide +kernel
theorem dX10_days_25 : decode cX10_days 25 = .ok (.ifCond .eq 5, 3) := by decide +kernel
theorem dX10_days_28 : decode cX10_days 28 = .ok (.iconst 0, 1) := by decide +kernel
theorem dX10_days_29 : decode cX10_days 29 = .ok (.ireturn, 1) := by decide +kernel
theorem dX10_days_30 : decode cX10_days 30 = .ok (.aload_n 0, 1) := by decide +kernel
theorem dX10_days_31 : decode cX10_days 31 = .ok (.invokevirtual 389, 3) := by decide +kernel
theorem dX10_days_34 : decode cX10_days 34 = .ok (.aload_n 0, 1) := by decide +kernel
theorem dX10_days_35 : decode cX10_days 35 = .ok (.getfield 13, 3) := by decide +kernel
theorem dX10_days_38 : decode cX10_days 38 = .ok (.bipush 7, 2) := by decide +kernel
theorem dX10_days_40 : decode cX10_days 40 = .ok (.iaload, 1) := by decide +kernel
theorem dX10_days_41 : decode cX10_days 41 = .ok (.istore_n 2, 1) := by decide +kernel
theorem dX10_days_42 : decode cX10_days 42 = .ok (.iconst 0, 1) := by decide +kernel
theorem dX10_days_43 : decode cX10_days 43 = .ok (.istore_n 3, 1) := by decide +kernel
theorem dX10_days_44 : decode cX10_days 44 = .ok (.iload_n 3, 1) := by decide +kernel
theorem dX10_days_45 : decode cX10_days 45 = .ok (.iload_n 1, 1) := by decide +kernel
theorem dX10_days_46 : decode cX10_days 46 = .ok (.if_icmp .ge 13, 3) := by decide +kernel
theorem dX10_days_49 : decode cX10_days 49 = .ok (.aload_n 0, 1) := by decide +kernel
theorem dX10_days_50 : decode cX10_days 50 = .ok (.invokevirtual 392, 3) := by decide +kernel
theorem dX10_days_53 : decode cX10_days 53 = .ok (.iinc 3 1, 3) := by decide +kernel
theorem dX10_days_56 : decode cX10_days 56 = .ok (.goto (-12), 3) := by decide +kernel
theorem dX10_days_59 : decode cX10_days 59 = .ok (.aload_n 0, 1) := by decide +kernel
theorem dX10_days_60 : decode cX10_days 60 = .ok (.getfield 13, 3) := by decide +kernel
theorem dX10_days_63 : decode cX10_days 63 = .ok (.bipush 7, 2) := by decide +kernel
theorem dX10_days_65 : decode cX10_days 65 = .ok (.iaload, 1) := by decide +kernel
theorem dX10_days_66 : decode cX10_days 66 = .ok (.iload_n 2, 1) := by decide +kernel
theorem dX10_days_67 : decode cX10_days 67 = .ok (.isub, 1) := by decide +kernel
theorem dX10_days_68 : decode cX10_days 68 = .ok (.ireturn, 1) := by decide +kernel
noncomputable def fX10_days_L44 (V : VT) (u1 : Int32) (u2 : Int32) (u3 : Int32) : Option ((VT × Int32 × Int32 × Int32) ⊕ (Int32 × VT)) := if u1 ≤ u3 then (rd_ (7 : Int32) 1988 (some (.inr ((((V 76 (7 : Int32).toNatClampNeg) - u2), V))))) else (ob_R (fX10_drawnDay V ) fun V13 => lt_ (u3 + (1 : Int32)) fun y14 => some (.inl (V13, u1, u2, y14)))
noncomputable def iX10_days_L44 : (VT × Int32 × Int32 × Int32) → Option ((VT × Int32 × Int32 × Int32) ⊕ (Int32 × VT)) := fun q => fX10_days_L44 (q.1) (q.2.1) (q.2.2.1) (q.2.2.2)
noncomputable def fX10_days_j21 (V : VT) (u1 : Int32) (t0 : Int32) : Option (Int32 × VT) := ob_I (fX10_throwsIf V t0 (1 : Int32)) fun y5 V6 => if y5 = 0 then (ob_R (fX10_remembers V6 ) fun V8 => rd_ (7 : Int32) 1988 (lt_ (V8 76 (7 : Int32).toNatClampNeg) fun y10 => ob_R (it_ (iX10_days_L44) FV (V8, u1, y10, (0 : Int32))) fun x17 => some x17)) else (some ((0 : Int32), V6))
noncomputable def fX10_days (V : VT) (x1 : Int32) : Option (Int32 × VT) := lt_ (va_up V 22 (upd (V 22) 0 (0 : Int32))) fun V1 => ob_R (fX10_in V1 x1 (1 : Int32) (60 : Int32)) fun y3 => if y3 = 0 then (fX10_days_j21 V1 x1 (1 : Int32)) else (fX10_days_j21 V1 x1 (0 : Int32))
set_option maxHeartbeats 4000000 in
set_option maxRecDepth 100000 in
theorem wX10_days_L44 {p : Program} {l : Launch} {e : Env} {s : State} {m : MethodId} {args : Array Value} {below : List Frame} {meth : Method} {c : Code} {G : GT} {B : BGt} {Q : State → Prop} (E : En p s m args c meth cX10_days 4 RX10 (some .int) G B) {x : (Int32 × VT)} (kr : ∀ q : (Int32 × VT), x = q → Q = MQ below (QI G s.heap.size q.1 q.2) args s 0 0 (gA G s.heap.size)) : ∀ (n : Nat) (q : (VT × Int32 × Int32 × Int32)), it_ (iX10_days_L44) n q = some x → ∀ (H : Heap) (locs : List Loc) (ls : Array Slot), HW G s.heap (q.1) H locs → lv_has ls 4 [(0, .ref (G.2.2 22)), (1, .int (q.2.1)), (2, .int (q.2.2.1)), (3, .int (q.2.2.2))] → W p l e (rmD 16) s m args below meth c H locs 0 0 Q (F0 m 44 ls []) := by
  have hx := en_x E
  have hb := en_b E
  have hB := en_B E
  refine it_W (fun q : (VT × Int32 × Int32 × Int32) => ∀ (H : Heap) (locs : List Loc) (ls : Array Slot), HW G s.heap (q.1) H locs → lv_has ls 4 [(0, .ref (G.2.2 22)), (1, .int (q.2.1)), (2, .int (q.2.2.1)), (3, .int (q.2.2.2))] → W p l e (rmD 16) s m args below meth c H locs 0 0 Q (F0 m 44 ls [])) x ?_
  intro q r h kc kx
  obtain ⟨V, u1, u2, u3⟩ := q
  intro H locs ls hw hl
  have h : fX10_days_L44 V u1 u2 u3 = some r := h
  have hw : HW G s.heap V H locs := hw
  have hl : lv_has ls 4 [(0, .ref (G.2.2 22)), (1, .int u1), (2, .int u2), (3, .int u3)] := hl
  have kr : ∀ q : (Int32 × VT), r = .inr (q) → Q = MQ below (QI G s.heap.size q.1 q.2) args s 0 0 (gA G s.heap.size) := fun q e => kr q (kx _ e).symm
  unfold fX10_days_L44 at h
  refine lv_iload_n hx hb dX10_days_44 rfl (lv_at hl 3 rfl) ?_
  refine lv_iload_n hx hb dX10_days_45 rfl (lv_at hl 1 rfl) ?_
  refine lv_icmp_ge (tgt := 59) hx hb dX10_days_46 (by decide) (fun c15 => ?_) (fun c15 => ?_)
  · rw [if_pos c15] at h
    refine lv_aload_n hx hb dX10_days_59 rfl (lv_at hl 0 rfl) ?_
    refine r_gr E hw 22 1 76 (N := 29) (C := RX10) (T := TX10) (by decide) rfl rfl (by decide) rfl iw_10 rfl lf_RX10_13 dX10_days_60 ?_
    refine lv_bipush (v := (7 : Int32)) hx hb dX10_days_63 (by decide) ?_
    obtain ⟨b11, h⟩ := rd_some h
    refine r_ia E hw 76 1988 (by decide) (by decide) (by decide) rfl rfl b11 dX10_days_65 ?_
    refine lv_iload_n hx hb dX10_days_66 rfl (lv_at hl 2 rfl) ?_
    refine lv_isub hx hb dX10_days_67 ?_
    rw [kr (((V 76 (7 : Int32).toNatClampNeg) - u2), V) (Option.some.inj h).symm]
    exact r_ri E hw dX10_days_68
  · rw [if_neg c15] at h
    refine lv_aload_n hx hb dX10_days_49 rfl (lv_at hl 0 rfl) ?_
    obtain ⟨V13, h12, h⟩ := ob_R_some h
    refine c_VV E hw (kX10_drawnDay (l := l) (G := G) hB  h12) yy_X10_drawnDay lm_RX10_392 rfl (by decide) rfl rfl hl.1 (by decide) (by decide) rfl (Nat.le_of_ble_eq_true rfl) dX10_days_50 (fun H locs hw => ?_)
    obtain ⟨y14, ey14, h⟩ := lt_some h
    refine lv_iinc (v := y14) (lv' := [(3, .int y14), (0, .ref (G.2.2 22)), (1, .int u1), (2, .int u2)]) hx hb dX10_days_53 hl (k := 3) rfl (by rw [ey14]; rfl) (by decide) rfl (fun ls hl => ?_)
    refine lv_goto (tgt := 44) hx hb dX10_days_56 (by decide) ?_
    exact kc (V13, u1, u2, y14) (Option.some.inj h).symm H locs ls hw (lv_sub hl [1, 2, 3, 0] rfl)
set_option maxHeartbeats 4000000 in
set_option maxRecDepth 100000 in
theorem wX10_days_j21 {p : Program} {l : Launch} {e : Env} {s : State} {m : MethodId} {args : Array Value} {below : List Frame} {meth : Method} {c : Code} {G : GT} {B : BGt} {Q : State → Prop} (E : En p s m args c meth cX10_days 4 RX10 (some .int) G B) {V : VT} {u1 : Int32} {t0 : Int32} {r : (Int32 × VT)} (h : fX10_days_j21 V u1 t0 = some r) (kr : Q = MQ below (QI G s.heap.size r.1 r.2) args s 0 0 (gA G s.heap.size)) {H : Heap} {locs : List Loc} {ls : Array Slot} (hw : HW G s.heap V H locs) (hl : lv_has ls 4 [(0, .ref (G.2.2 22)), (1, .int u1)]) : W p l e (rmD 16) s m args below meth c H locs 0 0 Q (F0 m 21 ls [.int t0, .ref (G.2.2 22)]) := by
  have hx := en_x E
  have hb := en_b E
  have hB := en_B E
  unfold fX10_days_j21 at h
  refine lv_iconst (v := (1 : Int32)) hx hb dX10_days_21 (by decide) ?_
  obtain ⟨y5, V6, h4, h⟩ := ob_I_some h
  refine c_VI E hw (kX10_throwsIf (l := l) (G := G) hB  h4) yy_X10_throwsIf lm_RX10_233 rfl (by decide) rfl rfl hl.1 (by decide) (by decide) rfl (Nat.le_of_ble_eq_true rfl) dX10_days_22 (fun H locs hw => ?_)
  refine lv_if_eq (tgt := 30) hx hb dX10_days_25 (by decide) (fun c18 => ?_) (fun c18 => ?_)
  · rw [if_pos c18] at h
    refine lv_aload_n hx hb dX10_days_30 rfl (lv_at hl 0 rfl) ?_
    obtain ⟨V8, h7, h⟩ := ob_R_some h
    refine c_VV E hw (kX10_remembers (l := l) (G := G) hB  h7) yy_X10_remembers lm_RX10_389 rfl (by decide) rfl rfl hl.1 (by decide) (by decide) rfl (Nat.le_of_ble_eq_true rfl) dX10_days_31 (fun H locs hw => ?_)
    refine lv_aload_n hx hb dX10_days_34 rfl (lv_at hl 0 rfl) ?_
    refine r_gr E hw 22 1 76 (N := 29) (C := RX10) (T := TX10) (by decide) rfl rfl (by decide) rfl iw_10 rfl lf_RX10_13 dX10_days_35 ?_
    refine lv_bipush (v := (7 : Int32)) hx hb dX10_days_38 (by decide) ?_
    obtain ⟨b9, h⟩ := rd_some h
    refine r_ia E hw 76 1988 (by decide) (by decide) (by decide) rfl rfl b9 dX10_days_40 ?_
    obtain ⟨y10, ey10, h⟩ := lt_some h
    refine lv_eqi ey10 ?_
    refine lv_istore_n (lv' := [(2, .int y10), (0, .ref (G.2.2 22)), (1, .int u1)]) hx hb dX10_days_41 rfl hl (by decide) rfl (fun ls hl => ?_)
    refine lv_iconst (v := (0 : Int32)) hx hb dX10_days_42 (by decide) ?_
    refine lv_istore_n (lv' := [(3, .int (0 : Int32)), (2, .int y10), (0, .ref (G.2.2 22)), (1, .int u1)]) hx hb dX10_days_43 rfl hl (by decide) rfl (fun ls hl => ?_)
    obtain ⟨x17, h16, h⟩ := ob_R_some h
    have h := Option.some.inj h
    subst h
    exact wX10_days_L44 E (fun q e => by subst e; exact kr) FV (V8, u1, y10, (0 : Int32)) h16 H locs ls hw (lv_sub hl [2, 3, 1, 0] rfl)
  · rw [if_neg c18] at h
    refine lv_iconst (v := (0 : Int32)) hx hb dX10_days_28 (by decide) ?_
    have h := Option.some.inj h
    subst h
    rw [kr]
    exact r_ri E hw dX10_days_29
set_option maxHeartbeats 4000000 in
set_option maxRecDepth 100000 in
theorem kX10_days {l : Launch} {G : GT} {B : BGt} (hB : BGok B) {V : VT} {x1 : Int32} {r : (Int32 × VT)} (h : fX10_days V x1 = some r) : CI l G B yX10_days (.code yX10_days cX10_days 4 (some .int)) 16 [.ref (G.2.2 22), .int x1] V r.1 r.2 := by
  intro sz
  refine met_of (Qs := fun sz => QI G sz (r.1) (r.2)) hB (by decide) (Nat.le_of_ble_eq_true rfl) ?_ sz
  intro p e s m args below meth c ls E hw hl
  have hx := en_x E
  have hb := en_b E
  generalize hQ : MQ _ _ _ _ _ _ _ = Q
  have kr : Q = MQ below (QI G s.heap.size r.1 r.2) args s 0 0 (gA G s.heap.size) := hQ.symm
  have hl : lv_has ls 4 [(0, .ref (G.2.2 22)), (1, .int x1)] := hl
  obtain ⟨H, eH⟩ : ∃ H, H = s.heap := ⟨_, rfl⟩
  obtain ⟨locs, elocs⟩ : ∃ z : List Loc, z = [] := ⟨_, rfl⟩
  have hw : HW G s.heap V H locs := by rw [eH, elocs]; exact hw
  show W p l e _ s m args below meth c s.heap [] 0 0 Q (F0 m 0 ls [])
  rw [← eH, ← elocs]
  unfold fX10_days at h
  refine lv_aload_n hx hb dX10_days_0 rfl (lv_at hl 0 rfl) ?_
  refine lv_iconst (v := (0 : Int32)) hx hb dX10_days_1 (by decide) ?_
  obtain ⟨V1, eV1, h⟩ := lt_some h
  refine r_pi E hw 22 0 (N := 29) (C := RX10) (T := TX10) (ty0 := tyX10) (ty := .int) (by decide) rfl rfl (by decide) rfl iw_10 rfl tyX10_ok nmX10 rfl rfl (vp_nar_int _) rfl lf_RX10_3 eV1 dX10_days_2 (fun H locs hw => ?_)
  refine lv_aload_n hx hb dX10_days_5 rfl (lv_at hl 0 rfl) ?_
  refine lv_iload_n hx hb dX10_days_6 rfl (lv_at hl 1 rfl) ?_
  refine lv_iconst (v := (1 : Int32)) hx hb dX10_days_7 (by decide) ?_
  refine lv_bipush (v := (60 : Int32)) hx hb dX10_days_8 (by decide) ?_
  obtain ⟨y3, h2, h⟩ := ob_R_some h
  refine c_SI E hw (kX10_in (l := l) (G := G) hB  h2) yy_X10_in lm_RX10_76 rfl hl.1 (by decide) (by decide) rfl (Nat.le_of_ble_eq_true rfl) dX10_days_10 (fun H locs hw => ?_)
  refine lv_if_ne (tgt := 20) hx hb dX10_days_13 (by decide) (fun c19 => ?_) (fun c19 => ?_)
  · rw [if_neg c19] at h
    refine lv_iconst (v := (0 : Int32)) hx hb dX10_days_20 (by decide) ?_
    exact wX10_days_j21 E h kr hw (lv_sub hl [0, 1] rfl)
  · rw [if_pos c19] at h
    refine lv_iconst (v := (1 : Int32)) hx hb dX10_days_16 (by decide) ?_
    refine lv_goto (tgt := 21) hx hb dX10_days_17 (by decide) ?_
    exact wX10_days_j21 E h kr hw (lv_sub hl [0, 1] rfl)
/-! ===== AllSawItModel.soOnes()I ===== -/
theorem dX10_soOnes_0 : decode cX10_soOnes 0 = .ok (.iconst 0, 1) := by decide +kernel
theorem dX10_soOnes_1 : decode cX10_soOnes 1 = .ok (.istore_n 1, 1) := by decide +kernel
theorem dX10_soOnes_2 : decode cX10_soOnes 2 = .ok (.iconst 0, 1) := by decide +kernel
theorem dX10_soOnes_3 : decode cX10_soOnes 3 = .ok (.istore_n 2, 1) := by decide +kernel
theorem dX10_soOnes_4 : decode cX10_soOnes 4 = .ok (.iload_n 2, 1) := by decide +kernel
theorem dX10_soOnes_5 : decode cX10_soOnes 5 = .ok (.aload_n 0, 1) := by decide +kernel
theorem dX10_soOnes_6 : decode cX10_soOnes 6 = .ok (.invokevirtual 80, 3) := by decide +kernel
theorem dX10_soOnes_9 : decode cX10_soOnes 9 = .ok (.if_icmp .ge 27, 3) := by decide +kernel
theorem dX10_soOnes_12 : decode cX10_soOnes 12 = .ok (.iload_n 1, 1) := by decide +kernel
theorem dX10_soOnes_13 : decode cX10_soOnes 13 = .ok (.aload_n 0, 1) := by decide +kernel
theorem dX10_soOnes_14 : decode cX10_soOnes 14 = .ok (.iload_n 2, 1) := by decide +kernel
theorem dX10_soOnes_15 : decode cX10_soOnes 15 = .ok (.invokevirtual 340, 3) := by decide +kernel
theorem dX10_soOnes_18 : decode cX10_soOnes 18 = .ok (.ifCond .eq 9, 3) := by decide +kernel
theorem dX10_soOnes_21 : decode cX10_soOnes 21 = .ok (.iconst 1, 1) := by decide +kernel
theorem dX10_soOnes_22 : decode cX10_soOnes 22 = .ok (.iload_n 2, 1) := by decide +kernel
theorem dX10_soOnes_23 : decode cX10_soOnes 23 = .ok (.ishl, 1) := by decide +kernel
theorem dX10_soOnes_24 : decode cX10_soOnes 24 = .ok (.goto 4, 3) := by decide +kernel
theorem dX10_soOnes_27 : decode cX10_soOnes 27 = .ok (.iconst 0, 1) := by decide +kernel
theorem dX10_soOnes_28 : decode cX10_soOnes 28 = .ok (.ior, 1) := by decide +kernel
theorem dX10_soOnes_29 : decode cX10_soOnes 29 = .ok (.istore_n 1, 1) := by decide +kernel
theorem dX10_soOnes_30 : decode cX10_soOnes 30 = .ok (.iinc 2 1, 3) := by decide +kernel
theorem dX10_soOnes_33 : decode cX10_soOnes 33 = .ok (.goto (-29), 3) := by decide +kernel
theorem dX10_soOnes_36 : decode cX10_soOnes 36 = .ok (.iload_n 1, 1) := by decide +kernel
theorem dX10_soOnes_37 : decode cX10_soOnes 37 = .ok (.ireturn, 1) := by decide +kernel
noncomputable def fX10_soOnes_L4 (V : VT) (u1 : Int32) (u2 : Int32) : Option ((Int32 × Int32) ⊕ Int32) := ob_R (fX10_deeds V ) fun y2 => if y2 ≤ u2 then (some (.inr (u1))) else (ob_R (fX10_isSo V u2) fun y4 => if y4 = 0 then (lt_ (u1 ||| (0 : Int32)) fun y5 => lt_ (u2 + (1 : Int32)) fun y6 => some (.inl (y5, y6))) else (lt_ (u1 ||| ((1 : Int32) <<< (u2 &&& 31))) fun y7 => lt_ (u2 + (1 : Int32)) fun y8 => some (.inl (y7, y8))))
noncomputable def iX10_soOnes_L4 (V : VT) : (Int32 × Int32) → Option ((Int32 × Int32) ⊕ Int32) := fun q => fX10_soOnes_L4 V (q.1) (q.2)
noncomputable def fX10_soOnes (V : VT) : Option Int32 := ob_R (it_ (iX10_soOnes_L4 V) FV ((0 : Int32), (0 : Int32))) fun x12 => some x12
set_option maxHeartbeats 4000000 in
set_option maxRecDepth 100000 in
theorem wX10_soOnes_L4 {p : Program} {l : Launch} {e : Env} {s : State} {m : MethodId} {args : Array Value} {below : List Frame} {meth : Method} {c : Code} {G : GT} {B : BGt} {Q : State → Prop} (E : En p s m args c meth cX10_soOnes 3 RX10 (some .int) G B) {V : VT} {x : Int32} (kr : ∀ q : Int32, x = q → Q = MQ below (QI G s.heap.size q V) args s 0 0 (gA G s.heap.size)) : ∀ (n : Nat) (q : (Int32 × Int32)), it_ (iX10_soOnes_L4 V) n q = some x → ∀ (H : Heap) (locs : List Loc) (ls : Array Slot), HW G s.heap V H locs → lv_has ls 3 [(0, .ref (G.2.2 22)), (1, .int (q.1)), (2, .int (q.2))] → W p l e (rmD 5) s m args below meth c H locs 0 0 Q (F0 m 4 ls []) := by
  have hx := en_x E
  have hb := en_b E
  have hB := en_B E
  refine it_W (fun q : (Int32 × Int32) => ∀ (H : Heap) (locs : List Loc) (ls : Array Slot), HW G s.heap V H locs → lv_has ls 3 [(0, .ref (G.2.2 22)), (1, .int (q.1)), (2, .int (q.2))] → W p l e (rmD 5) s m args below meth c H locs 0 0 Q (F0 m 4 ls [])) x ?_
  intro q r h kc kx
  obtain ⟨u1, u2⟩ := q
  intro H locs ls hw hl
  have h : fX10_soOnes_L4 V u1 u2 = some r := h
  have hw : HW G s.heap V H locs := hw
  have hl : lv_has ls 3 [(0, .ref (G.2.2 22)), (1, .int u1), (2, .int u2)] := hl
  have kr : ∀ q : Int32, r = .inr (q) → Q = MQ below (QI G s.heap.size q V) args s 0 0 (gA G s.heap.size) := fun q e => kr q (kx _ e).symm
  unfold fX10_soOnes_L4 at h
  refine lv_iload_n hx hb dX10_soOnes_4 rfl (lv_at hl 2 rfl) ?_
  refine lv_aload_n hx hb dX10_soOnes_5 rfl (lv_at hl 0 rfl) ?_
  obtain ⟨y2, h1, h⟩ := ob_R_some h
  refine c_VI E hw (kX10_deeds (l := l) (G := G) hB  h1) yy_X10_deeds lm_RX10_80 rfl (by decide) rfl rfl hl.1 (by decide) (by decide) rfl (Nat.le_of_ble_eq_true rfl) dX10_soOnes_6 (fun H locs hw => ?_)
  refine lv_icmp_ge (tgt := 36) hx hb dX10_soOnes_9 (by decide) (fun c10 => ?_) (fun c10 => ?_)
  · rw [if_pos c10] at h
    refine lv_iload_n hx hb dX10_soOnes_36 rfl (lv_at hl 1 rfl) ?_
    rw [kr u1 (Option.some.inj h).symm]
    exact r_ri E hw dX10_soOnes_37
  · rw [if_neg c10] at h
    refine lv_iload_n hx hb dX10_soOnes_12 rfl (lv_at hl 1 rfl) ?_
    refine lv_aload_n hx hb dX10_soOnes_13 rfl (lv_at hl 0 rfl) ?_
    refine lv_iload_n hx hb dX10_soOnes_14 rfl (lv_at hl 2 rfl) ?_
    obtain ⟨y4, h3, h⟩ := ob_R_some h
    refine c_VI E hw (kX10_isSo (l := l) (G := G) hB  h3) yy_X10_isSo lm_RX10_340 rfl (by decide) rfl rfl hl.1 (by decide) (by decide) rfl (Nat.le_of_ble_eq_true rfl) dX10_soOnes_15 (fun H locs hw => ?_)
    refine lv_if_eq (tgt := 27) hx hb dX10_soOnes_18 (by decide) (fun c9 => ?_) (fun c9 => ?_)
    · rw [if_pos c9] at h
      refine lv_iconst (v := (0 : Int32)) hx hb dX10_soOnes_27 (by decide) ?_
      refine lv_ior hx hb dX10_soOnes_28 ?_
      obtain ⟨y5, ey5, h⟩ := lt_some h
      refine lv_eqi ey5 ?_
      refine lv_istore_n (lv' := [(1, .int y5), (0, .ref (G.2.2 22)), (2, .int u2)]) hx hb dX10_soOnes_29 rfl hl (by decide) rfl (fun ls hl => ?_)
      obtain ⟨y6, ey6, h⟩ := lt_some h
      refine lv_iinc (v := y6) (lv' := [(2, .int y6), (1, .int y5), (0, .ref (G.2.2 22))]) hx hb dX10_soOnes_30 hl (k := 2) rfl (by rw [ey6]; rfl) (by decide) rfl (fun ls hl => ?_)
      refine lv_goto (tgt := 4) hx hb dX10_soOnes_33 (by decide) ?_
      exact kc (y5, y6) (Option.some.inj h).symm H locs ls hw (lv_sub hl [2, 1, 0] rfl)
    · rw [if_neg c9] at h
      refine lv_iconst (v := (1 : Int32)) hx hb dX10_soOnes_21 (by decide) ?_
      refine lv_iload_n hx hb dX10_soOnes_22 rfl (lv_at hl 2 rfl) ?_
      refine lv_ishl hx hb dX10_soOnes_23 ?_
      refine lv_goto (tgt := 28) hx hb dX10_soOnes_24 (by decide) ?_
      refine lv_ior hx hb dX10_soOnes_28 ?_
      obtain ⟨y7, ey7, h⟩ := lt_some h
      refine lv_eqi ey7 ?_
      refine lv_istore_n (lv' := [(1, .int y7), (0, .ref (G.2.2 22)), (2, .int u2)]) hx hb dX10_soOnes_29 rfl hl (by decide) rfl (fun ls hl => ?_)
      obtain ⟨y8, ey8, h⟩ := lt_some h
      refine lv_iinc (v := y8) (lv' := [(2, .int y8), (1, .int y7), (0, .ref (G.2.2 22))]) hx hb dX10_soOnes_30 hl (k := 2) rfl (by rw [ey8]; rfl) (by decide) rfl (fun ls hl => ?_)
      refine lv_goto (tgt := 4) hx hb dX10_soOnes_33 (by decide) ?_
      exact kc (y7, y8) (Option.some.inj h).symm H locs ls hw (lv_sub hl [2, 1, 0] rfl)
set_option maxHeartbeats 4000000 in
set_option maxRecDepth 100000 in
theorem kX10_soOnes {l : Launch} {G : GT} {B : BGt} (hB : BGok B) {V : VT} {r : Int32} (h : fX10_soOnes V = some r) : CI l G B yX10_soOnes (.code yX10_soOnes cX10_soOnes 3 (some .int)) 5 [.ref (G.2.2 22)] V r V := by
  intro sz
  refine met_of (Qs := fun sz => QI G sz r V) hB (by decide) (Nat.le_of_ble_eq_true rfl) ?_ sz
  intro p e s m args below meth c ls E hw hl
  have hx := en_x E
  have hb := en_b E
  generalize hQ : MQ _ _ _ _ _ _ _ = Q
  have kr : Q = MQ below (QI G s.heap.size r V) args s 0 0 (gA G s.heap.size) := hQ.symm
  have hl : lv_has ls 3 [(0, .ref (G.2.2 22))] := hl
  obtain ⟨H, eH⟩ : ∃ H, H = s.heap := ⟨_, rfl⟩
  obtain ⟨locs, elocs⟩ : ∃ z : List Loc, z = [] := ⟨_, rfl⟩
  have hw : HW G s.heap V H locs := by rw [eH, elocs]; exact hw
  show W p l e _ s m args below meth c s.heap [] 0 0 Q (F0 m 0 ls [])
  rw [← eH, ← elocs]
  unfold fX10_soOnes at h
  refine lv_iconst (v := (0 : Int32)) hx hb dX10_soOnes_0 (by decide) ?_
  refine lv_istore_n (lv' := [(1, .int (0 : Int32)), (0, .ref (G.2.2 22))]) hx hb dX10_soOnes_1 rfl hl (by decide) rfl (fun ls hl => ?_)
  refine lv_iconst (v := (0 : Int32)) hx hb dX10_soOnes_2 (by decide) ?_
  refine lv_istore_n (lv' := [(2, .int (0 : Int32)), (1, .int (0 : Int32)), (0, .ref (G.2.2 22))]) hx hb dX10_soOnes_3 rfl hl (by decide) rfl (fun ls hl => ?_)
  obtain ⟨x12, h11, h⟩ := ob_R_some h
  have h := Option.some.inj h
  subst h
  exact wX10_soOnes_L4 E (fun q e => by subst e; exact kr) FV ((0 : Int32), (0 : Int32)) h11 H locs ls hw (lv_sub hl [2, 1, 0] rfl)
/-! ===== AllSawItModel.soonestOf(II)I ===== -/
theorem dX10_soonestOf_0 : decode cX10_soonestOf 0 = .ok (.aload_n 0, 1) := by decide +kernel
theorem dX10_soonestOf_1 : decode cX10_soonestOf 1 = .ok (.iload_n 1, 1) := by decide +kernel
theorem dX10_soonestOf_2 : decode cX10_soonestOf 2 = .ok (.invokevirtual 340, 3) := by decide +kernel
theorem dX10_soonestOf_5 : decode cX10_soonestOf 5 = .ok (.ifCond .eq 5, 3) := by decide +kernel
theorem dX10_soonestOf_8 : decode cX10_soonestOf 8 = .ok (.iconst 0, 1) := by decide +kernel
theorem dX10_soonestOf_9 : decode cX10_soonestOf 9 = .ok (.ireturn, 1) := by decide +kernel
theorem dX10_soonestOf_10 : decode cX10_soonestOf 10 = .ok (.aload_n 0, 1) := by decide +kernel
theorem dX10_soonestOf_11 : decode cX10_soonestOf 11 = .ok (.invokevirtual 395, 3) := by decide +kernel
theorem dX10_soonestOf_14 : decode cX10_soonestOf 14 = .ok (.iconst (-1), 1) := by decide +kernel
theorem dX10_soonestOf_15 : decode cX10_soonestOf 15 = .ok (.istore_n 3, 1) := by decide +kernel
theorem dX10_soonestOf_16 : decode cX10_soonestOf 16 = .ok (.iconst 1, 1) := by decide +kernel
theorem dX10_soonestOf_17 : decode cX10_soonestOf 17 = .ok (.istore 4, 2) := by decide +kernel
theorem dX10_soonestOf_19 : decode cX10_soonestOf 19 = .ok (.iload 4, 2) := by decide +kernel
theorem dX10_soonestOf_21 : decode cX10_soonestOf 21 = .ok (.bipush 40, 2) := by decide +kernel
theorem dX10_soonestOf_23 : decode cX10_soonestOf 23 = .ok (.if_icmp .gt 33, 3) := by decide +kernel
theorem dX10_soonestOf_26 : decode cX10_soonestOf 26 = .ok (.iload_n 3, 1) := by decide +kernel
theorem dX10_soonestOf_27 : decode cX10_soonestOf 27 = .ok (.ifCond .ge 29, 3) := by decide +kernel
theorem dX10_soonestOf_30 : decode cX10_soonestOf 30 = .ok (.aload_n 0, 1) := by decide +kernel
theorem dX10_soonestOf_31 : decode cX10_soonestOf 31 = .ok (.iload_n 2, 1) := by decide +kernel
theorem dX10_soonestOf_32 : decode cX10_soonestOf 32 = .ok (.invokevirtual 398, 3) := by decide +kernel
theorem dX10_soonestOf_35 : decode cX10_soonestOf 35 = .ok (.aload_n 0, 1) := by decide +kernel
theorem dX10_soonestOf_36 : decode cX10_soonestOf 36 = .ok (.iload_n 1, 1) := by decide +kernel
theorem dX10_soonestOf_37 : decode cX10_soonestOf 37 = .ok (.invokevirtual 340, 3) := by decide +kernel
theorem dX10_soonestOf_40 : decode cX10_soonestOf 40 = .ok (.ifCond .eq 8, 3) := by decide +kernel
theorem dX10_soonestOf_43 : decode cX10_soonestOf 43 = .ok (.iload 4, 2) := by decide +kernel
theorem dX10_soonestOf_45 : decode cX10_soonestOf 45 = .ok (.goto 4, 3) := by decide +kernel
theorem dX10_soonestOf_48 : decode cX10_soonestOf 48 = .ok (.iconst (-1), 1) := by decide +kernel
theorem dX10_soonestOf_49 : decode cX10_soonestOf 49 = .ok (.istore_n 3, 1) := by decide +kernel
theorem dX10_soonestOf_50 : decode cX10_soonestOf 50 = .ok (.iinc 4 1, 3) := by decide +kernel
theorem dX10_soonestOf_53 : decode cX10_soonestOf 53 = .ok (.goto (-34), 3) := by decide +kernel
theorem dX10_soonestOf_56 : decode cX10_soonestOf 56 = .ok (.aload_n 0, 1) := by decide +kernel
theorem dX10_soonestOf_57 : decode cX10_soonestOf 57 = .ok (.invokevirtual 401, 3) := by decide +kernel
theorem dX10_soonestOf_60 : decode cX10_soonestOf 60 = .ok (.iload_n 3, 1) := by decide +kernel
theorem dX10_soonestOf_61 : decode cX10_soonestOf 61 = .ok (.ireturn, 1) := by decide +kernel
noncomputable def fX10_soonestOf_L19 (V : VT) (u1 : Int32) (u2 : Int32) (u3 : Int32) (u4 : Int32) : Option ((VT × Int32 × Int32 × Int32 × Int32) ⊕ (Int32 × VT)) := if (40 : Int32) < u4 then (ob_R (fX10_bringsBack V ) fun V6 => some (.inr ((u3, V6)))) else (if 0 ≤ u3 then (ob_R (fX10_bringsBack V ) fun V8 => some (.inr ((u3, V8)))) else (ob_R (fX10_calmDay V u2) fun V10 => ob_R (fX10_isSo V10 u1) fun y12 => if y12 = 0 then (lt_ (u4 + (1 : Int32)) fun y13 => some (.inl (V10, u1, u2, (-1 : Int32), y13))) else (lt_ (u4 + (1 : Int32)) fun y14 => some (.inl (V10, u1, u2, u4, y14)))))
noncomputable def iX10_soonestOf_L19 : (VT × Int32 × Int32 × Int32 × Int32) → Option ((VT × Int32 × Int32 × Int32 × Int32) ⊕ (Int32 × VT)) := fun q => fX10_soonestOf_L19 (q.1) (q.2.1) (q.2.2.1) (q.2.2.2.1) (q.2.2.2.2)
noncomputable def fX10_soonestOf (V : VT) (x1 : Int32) (x2 : Int32) : Option (Int32 × VT) := ob_R (fX10_isSo V x1) fun y2 => if y2 = 0 then (ob_R (fX10_keepsAll V ) fun V4 => ob_R (it_ (iX10_soonestOf_L19) FV (V4, x1, x2, (-1 : Int32), (1 : Int32))) fun x19 => some x19) else (some ((0 : Int32), V))
set_option maxHeartbeats 4000000 in
set_option maxRecDepth 100000 in
theorem wX10_soonestOf_L19 {p : Program} {l : Launch} {e : Env} {s : State} {m : MethodId} {args : Array Value} {below : List Frame} {meth : Method} {c : Code} {G : GT} {B : BGt} {Q : State → Prop} (E : En p s m args c meth cX10_soonestOf 5 RX10 (some .int) G B) {x : (Int32 × VT)} (kr : ∀ q : (Int32 × VT), x = q → Q = MQ below (QI G s.heap.size q.1 q.2) args s 0 0 (gA G s.heap.size)) : ∀ (n : Nat) (q : (VT × Int32 × Int32 × Int32 × Int32)), it_ (iX10_soonestOf_L19) n q = some x → ∀ (H : Heap) (locs : List Loc) (ls : Array Slot), HW G s.heap (q.1) H locs → lv_has ls 5 [(0, .ref (G.2.2 22)), (1, .int (q.2.1)), (2, .int (q.2.2.1)), (3, .int (q.2.2.2.1)), (4, .int (q.2.2.2.2))] → W p l e (rmD 16) s m args below meth c H locs 0 0 Q (F0 m 19 ls []) := by
  have hx := en_x E
  have hb := en_b E
  have hB := en_B E
  refine it_W (fun q : (VT × Int32 × Int32 × Int32 × Int32) => ∀ (H : Heap) (locs : List Loc) (ls : Array Slot), HW G s.heap (q.1) H locs → lv_has ls 5 [(0, .ref (G.2.2 22)), (1, .int (q.2.1)), (2, .int (q.2.2.1)), (3, .int (q.2.2.2.1)), (4, .int (q.2.2.2.2))] → W p l e (rmD 16) s m args below meth c H locs 0 0 Q (F0 m 19 ls [])) x ?_
  intro q r h kc kx
  obtain ⟨V, u1, u2, u3, u4⟩ := q
  intro H locs ls hw hl
  have h : fX10_soonestOf_L19 V u1 u2 u3 u4 = some r := h
  have hw : HW G s.heap V H locs := hw
  have hl : lv_has ls 5 [(0, .ref (G.2.2 22)), (1, .int u1), (2, .int u2), (3, .int u3), (4, .int u4)] := hl
  have kr : ∀ q : (Int32 × VT), r = .inr (q) → Q = MQ below (QI G s.heap.size q.1 q.2) args s 0 0 (gA G s.heap.size) := fun q e => kr q (kx _ e).symm
  unfold fX10_soonestOf_L19 at h
  refine lv_iload hx hb dX10_soonestOf_19 (lv_at hl 4 rfl) ?_
  refine lv_bipush (v := (40 : Int32)) hx hb dX10_soonestOf_21 (by decide) ?_
  refine lv_icmp_gt (tgt := 56) hx hb dX10_soonestOf_23 (by decide) (fun c17 => ?_) (fun c17 => ?_)
  · rw [if_pos c17] at h
    refine lv_aload_n hx hb dX10_soonestOf_56 rfl (lv_at hl 0 rfl) ?_
    obtain ⟨V6, h5, h⟩ := ob_R_some h
    refine c_VV E hw (kX10_bringsBack (l := l) (G := G) hB  h5) yy_X10_bringsBack lm_RX10_401 rfl (by decide) rfl rfl hl.1 (by decide) (by decide) rfl (Nat.le_of_ble_eq_true rfl) dX10_soonestOf_57 (fun H locs hw => ?_)
    refine lv_iload_n hx hb dX10_soonestOf_60 rfl (lv_at hl 3 rfl) ?_
    rw [kr (u3, V6) (Option.some.inj h).symm]
    exact r_ri E hw dX10_soonestOf_61
  · rw [if_neg c17] at h
    refine lv_iload_n hx hb dX10_soonestOf_26 rfl (lv_at hl 3 rfl) ?_
    refine lv_if_ge (tgt := 56) hx hb dX10_soonestOf_27 (by decide) (fun c16 => ?_) (fun c16 => ?_)
    · rw [if_pos c16] at h
      refine lv_aload_n hx hb dX10_soonestOf_56 rfl (lv_at hl 0 rfl) ?_
      obtain ⟨V8, h7, h⟩ := ob_R_some h
      refine c_VV E hw (kX10_bringsBack (l := l) (G := G) hB  h7) yy_X10_bringsBack lm_RX10_401 rfl (by decide) rfl rfl hl.1 (by decide) (by decide) rfl (Nat.le_of_ble_eq_true rfl) dX10_soonestOf_57 (fun H locs hw => ?_)
      refine lv_iload_n hx hb dX10_soonestOf_60 rfl (lv_at hl 3 rfl) ?_
      rw [kr (u3, V8) (Option.some.inj h).symm]
      exact r_ri E hw dX10_soonestOf_61
    · rw [if_neg c16] at h
      refine lv_aload_n hx hb dX10_soonestOf_30 rfl (lv_at hl 0 rfl) ?_
      refine lv_iload_n hx hb dX10_soonestOf_31 rfl (lv_at hl 2 rfl) ?_
      obtain ⟨V10, h9, h⟩ := ob_R_some h
      refine c_VV E hw (kX10_calmDay (l := l) (G := G) hB  h9) yy_X10_calmDay lm_RX10_398 rfl (by decide) rfl rfl hl.1 (by decide) (by decide) rfl (Nat.le_of_ble_eq_true rfl) dX10_soonestOf_32 (fun H locs hw => ?_)
      refine lv_aload_n hx hb dX10_soonestOf_35 rfl (lv_at hl 0 rfl) ?_
      refine lv_iload_n hx hb dX10_soonestOf_36 rfl (lv_at hl 1 rfl) ?_
      obtain ⟨y12, h11, h⟩ := ob_R_some h
      refine c_VI E hw (kX10_isSo (l := l) (G := G) hB  h11) yy_X10_isSo lm_RX10_340 rfl (by decide) rfl rfl hl.1 (by decide) (by decide) rfl (Nat.le_of_ble_eq_true rfl) dX10_soonestOf_37 (fun H locs hw => ?_)
      refine lv_if_eq (tgt := 48) hx hb dX10_soonestOf_40 (by decide) (fun c15 => ?_) (fun c15 => ?_)
      · rw [if_pos c15] at h
        refine lv_iconst (v := (-1 : Int32)) hx hb dX10_soonestOf_48 (by decide) ?_
        refine lv_istore_n (lv' := [(3, .int (-1 : Int32)), (0, .ref (G.2.2 22)), (1, .int u1), (2, .int u2), (4, .int u4)]) hx hb dX10_soonestOf_49 rfl hl (by decide) rfl (fun ls hl => ?_)
        obtain ⟨y13, ey13, h⟩ := lt_some h
        refine lv_iinc (v := y13) (lv' := [(4, .int y13), (3, .int (-1 : Int32)), (0, .ref (G.2.2 22)), (1, .int u1), (2, .int u2)]) hx hb dX10_soonestOf_50 hl (k := 4) rfl (by rw [ey13]; rfl) (by decide) rfl (fun ls hl => ?_)
        refine lv_goto (tgt := 19) hx hb dX10_soonestOf_53 (by decide) ?_
        exact kc (V10, u1, u2, (-1 : Int32), y13) (Option.some.inj h).symm H locs ls hw (lv_sub hl [2, 3, 4, 1, 0] rfl)
      · rw [if_neg c15] at h
        refine lv_iload hx hb dX10_soonestOf_43 (lv_at hl 4 rfl) ?_
        refine lv_goto (tgt := 49) hx hb dX10_soonestOf_45 (by decide) ?_
        refine lv_istore_n (lv' := [(3, .int u4), (0, .ref (G.2.2 22)), (1, .int u1), (2, .int u2), (4, .int u4)]) hx hb dX10_soonestOf_49 rfl hl (by decide) rfl (fun ls hl => ?_)
        obtain ⟨y14, ey14, h⟩ := lt_some h
        refine lv_iinc (v := y14) (lv' := [(4, .int y14), (3, .int u4), (0, .ref (G.2.2 22)), (1, .int u1), (2, .int u2)]) hx hb dX10_soonestOf_50 hl (k := 4) rfl (by rw [ey14]; rfl) (by decide) rfl (fun ls hl => ?_)
        refine lv_goto (tgt := 19) hx hb dX10_soonestOf_53 (by decide) ?_
        exact kc (V10, u1, u2, u4, y14) (Option.some.inj h).symm H locs ls hw (lv_sub hl [2, 3, 4, 1, 0] rfl)
set_option maxHeartbeats 4000000 in
set_option maxRecDepth 100000 in
theorem kX10_soonestOf {l : Launch} {G : GT} {B : BGt} (hB : BGok B) {V : VT} {x1 : Int32} {x2 : Int32} {r : (Int32 × VT)} (h : fX10_soonestOf V x1 x2 = some r) : CI l G B yX10_soonestOf (.code yX10_soonestOf cX10_soonestOf 5 (some .int)) 16 [.ref (G.2.2 22), .int x1, .int x2] V r.1 r.2 := by
  intro sz
  refine met_of (Qs := fun sz => QI G sz (r.1) (r.2)) hB (by decide) (Nat.le_of_ble_eq_true rfl) ?_ sz
  intro p e s m args below meth c ls E hw hl
  have hx := en_x E
  have hb := en_b E
  generalize hQ : MQ _ _ _ _ _ _ _ = Q
  have kr : Q = MQ below (QI G s.heap.size r.1 r.2) args s 0 0 (gA G s.heap.size) := hQ.symm
  have hl : lv_has ls 5 [(0, .ref (G.2.2 22)), (1, .int x1), (2, .int x2)] := hl
  obtain ⟨H, eH⟩ : ∃ H, H = s.heap := ⟨_, rfl⟩
  obtain ⟨locs, elocs⟩ : ∃ z : List Loc, z = [] := ⟨_, rfl⟩
  have hw : HW G s.heap V H locs := by rw [eH, elocs]; exact hw
  show W p l e _ s m args below meth c s.heap [] 0 0 Q (F0 m 0 ls [])
  rw [← eH, ← elocs]
  unfold fX10_soonestOf at h
  refine lv_aload_n hx hb dX10_soonestOf_0 rfl (lv_at hl 0 rfl) ?_
  refine lv_iload_n hx hb dX10_soonestOf_1 rfl (lv_at hl 1 rfl) ?_
  obtain ⟨y2, h1, h⟩ := ob_R_some h
  refine c_VI E hw (kX10_isSo (l := l) (G := G) hB  h1) yy_X10_isSo lm_RX10_340 rfl (by decide) rfl rfl hl.1 (by decide) (by decide) rfl (Nat.le_of_ble_eq_true rfl) dX10_soonestOf_2 (fun H locs hw => ?_)
  refine lv_if_eq (tgt := 10) hx hb dX10_soonestOf_5 (by decide) (fun c20 => ?_) (fun c20 => ?_)
  · rw [if_pos c20] at h
    refine lv_aload_n hx hb dX10_soonestOf_10 rfl (lv_at hl 0 rfl) ?_
    obtain ⟨V4, h3, h⟩ := ob_R_some h
    refine c_VV E hw (kX10_keepsAll (l := l) (G := G) hB  h3) yy_X10_keepsAll lm_RX10_395 rfl (by decide) rfl rfl hl.1 (by decide) (by decide) rfl (Nat.le_of_ble_eq_true rfl) dX10_soonestOf_11 (fun H locs hw => ?_)
    refine lv_iconst (v := (-1 : Int32)) hx hb dX10_soonestOf_14 (by decide) ?_
    refine lv_istore_n (lv' := [(3, .int (-1 : Int32)), (0, .ref (G.2.2 22)), (1, .int x1), (2, .int x2)]) hx hb dX10_soonestOf_15 rfl hl (by decide) rfl (fun ls hl => ?_)
    refine lv_iconst (v := (1 : Int32)) hx hb dX10_soonestOf_16 (by decide) ?_
    refine lv_istore (lv' := [(4, .int (1 : Int32)), (3, .int (-1 : Int32)), (0, .ref (G.2.2 22)), (1, .int x1), (2, .int x2)]) hx hb dX10_soonestOf_17 hl (by decide) rfl (fun ls hl => ?_)
    obtain ⟨x19, h18, h⟩ := ob_R_some h
    have h := Option.some.inj h
    subst h
    exact wX10_soonestOf_L19 E (fun q e => by subst e; exact kr) FV (V4, x1, x2, (-1 : Int32), (1 : Int32)) h18 H locs ls hw (lv_sub hl [2, 3, 4, 1, 0] rfl)
  · rw [if_neg c20] at h
    refine lv_iconst (v := (0 : Int32)) hx hb dX10_soonestOf_8 (by decide) ?_
    have h := Option.some.inj h
    subst h
    rw [kr]
    exact r_ri E hw dX10_soonestOf_9
/-! ===== AllSawItModel.soonest(II)I ===== -/
theorem dX10_soonest_0 : decode cX10_soonest 0 = .ok (.aload_n 0, 1) := by decide +kernel
theorem dX10_soonest_1 : decode cX10_soonest 1 = .ok (.iconst 0, 1) := by decide +kernel
theorem dX10_soonest_2 : decode cX10_soonest 2 = .ok (.putfield 3, 3) := by decide +kernel
theorem dX10_soonest_5 : decode cX10_soonest 5 = .ok (.aload_n 0, 1) := by decide +kernel
theorem dX10_soonest_6 : decode cX10_soonest 6 = .ok (.aload_n 0, 1) := by decide +kernel
theorem dX10_soonest_7 : decode cX10_soonest 7 = .ok (.iload_n 1, 1) := by decide +kernel
theorem dX10_soonest_8 : decode cX10_soonest 8 = .ok (.invokevirtual 349, 3) := by decide +kernel
theorem dX10_soonest_11 : decode cX10_soonest 11 = .ok (.iconst 1, 1) := by decide +kernel
theorem dX10_soonest_12 : decode cX10_soonest 12 = .ok (.invokevirtual 233, 3) := by decide +kernel
theorem dX10_soonest_15 : decode cX10_soonest 15 = .ok (.ifCond .ne 15, 3) := by decide +kernel
theorem dX10_soonest_18 : decode cX10_soonest 18 = .ok (.aload_n 0, 1) := by decide +kernel
theorem dX10_soonest_19 : decode cX10_soonest 19 = .ok (.iload_n 2, 1) := by decide +kernel
theorem dX10_soonest_20 : decode cX10_soonest 20 = .ok (.invokestatic 404, 3) := by decide +kernel
theorem dX10_soonest_23 : decode cX10_soonest 23 = .ok (.iconst 2, 1) := by decide +kernel
theorem dX10_soonest_24 : decode cX10_soonest 24 = .ok (.invokevirtual 233, 3) := by decide +kernel
theorem dX10_soonest_27 : decode cX10_soonest 27 = .ok (.ifCond .eq 7, 3) := by decide +kernel
theorem dX10_soonest_30 : decode cX10_soonest 30 = .ok (.iconst 0, 1) := by decide +kernel
theorem dX10_soonest_31 : decode cX10_soonest 31 = .ok (.goto 9, 3) := by decide +kernel
theorem dX10_soonest_34 : decode cX10_soonest 34 = .ok (.aload_n 0, 1) := by decide +kernel
theorem dX10_soonest_35 : decode cX10_soonest 35 = .ok (.iload_n 1, 1) := by decide +kernel
theorem dX10_soonest_36 : decode cX10_soonest 36 = .ok (.iload_n 2, 1) := by decide +kernel
theorem dX10_soonest_37 : decode cX10_soonest 37 = .ok (.invokevirtual 407, 3) := by decide +kernel
theorem dX10_soonest_40 : decode cX10_soonest 40 = .ok (.ireturn, 1) := by decide +kernel
noncomputable def fX10_soonest (V : VT) (x1 : Int32) (x2 : Int32) : Option (Int32 × VT) := lt_ (va_up V 22 (upd (V 22) 0 (0 : Int32))) fun V1 => ob_R (fX10_noDeed V1 x1) fun y3 => ob_I (fX10_throwsIf V1 y3 (1 : Int32)) fun y5 V6 => if y5 = 0 then (ob_R (fX10_noFog V6 x2) fun y8 => ob_I (fX10_throwsIf V6 y8 (2 : Int32)) fun y10 V11 => if y10 = 0 then (ob_I (fX10_soonestOf V11 x1 x2) fun y13 V14 => some (y13, V14)) else (some ((0 : Int32), V11))) else (some ((0 : Int32), V6))
set_option maxHeartbeats 4000000 in
set_option maxRecDepth 100000 in
theorem kX10_soonest {l : Launch} {G : GT} {B : BGt} (hB : BGok B) {V : VT} {x1 : Int32} {x2 : Int32} {r : (Int32 × VT)} (h : fX10_soonest V x1 x2 = some r) : CI l G B yX10_soonest (.code yX10_soonest cX10_soonest 3 (some .int)) 17 [.ref (G.2.2 22), .int x1, .int x2] V r.1 r.2 := by
  intro sz
  refine met_of (Qs := fun sz => QI G sz (r.1) (r.2)) hB (by decide) (Nat.le_of_ble_eq_true rfl) ?_ sz
  intro p e s m args below meth c ls E hw hl
  have hx := en_x E
  have hb := en_b E
  generalize hQ : MQ _ _ _ _ _ _ _ = Q
  have kr : Q = MQ below (QI G s.heap.size r.1 r.2) args s 0 0 (gA G s.heap.size) := hQ.symm
  have hl : lv_has ls 3 [(0, .ref (G.2.2 22)), (1, .int x1), (2, .int x2)] := hl
  obtain ⟨H, eH⟩ : ∃ H, H = s.heap := ⟨_, rfl⟩
  obtain ⟨locs, elocs⟩ : ∃ z : List Loc, z = [] := ⟨_, rfl⟩
  have hw : HW G s.heap V H locs := by rw [eH, elocs]; exact hw
  show W p l e _ s m args below meth c s.heap [] 0 0 Q (F0 m 0 ls [])
  rw [← eH, ← elocs]
  unfold fX10_soonest at h
  refine lv_aload_n hx hb dX10_soonest_0 rfl (lv_at hl 0 rfl) ?_
  refine lv_iconst (v := (0 : Int32)) hx hb dX10_soonest_1 (by decide) ?_
  obtain ⟨V1, eV1, h⟩ := lt_some h
  refine r_pi E hw 22 0 (N := 29) (C := RX10) (T := TX10) (ty0 := tyX10) (ty := .int) (by decide) rfl rfl (by decide) rfl iw_10 rfl tyX10_ok nmX10 rfl rfl (vp_nar_int _) rfl lf_RX10_3 eV1 dX10_soonest_2 (fun H locs hw => ?_)
  refine lv_aload_n hx hb dX10_soonest_5 rfl (lv_at hl 0 rfl) ?_
  refine lv_aload_n hx hb dX10_soonest_6 rfl (lv_at hl 0 rfl) ?_
  refine lv_iload_n hx hb dX10_soonest_7 rfl (lv_at hl 1 rfl) ?_
  obtain ⟨y3, h2, h⟩ := ob_R_some h
  refine c_VI E hw (kX10_noDeed (l := l) (G := G) hB  h2) yy_X10_noDeed lm_RX10_349 rfl (by decide) rfl rfl hl.1 (by decide) (by decide) rfl (Nat.le_of_ble_eq_true rfl) dX10_soonest_8 (fun H locs hw => ?_)
  refine lv_iconst (v := (1 : Int32)) hx hb dX10_soonest_11 (by decide) ?_
  obtain ⟨y5, V6, h4, h⟩ := ob_I_some h
  refine c_VI E hw (kX10_throwsIf (l := l) (G := G) hB  h4) yy_X10_throwsIf lm_RX10_233 rfl (by decide) rfl rfl hl.1 (by decide) (by decide) rfl (Nat.le_of_ble_eq_true rfl) dX10_soonest_12 (fun H locs hw => ?_)
  refine lv_if_ne (tgt := 30) hx hb dX10_soonest_15 (by decide) (fun c16 => ?_) (fun c16 => ?_)
  · rw [if_neg c16] at h
    refine lv_iconst (v := (0 : Int32)) hx hb dX10_soonest_30 (by decide) ?_
    refine lv_goto (tgt := 40) hx hb dX10_soonest_31 (by decide) ?_
    have h := Option.some.inj h
    subst h
    rw [kr]
    exact r_ri E hw dX10_soonest_40
  · rw [if_pos c16] at h
    refine lv_aload_n hx hb dX10_soonest_18 rfl (lv_at hl 0 rfl) ?_
    refine lv_iload_n hx hb dX10_soonest_19 rfl (lv_at hl 2 rfl) ?_
    obtain ⟨y8, h7, h⟩ := ob_R_some h
    refine c_SI E hw (kX10_noFog (l := l) (G := G) hB  h7) yy_X10_noFog lm_RX10_404 rfl hl.1 (by decide) (by decide) rfl (Nat.le_of_ble_eq_true rfl) dX10_soonest_20 (fun H locs hw => ?_)
    refine lv_iconst (v := (2 : Int32)) hx hb dX10_soonest_23 (by decide) ?_
    obtain ⟨y10, V11, h9, h⟩ := ob_I_some h
    refine c_VI E hw (kX10_throwsIf (l := l) (G := G) hB  h9) yy_X10_throwsIf lm_RX10_233 rfl (by decide) rfl rfl hl.1 (by decide) (by decide) rfl (Nat.le_of_ble_eq_true rfl) dX10_soonest_24 (fun H locs hw => ?_)
    refine lv_if_eq (tgt := 34) hx hb dX10_soonest_27 (by decide) (fun c15 => ?_) (fun c15 => ?_)
    · rw [if_pos c15] at h
      refine lv_aload_n hx hb dX10_soonest_34 rfl (lv_at hl 0 rfl) ?_
      refine lv_iload_n hx hb dX10_soonest_35 rfl (lv_at hl 1 rfl) ?_
      refine lv_iload_n hx hb dX10_soonest_36 rfl (lv_at hl 2 rfl) ?_
      obtain ⟨y13, V14, h12, h⟩ := ob_I_some h
      refine c_VI E hw (kX10_soonestOf (l := l) (G := G) hB  h12) yy_X10_soonestOf lm_RX10_407 rfl (by decide) rfl rfl hl.1 (by decide) (by decide) rfl (Nat.le_of_ble_eq_true rfl) dX10_soonest_37 (fun H locs hw => ?_)
      have h := Option.some.inj h
      subst h
      rw [kr]
      exact r_ri E hw dX10_soonest_40
    · rw [if_neg c15] at h
      refine lv_iconst (v := (0 : Int32)) hx hb dX10_soonest_30 (by decide) ?_
      refine lv_goto (tgt := 40) hx hb dX10_soonest_31 (by decide) ?_
      have h := Option.some.inj h
      subst h
      rw [kr]
      exact r_ri E hw dX10_soonest_40
/-! ===== AllSawItModel.ahead(II)I ===== -/
theorem dX10_ahead_0 : decode cX10_ahead 0 = .ok (.aload_n 0, 1) := by decide +kernel
theorem dX10_ahead_1 : decode cX10_ahead 1 = .ok (.iconst 0, 1) := by decide +kernel
theorem dX10_ahead_2 : decode cX10_ahead 2 = .ok (.putfield 3, 3) := by decide +kernel
theorem dX10_ahead_5 : decode cX10_ahead 5 = .ok (.aload_n 0, 1) := by decide +kernel
theorem dX10_ahead_6 : decode cX10_ahead 6 = .ok (.iload_n 1, 1) := by decide +kernel
theorem dX10_ahead_7 : decode cX10_ahead 7 = .ok (.iconst 0, 1) := by decide +kernel
theorem dX10_ahead_8 : decode cX10_ahead 8 = .ok (.bipush 40, 2) := by decide +kernel
theorem dX10_ahead_10 : decode cX10_ahead 10 = .ok (.invokestatic 76, 3) := by decide +kernel
theorem dX10_ahead_13 : decode cX10_ahead 13 = .ok (.ifCond .eq 10, 3) := by decide +kernel
theorem dX10_ahead_16 : decode cX10_ahead 16 = .ok (.iload_n 2, 1) := by decide +kernel
theorem dX10_ahead_17 : decode cX10_ahead 17 = .ok (.invokestatic 404, 3) := by decide +kernel
theorem dX10_ahead_20 : decode cX10_ahead 20 = .ok (.ifCond .eq 7, 3) := by decide +kernel
theorem dX10_ahead_23 : decode cX10_ahead 23 = .ok (.iconst 1, 1) := by decide +kernel
theorem dX10_ahead_24 : decode cX10_ahead 24 = .ok (.goto 4, 3) := by decide +kernel
theorem dX10_ahead_27 : decode cX10_ahead 27 = .ok (.iconst 0, 1) := by decide +kernel
theorem dX10_ahead_28 : decode cX10_ahead 28 = .ok (.iconst 1, 1) := by decide +kernel
theorem dX10_ahead_29 : decode cX10_ahead 29 = .ok (.invokevirtual 233, 3) := by decide +kernel
theorem dX10_ahead_32 : decode cX10_ahead 32 = .ok (.ifCond .eq 5, 3) := by decide +kernel
theorem dX10_ahead_35 : decode cX10_ahead 35 = .ok (.iconst 0, 1) := by decide +kernel
theorem dX10_ahead_36 : decode cX10_ahead 36 = .ok (.ireturn, 1) := by decide +kernel
theorem dX10_ahead_37 : decode cX10_ahead 37 = .ok (.aload_n 0, 1) := by decide +kernel
theorem dX10_ahead_38 : decode cX10_ahead 38 = .ok (.invokevirtual 395, 3) := by decide +kernel
theorem dX10_ahead_41 : decode cX10_ahead 41 = .ok (.iconst 0, 1) := by decide +kernel
theorem dX10_ahead_42 : decode cX10_ahead 42 = .ok (.istore_n 3, 1) := by decide +kernel
theorem dX10_ahead_43 : decode cX10_ahead 43 = .ok (.iload_n 3, 1) := by decide +kernel
theorem dX10_ahead_44 : decode cX10_ahead 44 = .ok (.iload_n 1, 1) := by decide +kernel
theorem dX10_ahead_45 : decode cX10_ahead 45 = .ok (.if_icmp .ge 14, 3) := by decide +kernel
theorem dX10_ahead_48 : decode cX10_ahead 48 = .ok (.aload_n 0, 1) := by decide +kernel
theorem dX10_ahead_49 : decode cX10_ahead 49 = .ok (.iload_n 2, 1) := by decide +kernel
theorem dX10_ahead_50 : decode cX10_ahead 50 = .ok (.invokevirtual 398, 3) := by decide +kernel
theorem dX10_ahead_53 : decode cX10_ahead 53 = .ok (.iinc 3 1, 3) := by decide +kernel
theorem dX10_ahead_56 : decode cX10_ahead 56 = .ok (.goto (-13), 3) := by decide +kernel
theorem dX10_ahead_59 : decode cX10_ahead 59 = .ok (.aload_n 0, 1) := by decide +kernel
theorem dX10_ahead_60 : decode cX10_ahead 60 = .ok (.invokevirtual 410, 3) := by decide +kernel
theorem dX10_ahead_63 : decode cX10_ahead 63 = .ok (.istore_n 3, 1) := by decide +kernel
theorem dX10_ahead_64 : decode cX10_ahead 64 = .ok (.aload_n 0, 1) := by decide +kernel
theorem dX10_ahead_65 : decode cX10_ahead 65 = .ok (.invokevirtual 401, 3) := by decide +kernel
theorem dX10_ahead_68 : decode cX10_ahead 68 = .ok (.iload_n 3, 1) := by decide +kernel
theorem dX10_ahead_69 : decode cX10_ahead 69 = .ok (.ireturn, 1) := by decide +kernel
noncomputable def fX10_ahead_L43 (V : VT) (u1 : Int32) (u2 : Int32) (u3 : Int32) : Option ((VT × Int32 × Int32 × Int32) ⊕ (Int32 × VT)) := if u1 ≤ u3 then (ob_R (fX10_soOnes V ) fun y10 => ob_R (fX10_bringsBack V ) fun V12 => some (.inr ((y10, V12)))) else (ob_R (fX10_calmDay V u2) fun V14 => lt_ (u3 + (1 : Int32)) fun y15 => some (.inl (V14, u1, u2, y15)))
noncomputable def iX10_ahead_L43 : (VT × Int32 × Int32 × Int32) → Option ((VT × Int32 × Int32 × Int32) ⊕ (Int32 × VT)) := fun q => fX10_ahead_L43 (q.1) (q.2.1) (q.2.2.1) (q.2.2.2)
noncomputable def fX10_ahead_j28 (V : VT) (u1 : Int32) (u2 : Int32) (t0 : Int32) : Option (Int32 × VT) := ob_I (fX10_throwsIf V t0 (1 : Int32)) fun y5 V6 => if y5 = 0 then (ob_R (fX10_keepsAll V6 ) fun V8 => ob_R (it_ (iX10_ahead_L43) FV (V8, u1, u2, (0 : Int32))) fun x18 => some x18) else (some ((0 : Int32), V6))
noncomputable def fX10_ahead_j23 (V : VT) (u1 : Int32) (u2 : Int32) : Option (Int32 × VT) := fX10_ahead_j28 V u1 u2 (1 : Int32)
noncomputable def fX10_ahead (V : VT) (x1 : Int32) (x2 : Int32) : Option (Int32 × VT) := lt_ (va_up V 22 (upd (V 22) 0 (0 : Int32))) fun V1 => ob_R (fX10_in V1 x1 (0 : Int32) (40 : Int32)) fun y3 => if y3 = 0 then (fX10_ahead_j23 V1 x1 x2) else (ob_R (fX10_noFog V1 x2) fun y21 => if y21 = 0 then (fX10_ahead_j28 V1 x1 x2 (0 : Int32)) else (fX10_ahead_j23 V1 x1 x2))
set_option maxHeartbeats 4000000 in
set_option maxRecDepth 100000 in
theorem wX10_ahead_L43 {p : Program} {l : Launch} {e : Env} {s : State} {m : MethodId} {args : Array Value} {below : List Frame} {meth : Method} {c : Code} {G : GT} {B : BGt} {Q : State → Prop} (E : En p s m args c meth cX10_ahead 4 RX10 (some .int) G B) {x : (Int32 × VT)} (kr : ∀ q : (Int32 × VT), x = q → Q = MQ below (QI G s.heap.size q.1 q.2) args s 0 0 (gA G s.heap.size)) : ∀ (n : Nat) (q : (VT × Int32 × Int32 × Int32)), it_ (iX10_ahead_L43) n q = some x → ∀ (H : Heap) (locs : List Loc) (ls : Array Slot), HW G s.heap (q.1) H locs → lv_has ls 4 [(0, .ref (G.2.2 22)), (1, .int (q.2.1)), (2, .int (q.2.2.1)), (3, .int (q.2.2.2))] → W p l e (rmD 16) s m args below meth c H locs 0 0 Q (F0 m 43 ls []) := by
  have hx := en_x E
  have hb := en_b E
  have hB := en_B E
  refine it_W (fun q : (VT × Int32 × Int32 × Int32) => ∀ (H : Heap) (locs : List Loc) (ls : Array Slot), HW G s.heap (q.1) H locs → lv_has ls 4 [(0, .ref (G.2.2 22)), (1, .int (q.2.1)), (2, .int (q.2.2.1)), (3, .int (q.2.2.2))] → W p l e (rmD 16) s m args below meth c H locs 0 0 Q (F0 m 43 ls [])) x ?_
  intro q r h kc kx
  obtain ⟨V, u1, u2, u3⟩ := q
  intro H locs ls hw hl
  have h : fX10_ahead_L43 V u1 u2 u3 = some r := h
  have hw : HW G s.heap V H locs := hw
  have hl : lv_has ls 4 [(0, .ref (G.2.2 22)), (1, .int u1), (2, .int u2), (3, .int u3)] := hl
  have kr : ∀ q : (Int32 × VT), r = .inr (q) → Q = MQ below (QI G s.heap.size q.1 q.2) args s 0 0 (gA G s.heap.size) := fun q e => kr q (kx _ e).symm
  unfold fX10_ahead_L43 at h
  refine lv_iload_n hx hb dX10_ahead_43 rfl (lv_at hl 3 rfl) ?_
  refine lv_iload_n hx hb dX10_ahead_44 rfl (lv_at hl 1 rfl) ?_
  refine lv_icmp_ge (tgt := 59) hx hb dX10_ahead_45 (by decide) (fun c16 => ?_) (fun c16 => ?_)
  · rw [if_pos c16] at h
    refine lv_aload_n hx hb dX10_ahead_59 rfl (lv_at hl 0 rfl) ?_
    obtain ⟨y10, h9, h⟩ := ob_R_some h
    refine c_VI E hw (kX10_soOnes (l := l) (G := G) hB  h9) yy_X10_soOnes lm_RX10_410 rfl (by decide) rfl rfl hl.1 (by decide) (by decide) rfl (Nat.le_of_ble_eq_true rfl) dX10_ahead_60 (fun H locs hw => ?_)
    refine lv_istore_n (lv' := [(3, .int y10), (0, .ref (G.2.2 22)), (1, .int u1), (2, .int u2)]) hx hb dX10_ahead_63 rfl hl (by decide) rfl (fun ls hl => ?_)
    refine lv_aload_n hx hb dX10_ahead_64 rfl (lv_at hl 1 rfl) ?_
    obtain ⟨V12, h11, h⟩ := ob_R_some h
    refine c_VV E hw (kX10_bringsBack (l := l) (G := G) hB  h11) yy_X10_bringsBack lm_RX10_401 rfl (by decide) rfl rfl hl.1 (by decide) (by decide) rfl (Nat.le_of_ble_eq_true rfl) dX10_ahead_65 (fun H locs hw => ?_)
    refine lv_iload_n hx hb dX10_ahead_68 rfl (lv_at hl 0 rfl) ?_
    rw [kr (y10, V12) (Option.some.inj h).symm]
    exact r_ri E hw dX10_ahead_69
  · rw [if_neg c16] at h
    refine lv_aload_n hx hb dX10_ahead_48 rfl (lv_at hl 0 rfl) ?_
    refine lv_iload_n hx hb dX10_ahead_49 rfl (lv_at hl 2 rfl) ?_
    obtain ⟨V14, h13, h⟩ := ob_R_some h
    refine c_VV E hw (kX10_calmDay (l := l) (G := G) hB  h13) yy_X10_calmDay lm_RX10_398 rfl (by decide) rfl rfl hl.1 (by decide) (by decide) rfl (Nat.le_of_ble_eq_true rfl) dX10_ahead_50 (fun H locs hw => ?_)
    obtain ⟨y15, ey15, h⟩ := lt_some h
    refine lv_iinc (v := y15) (lv' := [(3, .int y15), (0, .ref (G.2.2 22)), (1, .int u1), (2, .int u2)]) hx hb dX10_ahead_53 hl (k := 3) rfl (by rw [ey15]; rfl) (by decide) rfl (fun ls hl => ?_)
    refine lv_goto (tgt := 43) hx hb dX10_ahead_56 (by decide) ?_
    exact kc (V14, u1, u2, y15) (Option.some.inj h).symm H locs ls hw (lv_sub hl [1, 2, 3, 0] rfl)
set_option maxHeartbeats 4000000 in
set_option maxRecDepth 100000 in
theorem wX10_ahead_j28 {p : Program} {l : Launch} {e : Env} {s : State} {m : MethodId} {args : Array Value} {below : List Frame} {meth : Method} {c : Code} {G : GT} {B : BGt} {Q : State → Prop} (E : En p s m args c meth cX10_ahead 4 RX10 (some .int) G B) {V : VT} {u1 : Int32} {u2 : Int32} {t0 : Int32} {r : (Int32 × VT)} (h : fX10_ahead_j28 V u1 u2 t0 = some r) (kr : Q = MQ below (QI G s.heap.size r.1 r.2) args s 0 0 (gA G s.heap.size)) {H : Heap} {locs : List Loc} {ls : Array Slot} (hw : HW G s.heap V H locs) (hl : lv_has ls 4 [(0, .ref (G.2.2 22)), (1, .int u1), (2, .int u2)]) : W p l e (rmD 16) s m args below meth c H locs 0 0 Q (F0 m 28 ls [.int t0, .ref (G.2.2 22)]) := by
  have hx := en_x E
  have hb := en_b E
  have hB := en_B E
  unfold fX10_ahead_j28 at h
  refine lv_iconst (v := (1 : Int32)) hx hb dX10_ahead_28 (by decide) ?_
  obtain ⟨y5, V6, h4, h⟩ := ob_I_some h
  refine c_VI E hw (kX10_throwsIf (l := l) (G := G) hB  h4) yy_X10_throwsIf lm_RX10_233 rfl (by decide) rfl rfl hl.1 (by decide) (by decide) rfl (Nat.le_of_ble_eq_true rfl) dX10_ahead_29 (fun H locs hw => ?_)
  refine lv_if_eq (tgt := 37) hx hb dX10_ahead_32 (by decide) (fun c19 => ?_) (fun c19 => ?_)
  · rw [if_pos c19] at h
    refine lv_aload_n hx hb dX10_ahead_37 rfl (lv_at hl 0 rfl) ?_
    obtain ⟨V8, h7, h⟩ := ob_R_some h
    refine c_VV E hw (kX10_keepsAll (l := l) (G := G) hB  h7) yy_X10_keepsAll lm_RX10_395 rfl (by decide) rfl rfl hl.1 (by decide) (by decide) rfl (Nat.le_of_ble_eq_true rfl) dX10_ahead_38 (fun H locs hw => ?_)
    refine lv_iconst (v := (0 : Int32)) hx hb dX10_ahead_41 (by decide) ?_
    refine lv_istore_n (lv' := [(3, .int (0 : Int32)), (0, .ref (G.2.2 22)), (1, .int u1), (2, .int u2)]) hx hb dX10_ahead_42 rfl hl (by decide) rfl (fun ls hl => ?_)
    obtain ⟨x18, h17, h⟩ := ob_R_some h
    have h := Option.some.inj h
    subst h
    exact wX10_ahead_L43 E (fun q e => by subst e; exact kr) FV (V8, u1, u2, (0 : Int32)) h17 H locs ls hw (lv_sub hl [1, 2, 3, 0] rfl)
  · rw [if_neg c19] at h
    refine lv_iconst (v := (0 : Int32)) hx hb dX10_ahead_35 (by decide) ?_
    have h := Option.some.inj h
    subst h
    rw [kr]
    exact r_ri E hw dX10_ahead_36
set_option maxHeartbeats 4000000 in
set_option maxRecDepth 100000 in
theorem wX10_ahead_j23 {p : Program} {l : Launch} {e : Env} {s : State} {m : MethodId} {args : Array Value} {below : List Frame} {meth : Method} {c : Code} {G : GT} {B : BGt} {Q : State → Prop} (E : En p s m args c meth cX10_ahead 4 RX10 (some .int) G B) {V : VT} {u1 : Int32} {u2 : Int32} {r : (Int32 × VT)} (h : fX10_ahead_j23 V u1 u2 = some r) (kr : Q = MQ below (QI G s.heap.size r.1 r.2) args s 0 0 (gA G s.heap.size)) {H : Heap} {locs : List Loc} {ls : Array Slot} (hw : HW G s.heap V H locs) (hl : lv_has ls 4 [(0, .ref (G.2.2 22)), (1, .int u1), (2, .int u2)]) : W p l e (rmD 16) s m args below meth c H locs 0 0 Q (F0 m 23 ls [.ref (G.2.2 22)]) := by
  have hx := en_x E
  have hb := en_b E
  have hB := en_B E
  unfold fX10_ahead_j23 at h
  refine lv_iconst (v := (1 : Int32)) hx hb dX10_ahead_23 (by decide) ?_
  refine lv_goto (tgt := 28) hx hb dX10_ahead_24 (by decide) ?_
  exact wX10_ahead_j28 E h kr hw (lv_sub hl [0, 1, 2] rfl)
set_option maxHeartbeats 4000000 in
set_option maxRecDepth 100000 in
theorem kX10_ahead {l : Launch} {G : GT} {B : BGt} (hB : BGok B) {V : VT} {x1 : Int32} {x2 : Int32} {r : (Int32 × VT)} (h : fX10_ahead V x1 x2 = some r) : CI l G B yX10_ahead (.code yX10_ahead cX10_ahead 4 (some .int)) 16 [.ref (G.2.2 22), .int x1, .int x2] V r.1 r.2 := by
  intro sz
  refine met_of (Qs := fun sz => QI G sz (r.1) (r.2)) hB (by decide) (Nat.le_of_ble_eq_true rfl) ?_ sz
  intro p e s m args below meth c ls E hw hl
  have hx := en_x E
  have hb := en_b E
  generalize hQ : MQ _ _ _ _ _ _ _ = Q
  have kr : Q = MQ below (QI G s.heap.size r.1 r.2) args s 0 0 (gA G s.heap.size) := hQ.symm
  have hl : lv_has ls 4 [(0, .ref (G.2.2 22)), (1, .int x1), (2, .int x2)] := hl
  obtain ⟨H, eH⟩ : ∃ H, H = s.heap := ⟨_, rfl⟩
  obtain ⟨locs, elocs⟩ : ∃ z : List Loc, z = [] := ⟨_, rfl⟩
  have hw : HW G s.heap V H locs := by rw [eH, elocs]; exact hw
  show W p l e _ s m args below meth c s.heap [] 0 0 Q (F0 m 0 ls [])
  rw [← eH, ← elocs]
  unfold fX10_ahead at h
  refine lv_aload_n hx hb dX10_ahead_0 rfl (lv_at hl 0 rfl) ?_
  refine lv_iconst (v := (0 : Int32)) hx hb dX10_ahead_1 (by decide) ?_
  obtain ⟨V1, eV1, h⟩ := lt_some h
  refine r_pi E hw 22 0 (N := 29) (C := RX10) (T := TX10) (ty0 := tyX10) (ty := .int) (by decide) rfl rfl (by decide) rfl iw_10 rfl tyX10_ok nmX10 rfl rfl (vp_nar_int _) rfl lf_RX10_3 eV1 dX10_ahead_2 (fun H locs hw => ?_)
  refine lv_aload_n hx hb dX10_ahead_5 rfl (lv_at hl 0 rfl) ?_
  refine lv_iload_n hx hb dX10_ahead_6 rfl (lv_at hl 1 rfl) ?_
  refine lv_iconst (v := (0 : Int32)) hx hb dX10_ahead_7 (by decide) ?_
  refine lv_bipush (v := (40 : Int32)) hx hb dX10_ahead_8 (by decide) ?_
  obtain ⟨y3, h2, h⟩ := ob_R_some h
  refine c_SI E hw (kX10_in (l := l) (G := G) hB  h2) yy_X10_in lm_RX10_76 rfl hl.1 (by decide) (by decide) rfl (Nat.le_of_ble_eq_true rfl) dX10_ahead_10 (fun H locs hw => ?_)
  refine lv_if_eq (tgt := 23) hx hb dX10_ahead_13 (by decide) (fun c23 => ?_) (fun c23 => ?_)
  · rw [if_pos c23] at h
    exact wX10_ahead_j23 E h kr hw (lv_sub hl [0, 1, 2] rfl)
  · rw [if_neg c23] at h
    refine lv_iload_n hx hb dX10_ahead_16 rfl (lv_at hl 2 rfl) ?_
    obtain ⟨y21, h20, h⟩ := ob_R_some h
    refine c_SI E hw (kX10_noFog (l := l) (G := G) hB  h20) yy_X10_noFog lm_RX10_404 rfl hl.1 (by decide) (by decide) rfl (Nat.le_of_ble_eq_true rfl) dX10_ahead_17 (fun H locs hw => ?_)
    refine lv_if_eq (tgt := 27) hx hb dX10_ahead_20 (by decide) (fun c22 => ?_) (fun c22 => ?_)
    · rw [if_pos c22] at h
      refine lv_iconst (v := (0 : Int32)) hx hb dX10_ahead_27 (by decide) ?_
      exact wX10_ahead_j28 E h kr hw (lv_sub hl [0, 1, 2] rfl)
    · rw [if_neg c22] at h
      exact wX10_ahead_j23 E h kr hw (lv_sub hl [0, 1, 2] rfl)
/-! ===== AllSawItModel.later(I)I ===== -/
theorem dX10_later_0 : decode cX10_later 0 = .ok (.aload_n 0, 1) := by decide +kernel
theorem dX10_later_1 : decode cX10_later 1 = .ok (.iconst 0, 1) := by decide +kernel
theorem dX10_later_2 : decode cX10_later 2 = .ok (.putfield 3, 3) := by decide +kernel
theorem dX10_later_5 : decode cX10_later 5 = .ok (.aload_n 0, 1) := by decide +kernel
theorem dX10_later_6 : decode cX10_later 6 = .ok (.iload_n 1, 1) := by decide +kernel
theorem dX10_later_7 : decode cX10_later 7 = .ok (.invokestatic 404, 3) := by decide +kernel
theorem dX10_later_10 : decode cX10_later 10 = .ok (.iconst 1, 1) := by decide +kernel
theorem dX10_later_11 : decode cX10_later 11 = .ok (.invokevirtual 233, 3) := by decide +kernel
theorem dX10_later_14 : decode cX10_later 14 = .ok (.ifCond .eq 5, 3) := by decide +kernel
theorem dX10_later_17 : decode cX10_later 17 = .ok (.iconst 0, 1) := by decide +kernel
theorem dX10_later_18 : decode cX10_later 18 = .ok (.ireturn, 1) := by decide +kernel
theorem dX10_later_19 : decode cX10_later 19 = .ok (.iconst 0, 1) := by decide +kernel
theorem dX10_later_20 : decode cX10_later 20 = .ok (.istore_n 2, 1) := by decide +kernel
theorem dX10_later_21 : decode cX10_later 21 = .ok (.iconst 0, 1) := by decide +kernel
theorem dX10_later_22 : decode cX10_later 22 = .ok (.istore_n 3, 1) := by decide +kernel
theorem dX10_later_23 : decode cX10_later 23 = .ok (.iload_n 3, 1) := by decide +kernel
theorem dX10_later_24 : decode cX10_later 24 = .ok (.aload_n 0, 1) := by decide +kernel
theorem dX10_later_25 : decode cX10_later 25 = .ok (.invokevirtual 80, 3) := by decide +kernel
theorem dX10_later_28 : decode cX10_later 28 = .ok (.if_icmp .ge 20, 3) := by decide +kernel
theorem dX10_later_31 : decode cX10_later 31 = .ok (.iload_n 2, 1) := by decide +kernel
theorem dX10_later_32 : decode cX10_later 32 = .ok (.aload_n 0, 1) := by decide +kernel
theorem dX10_later_33 : decode cX10_later 33 = .ok (.iload_n 3, 1) := by decide +kernel
theorem dX10_later_34 : decode cX10_later 34 = .ok (.iload_n 1, 1) := by decide +kernel
theorem dX10_later_35 : decode cX10_later 35 = .ok (.invokevirtual 407, 3) := by decide +kernel
theorem dX10_later_38 : decode cX10_later 38 = .ok (.invokestatic 239, 3) := by decide +kernel
theorem dX10_later_41 : decode cX10_later 41 = .ok (.istore_n 2, 1) := by decide +kernel
theorem dX10_later_42 : decode cX10_later 42 = .ok (.iinc 3 1, 3) := by decide +kernel
theorem dX10_later_45 : decode cX10_later 45 = .ok (.goto (-22), 3) := by decide +kernel
theorem dX10_later_48 : decode cX10_later 48 = .ok (.iload_n 2, 1) := by decide +kernel
theorem dX10_later_49 : decode cX10_later 49 = .ok (.ireturn, 1) := by decide +kernel
noncomputable def fX10_later_L23 (V : VT) (u1 : Int32) (u2 : Int32) (u3 : Int32) : Option ((VT × Int32 × Int32 × Int32) ⊕ (Int32 × VT)) := ob_R (fX10_deeds V ) fun y8 => if y8 ≤ u3 then (some (.inr ((u2, V)))) else (ob_I (fX10_soonestOf V u3 u1) fun y10 V11 => lt_ (if u2 < y10 then y10 else u2) fun y12 => lt_ (u3 + (1 : Int32)) fun y13 => some (.inl (V11, u1, y12, y13)))
noncomputable def iX10_later_L23 : (VT × Int32 × Int32 × Int32) → Option ((VT × Int32 × Int32 × Int32) ⊕ (Int32 × VT)) := fun q => fX10_later_L23 (q.1) (q.2.1) (q.2.2.1) (q.2.2.2)
noncomputable def fX10_later (V : VT) (x1 : Int32) : Option (Int32 × VT) := lt_ (va_up V 22 (upd (V 22) 0 (0 : Int32))) fun V1 => ob_R (fX10_noFog V1 x1) fun y3 => ob_I (fX10_throwsIf V1 y3 (1 : Int32)) fun y5 V6 => if y5 = 0 then (ob_R (it_ (iX10_later_L23) FV (V6, x1, (0 : Int32), (0 : Int32))) fun x16 => some x16) else (some ((0 : Int32), V6))
set_option maxHeartbeats 4000000 in
set_option maxRecDepth 100000 in
theorem wX10_later_L23 {p : Program} {l : Launch} {e : Env} {s : State} {m : MethodId} {args : Array Value} {below : List Frame} {meth : Method} {c : Code} {G : GT} {B : BGt} {Q : State → Prop} (E : En p s m args c meth cX10_later 4 RX10 (some .int) G B) {x : (Int32 × VT)} (kr : ∀ q : (Int32 × VT), x = q → Q = MQ below (QI G s.heap.size q.1 q.2) args s 0 0 (gA G s.heap.size)) : ∀ (n : Nat) (q : (VT × Int32 × Int32 × Int32)), it_ (iX10_later_L23) n q = some x → ∀ (H : Heap) (locs : List Loc) (ls : Array Slot), HW G s.heap (q.1) H locs → lv_has ls 4 [(0, .ref (G.2.2 22)), (1, .int (q.2.1)), (2, .int (q.2.2.1)), (3, .int (q.2.2.2))] → W p l e (rmD 17) s m args below meth c H locs 0 0 Q (F0 m 23 ls []) := by
  have hx := en_x E
  have hb := en_b E
  have hB := en_B E
  refine it_W (fun q : (VT × Int32 × Int32 × Int32) => ∀ (H : Heap) (locs : List Loc) (ls : Array Slot), HW G s.heap (q.1) H locs → lv_has ls 4 [(0, .ref (G.2.2 22)), (1, .int (q.2.1)), (2, .int (q.2.2.1)), (3, .int (q.2.2.2))] → W p l e (rmD 17) s m args below meth c H locs 0 0 Q (F0 m 23 ls [])) x ?_
  intro q r h kc kx
  obtain ⟨V, u1, u2, u3⟩ := q
  intro H locs ls hw hl
  have h : fX10_later_L23 V u1 u2 u3 = some r := h
  have hw : HW G s.heap V H locs := hw
  have hl : lv_has ls 4 [(0, .ref (G.2.2 22)), (1, .int u1), (2, .int u2), (3, .int u3)] := hl
  have kr : ∀ q : (Int32 × VT), r = .inr (q) → Q = MQ below (QI G s.heap.size q.1 q.2) args s 0 0 (gA G s.heap.size) := fun q e => kr q (kx _ e).symm
  unfold fX10_later_L23 at h
  refine lv_iload_n hx hb dX10_later_23 rfl (lv_at hl 3 rfl) ?_
  refine lv_aload_n hx hb dX10_later_24 rfl (lv_at hl 0 rfl) ?_
  obtain ⟨y8, h7, h⟩ := ob_R_some h
  refine c_VI E hw (kX10_deeds (l := l) (G := G) hB  h7) yy_X10_deeds lm_RX10_80 rfl (by decide) rfl rfl hl.1 (by decide) (by decide) rfl (Nat.le_of_ble_eq_true rfl) dX10_later_25 (fun H locs hw => ?_)
  refine lv_icmp_ge (tgt := 48) hx hb dX10_later_28 (by decide) (fun c14 => ?_) (fun c14 => ?_)
  · rw [if_pos c14] at h
    refine lv_iload_n hx hb dX10_later_48 rfl (lv_at hl 2 rfl) ?_
    rw [kr (u2, V) (Option.some.inj h).symm]
    exact r_ri E hw dX10_later_49
  · rw [if_neg c14] at h
    refine lv_iload_n hx hb dX10_later_31 rfl (lv_at hl 2 rfl) ?_
    refine lv_aload_n hx hb dX10_later_32 rfl (lv_at hl 0 rfl) ?_
    refine lv_iload_n hx hb dX10_later_33 rfl (lv_at hl 3 rfl) ?_
    refine lv_iload_n hx hb dX10_later_34 rfl (lv_at hl 1 rfl) ?_
    obtain ⟨y10, V11, h9, h⟩ := ob_I_some h
    refine c_VI E hw (kX10_soonestOf (l := l) (G := G) hB  h9) yy_X10_soonestOf lm_RX10_407 rfl (by decide) rfl rfl hl.1 (by decide) (by decide) rfl (Nat.le_of_ble_eq_true rfl) dX10_later_35 (fun H locs hw => ?_)
    refine r_max E hl.1 lm_RX10_239 (by decide) (Nat.le_of_ble_eq_true rfl) dX10_later_38 ?_
    obtain ⟨y12, ey12, h⟩ := lt_some h
    refine lv_eqi ey12 ?_
    refine lv_istore_n (lv' := [(2, .int y12), (0, .ref (G.2.2 22)), (1, .int u1), (3, .int u3)]) hx hb dX10_later_41 rfl hl (by decide) rfl (fun ls hl => ?_)
    obtain ⟨y13, ey13, h⟩ := lt_some h
    refine lv_iinc (v := y13) (lv' := [(3, .int y13), (2, .int y12), (0, .ref (G.2.2 22)), (1, .int u1)]) hx hb dX10_later_42 hl (k := 3) rfl (by rw [ey13]; rfl) (by decide) rfl (fun ls hl => ?_)
    refine lv_goto (tgt := 23) hx hb dX10_later_45 (by decide) ?_
    exact kc (V11, u1, y12, y13) (Option.some.inj h).symm H locs ls hw (lv_sub hl [2, 3, 1, 0] rfl)
set_option maxHeartbeats 4000000 in
set_option maxRecDepth 100000 in
theorem kX10_later {l : Launch} {G : GT} {B : BGt} (hB : BGok B) {V : VT} {x1 : Int32} {r : (Int32 × VT)} (h : fX10_later V x1 = some r) : CI l G B yX10_later (.code yX10_later cX10_later 4 (some .int)) 17 [.ref (G.2.2 22), .int x1] V r.1 r.2 := by
  intro sz
  refine met_of (Qs := fun sz => QI G sz (r.1) (r.2)) hB (by decide) (Nat.le_of_ble_eq_true rfl) ?_ sz
  intro p e s m args below meth c ls E hw hl
  have hx := en_x E
  have hb := en_b E
  generalize hQ : MQ _ _ _ _ _ _ _ = Q
  have kr : Q = MQ below (QI G s.heap.size r.1 r.2) args s 0 0 (gA G s.heap.size) := hQ.symm
  have hl : lv_has ls 4 [(0, .ref (G.2.2 22)), (1, .int x1)] := hl
  obtain ⟨H, eH⟩ : ∃ H, H = s.heap := ⟨_, rfl⟩
  obtain ⟨locs, elocs⟩ : ∃ z : List Loc, z = [] := ⟨_, rfl⟩
  have hw : HW G s.heap V H locs := by rw [eH, elocs]; exact hw
  show W p l e _ s m args below meth c s.heap [] 0 0 Q (F0 m 0 ls [])
  rw [← eH, ← elocs]
  unfold fX10_later at h
  refine lv_aload_n hx hb dX10_later_0 rfl (lv_at hl 0 rfl) ?_
  refine lv_iconst (v := (0 : Int32)) hx hb dX10_later_1 (by decide) ?_
  obtain ⟨V1, eV1, h⟩ := lt_some h
  refine r_pi E hw 22 0 (N := 29) (C := RX10) (T := TX10) (ty0 := tyX10) (ty := .int) (by decide) rfl rfl (by decide) rfl iw_10 rfl tyX10_ok nmX10 rfl rfl (vp_nar_int _) rfl lf_RX10_3 eV1 dX10_later_2 (fun H locs hw => ?_)
  refine lv_aload_n hx hb dX10_later_5 rfl (lv_at hl 0 rfl) ?_
  refine lv_iload_n hx hb dX10_later_6 rfl (lv_at hl 1 rfl) ?_
  obtain ⟨y3, h2, h⟩ := ob_R_some h
  refine c_SI E hw (kX10_noFog (l := l) (G := G) hB  h2) yy_X10_noFog lm_RX10_404 rfl hl.1 (by decide) (by decide) rfl (Nat.le_of_ble_eq_true rfl) dX10_later_7 (fun H locs hw => ?_)
  refine lv_iconst (v := (1 : Int32)) hx hb dX10_later_10 (by decide) ?_
  obtain ⟨y5, V6, h4, h⟩ := ob_I_some h
  refine c_VI E hw (kX10_throwsIf (l := l) (G := G) hB  h4) yy_X10_throwsIf lm_RX10_233 rfl (by decide) rfl rfl hl.1 (by decide) (by decide) rfl (Nat.le_of_ble_eq_true rfl) dX10_later_11 (fun H locs hw => ?_)
  refine lv_if_eq (tgt := 19) hx hb dX10_later_14 (by decide) (fun c17 => ?_) (fun c17 => ?_)
  · rw [if_pos c17] at h
    refine lv_iconst (v := (0 : Int32)) hx hb dX10_later_19 (by decide) ?_
    refine lv_istore_n (lv' := [(2, .int (0 : Int32)), (0, .ref (G.2.2 22)), (1, .int x1)]) hx hb dX10_later_20 rfl hl (by decide) rfl (fun ls hl => ?_)
    refine lv_iconst (v := (0 : Int32)) hx hb dX10_later_21 (by decide) ?_
    refine lv_istore_n (lv' := [(3, .int (0 : Int32)), (2, .int (0 : Int32)), (0, .ref (G.2.2 22)), (1, .int x1)]) hx hb dX10_later_22 rfl hl (by decide) rfl (fun ls hl => ?_)
    obtain ⟨x16, h15, h⟩ := ob_R_some h
    have h := Option.some.inj h
    subst h
    exact wX10_later_L23 E (fun q e => by subst e; exact kr) FV (V6, x1, (0 : Int32), (0 : Int32)) h15 H locs ls hw (lv_sub hl [2, 3, 1, 0] rfl)
  · rw [if_neg c17] at h
    refine lv_iconst (v := (0 : Int32)) hx hb dX10_later_17 (by decide) ?_
    have h := Option.some.inj h
    subst h
    rw [kr]
    exact r_ri E hw dX10_later_18
/-! ===== AllSawItModel.holds()I ===== -/
theorem dX10_holds_0 : decode cX10_holds 0 = .ok (.aload_n 0, 1) := by decide +kernel
theorem dX10_holds_1 : decode cX10_holds 1 = .ok (.iconst 0, 1) := by decide +kernel
theorem dX10_holds_2 : decode cX10_holds 2 = .ok (.putfield 3, 3) := by decide +kernel
theorem dX10_holds_5 : decode cX10_holds 5 = .ok (.iconst (-1), 1) := by decide +kernel
theorem dX10_holds_6 : decode cX10_holds 6 = .ok (.istore_n 1, 1) := by decide +kernel
theorem dX10_holds_7 : decode cX10_holds 7 = .ok (.iconst (-1), 1) := by decide +kernel
theorem dX10_holds_8 : decode cX10_holds 8 = .ok (.istore_n 2, 1) := by decide +kernel
theorem dX10_holds_9 : decode cX10_holds 9 = .ok (.iconst 0, 1) := by decide +kernel
theorem dX10_holds_10 : decode cX10_holds 10 = .ok (.istore_n 3, 1) := by decide +kernel
theorem dX10_holds_11 : decode cX10_holds 11 = .ok (.iload_n 3, 1) := by decide +kernel
theorem dX10_holds_12 : decode cX10_holds 12 = .ok (.aload_n 0, 1) := by decide +kernel
theorem dX10_holds_13 : decode cX10_holds 13 = .ok (.invokevirtual 62, 3) := by decide +kernel
theorem dX10_holds_16 : decode cX10_holds 16 = .ok (.if_icmp .ge 77, 3) := by decide +kernel
theorem dX10_holds_19 : decode cX10_holds 19 = .ok (.iconst 0, 1) := by decide +kernel
theorem dX10_holds_20 : decode cX10_holds 20 = .ok (.istore 4, 2) := by decide +kernel
theorem dX10_holds_22 : decode cX10_holds 22 = .ok (.iconst 0, 1) := by decide +kernel
theorem dX10_holds_23 : decode cX10_holds 23 = .ok (.istore 5, 2) := by decide +kernel
theorem dX10_holds_25 : decode cX10_holds 25 = .ok (.iload 5, 2) := by decide +kernel
theorem dX10_holds_27 : decode cX10_holds 27 = .ok (.aload_n 0, 1) := by decide +kernel
theorem dX10_holds_28 : decode cX10_holds 28 = .ok (.invokevirtual 80, 3) := by decide +kernel
theorem dX10_holds_31 : decode cX10_holds 31 = .ok (.if_icmp .ge 42, 3) := by decide +kernel
theorem dX10_holds_34 : decode cX10_holds 34 = .ok (.iload 4, 2) := by decide +kernel
theorem dX10_holds_36 : decode cX10_holds 36 = .ok (.aload_n 0, 1) := by decide +kernel
theorem dX10_holds_37 : decode cX10_holds 37 = .ok (.iload 5, 2) := by decide +kernel
theorem dX10_holds_39 : decode cX10_holds 39 = .ok (.invokevirtual 340, 3) := by decide +kernel
theorem dX10_holds_42 : decode cX10_holds 42 = .ok (.ifCond .ne 21, 3) := by decide +kernel
theorem dX10_holds_45 : decode cX10_holds 45 = .ok (.aload_n 0, 1) := by decide +kernel
theorem dX10_holds_46 : decode cX10_holds 46 = .ok (.iload 5, 2) := by decide +kernel
theorem dX10_holds_48 : decode cX10_holds 48 = .ok (.iconst 4, 1) := by decide +kernel
theorem dX10_holds_49 : decode cX10_holds 49 = .ok (.invokevirtual 73, 3) := by decide +kernel
theorem dX10_holds_52 : decode cX10_holds 52 = .ok (.iload_n 3, 1) := by decide +kernel
theorem dX10_holds_53 : decode cX10_holds 53 = .ok (.invokestatic 346, 3) := by decide +kernel
theorem dX10_holds_56 : decode cX10_holds 56 = .ok (.ifCond .ne 7, 3) := by decide +kernel
theorem dX10_holds_59 : decode cX10_holds 59 = .ok (.iconst 1, 1) := by decide +kernel
theorem dX10_holds_60 : decode cX10_holds 60 = .ok (.goto 4, 3) := by decide +kernel
theorem dX10_holds_63 : decode cX10_holds 63 = .ok (.iconst 0, 1) := by decide +kernel
theorem dX10_holds_64 : decode cX10_holds 64 = .ok (.iadd, 1) := by decide +kernel
theorem dX10_holds_65 : decode cX10_holds 65 = .ok (.istore 4, 2) := by decide +kernel
theorem dX10_holds_67 : decode cX10_holds 67 = .ok (.iinc 5 1, 3) := by decide +kernel
theorem dX10_holds_70 : decode cX10_holds 70 = .ok (.goto (-45), 3) := by decide +kernel
theorem dX10_holds_73 : decode cX10_holds 73 = .ok (.iload 4, 2) := by decide +kernel
theorem dX10_holds_75 : decode cX10_holds 75 = .ok (.iload_n 2, 1) := by decide +kernel
theorem dX10_holds_76 : decode cX10_holds 76 = .ok (.if_icmp .gt 6, 3) := by decide +kernel
theorem dX10_holds_79 : decode cX10_holds 79 = .ok (.goto 8, 3) := by decide +kernel
theorem dX10_holds_82 : decode cX10_holds 82 = .ok (.iload_n 3, 1) := by decide +kernel
theorem dX10_holds_83 : decode cX10_holds 83 = .ok (.istore_n 1, 1) := by decide +kernel
theorem dX10_holds_84 : decode cX10_holds 84 = .ok (.iload 4, 2) := by decide +kernel
theorem dX10_holds_86 : decode cX10_holds 86 = .ok (.istore_n 2, 1) := by decide +kernel
theorem dX10_holds_87 : decode cX10_holds 87 = .ok (.iinc 3 1, 3) := by decide +kernel
theorem dX10_holds_90 : decode cX10_holds 90 = .ok (.goto (-79), 3) := by decide +kernel
theorem dX10_holds_93 : decode cX10_holds 93 = .ok (.iload_n 1, 1) := by decide +kernel
theorem dX10_holds_94 : decode cX10_holds 94 = .ok (.ireturn, 1) := by decide +kernel
noncomputable def fX10_holds_L25 (V : VT) (u1 : Int32) (u2 : Int32) (u3 : Int32) (u4 : Int32) (u5 : Int32) : Option ((VT × Int32 × Int32 × Int32 × Int32 × Int32) ⊕ (VT × Int32 × Int32 × Int32 × Int32)) := ob_R (fX10_deeds V ) fun y5 => if y5 ≤ u5 then (some (.inr ((V, u1, u2, u3, u4)))) else (ob_R (fX10_isSo V u5) fun y7 => if y7 = 0 then (ob_R (fX10_ofDeed V u5 (4 : Int32)) fun y11 => ob_R (fX10_has V y11 u3) fun y13 => if y13 = 0 then (lt_ (u4 + (1 : Int32)) fun y16 => lt_ (u5 + (1 : Int32)) fun y17 => some (.inl (V, u1, u2, u3, y16, y17))) else (lt_ (u4 + (0 : Int32)) fun y14 => lt_ (u5 + (1 : Int32)) fun y15 => some (.inl (V, u1, u2, u3, y14, y15)))) else (lt_ (u4 + (0 : Int32)) fun y8 => lt_ (u5 + (1 : Int32)) fun y9 => some (.inl (V, u1, u2, u3, y8, y9))))
noncomputable def iX10_holds_L25 : (VT × Int32 × Int32 × Int32 × Int32 × Int32) → Option ((VT × Int32 × Int32 × Int32 × Int32 × Int32) ⊕ (VT × Int32 × Int32 × Int32 × Int32)) := fun q => fX10_holds_L25 (q.1) (q.2.1) (q.2.2.1) (q.2.2.2.1) (q.2.2.2.2.1) (q.2.2.2.2.2)
noncomputable def fX10_holds_L11 (V : VT) (u1 : Int32) (u2 : Int32) (u3 : Int32) : Option ((VT × Int32 × Int32 × Int32) ⊕ (Int32 × VT)) := ob_R (fX10_houses V ) fun y3 => if y3 ≤ u3 then (some (.inr ((u1, V)))) else (ob_R (it_ (iX10_holds_L25) FV (V, u1, u2, u3, (0 : Int32), (0 : Int32))) fun x22 => (dt5_ x22 fun V27 y23 y24 y25 y26 => if y24 < y26 then (lt_ (y25 + (1 : Int32)) fun y28 => some (.inl (V27, y25, y26, y28))) else (lt_ (y25 + (1 : Int32)) fun y29 => some (.inl (V27, y23, y24, y29)))))
noncomputable def iX10_holds_L11 : (VT × Int32 × Int32 × Int32) → Option ((VT × Int32 × Int32 × Int32) ⊕ (Int32 × VT)) := fun q => fX10_holds_L11 (q.1) (q.2.1) (q.2.2.1) (q.2.2.2)
noncomputable def fX10_holds (V : VT) : Option (Int32 × VT) := lt_ (va_up V 22 (upd (V 22) 0 (0 : Int32))) fun V1 => ob_R (it_ (iX10_holds_L11) FV (V1, (-1 : Int32), (-1 : Int32), (0 : Int32))) fun x33 => some x33
set_option maxHeartbeats 4000000 in
set_option maxRecDepth 100000 in
theorem wX10_holds_L25 {p : Program} {l : Launch} {e : Env} {s : State} {m : MethodId} {args : Array Value} {below : List Frame} {meth : Method} {c : Code} {G : GT} {B : BGt} {Q : State → Prop} (E : En p s m args c meth cX10_holds 6 RX10 (some .int) G B) {x : (VT × Int32 × Int32 × Int32 × Int32)} (ke : ∀ q : (VT × Int32 × Int32 × Int32 × Int32), x = q → ∀ (H : Heap) (locs : List Loc) (ls : Array Slot), HW G s.heap (q.1) H locs → lv_has ls 6 [(0, .ref (G.2.2 22)), (1, .int (q.2.1)), (2, .int (q.2.2.1)), (3, .int (q.2.2.2.1)), (4, .int (q.2.2.2.2))] → W p l e (rmD 5) s m args below meth c H locs 0 0 Q (F0 m 73 ls [])) : ∀ (n : Nat) (q : (VT × Int32 × Int32 × Int32 × Int32 × Int32)), it_ (iX10_holds_L25) n q = some x → ∀ (H : Heap) (locs : List Loc) (ls : Array Slot), HW G s.heap (q.1) H locs → lv_has ls 6 [(0, .ref (G.2.2 22)), (1, .int (q.2.1)), (2, .int (q.2.2.1)), (3, .int (q.2.2.2.1)), (4, .int (q.2.2.2.2.1)), (5, .int (q.2.2.2.2.2))] → W p l e (rmD 5) s m args below meth c H locs 0 0 Q (F0 m 25 ls []) := by
  have hx := en_x E
  have hb := en_b E
  have hB := en_B E
  refine it_W (fun q : (VT × Int32 × Int32 × Int32 × Int32 × Int32) => ∀ (H : Heap) (locs : List Loc) (ls : Array Slot), HW G s.heap (q.1) H locs → lv_has ls 6 [(0, .ref (G.2.2 22)), (1, .int (q.2.1)), (2, .int (q.2.2.1)), (3, .int (q.2.2.2.1)), (4, .int (q.2.2.2.2.1)), (5, .int (q.2.2.2.2.2))] → W p l e (rmD 5) s m args below meth c H locs 0 0 Q (F0 m 25 ls [])) x ?_
  intro q r h kc kx
  obtain ⟨V, u1, u2, u3, u4, u5⟩ := q
  intro H locs ls hw hl
  have h : fX10_holds_L25 V u1 u2 u3 u4 u5 = some r := h
  have hw : HW G s.heap V H locs := hw
  have hl : lv_has ls 6 [(0, .ref (G.2.2 22)), (1, .int u1), (2, .int u2), (3, .int u3), (4, .int u4), (5, .int u5)] := hl
  have ke : ∀ q : (VT × Int32 × Int32 × Int32 × Int32), r = .inr (q) → ∀ (H : Heap) (locs : List Loc) (ls : Array Slot), HW G s.heap (q.1) H locs → lv_has ls 6 [(0, .ref (G.2.2 22)), (1, .int (q.2.1)), (2, .int (q.2.2.1)), (3, .int (q.2.2.2.1)), (4, .int (q.2.2.2.2))] → W p l e (rmD 5) s m args below meth c H locs 0 0 Q (F0 m 73 ls []) := fun q e => ke q (kx _ e).symm
  unfold fX10_holds_L25 at h
  refine lv_iload hx hb dX10_holds_25 (lv_at hl 5 rfl) ?_
  refine lv_aload_n hx hb dX10_holds_27 rfl (lv_at hl 0 rfl) ?_
  obtain ⟨y5, h4, h⟩ := ob_R_some h
  refine c_VI E hw (kX10_deeds (l := l) (G := G) hB  h4) yy_X10_deeds lm_RX10_80 rfl (by decide) rfl rfl hl.1 (by decide) (by decide) rfl (Nat.le_of_ble_eq_true rfl) dX10_holds_28 (fun H locs hw => ?_)
  refine lv_icmp_ge (tgt := 73) hx hb dX10_holds_31 (by decide) (fun c20 => ?_) (fun c20 => ?_)
  · rw [if_pos c20] at h
    exact ke (V, u1, u2, u3, u4) (Option.some.inj h).symm H locs ls hw (lv_sub hl [0, 1, 2, 3, 4] rfl)
  · rw [if_neg c20] at h
    refine lv_iload hx hb dX10_holds_34 (lv_at hl 4 rfl) ?_
    refine lv_aload_n hx hb dX10_holds_36 rfl (lv_at hl 0 rfl) ?_
    refine lv_iload hx hb dX10_holds_37 (lv_at hl 5 rfl) ?_
    obtain ⟨y7, h6, h⟩ := ob_R_some h
    refine c_VI E hw (kX10_isSo (l := l) (G := G) hB  h6) yy_X10_isSo lm_RX10_340 rfl (by decide) rfl rfl hl.1 (by decide) (by decide) rfl (Nat.le_of_ble_eq_true rfl) dX10_holds_39 (fun H locs hw => ?_)
    refine lv_if_ne (tgt := 63) hx hb dX10_holds_42 (by decide) (fun c19 => ?_) (fun c19 => ?_)
    · rw [if_neg c19] at h
      refine lv_iconst (v := (0 : Int32)) hx hb dX10_holds_63 (by decide) ?_
      refine lv_iadd hx hb dX10_holds_64 ?_
      obtain ⟨y8, ey8, h⟩ := lt_some h
      refine lv_eqi ey8 ?_
      refine lv_istore (lv' := [(4, .int y8), (0, .ref (G.2.2 22)), (1, .int u1), (2, .int u2), (3, .int u3), (5, .int u5)]) hx hb dX10_holds_65 hl (by decide) rfl (fun ls hl => ?_)
      obtain ⟨y9, ey9, h⟩ := lt_some h
      refine lv_iinc (v := y9) (lv' := [(5, .int y9), (4, .int y8), (0, .ref (G.2.2 22)), (1, .int u1), (2, .int u2), (3, .int u3)]) hx hb dX10_holds_67 hl (k := 5) rfl (by rw [ey9]; rfl) (by decide) rfl (fun ls hl => ?_)
      refine lv_goto (tgt := 25) hx hb dX10_holds_70 (by decide) ?_
      exact kc (V, u1, u2, u3, y8, y9) (Option.some.inj h).symm H locs ls hw (lv_sub hl [2, 3, 4, 5, 1, 0] rfl)
    · rw [if_pos c19] at h
      refine lv_aload_n hx hb dX10_holds_45 rfl (lv_at hl 0 rfl) ?_
      refine lv_iload hx hb dX10_holds_46 (lv_at hl 5 rfl) ?_
      refine lv_iconst (v := (4 : Int32)) hx hb dX10_holds_48 (by decide) ?_
      obtain ⟨y11, h10, h⟩ := ob_R_some h
      refine c_VI E hw (kX10_ofDeed (l := l) (G := G) hB  h10) yy_X10_ofDeed lm_RX10_73 rfl (by decide) rfl rfl hl.1 (by decide) (by decide) rfl (Nat.le_of_ble_eq_true rfl) dX10_holds_49 (fun H locs hw => ?_)
      refine lv_iload_n hx hb dX10_holds_52 rfl (lv_at hl 3 rfl) ?_
      obtain ⟨y13, h12, h⟩ := ob_R_some h
      refine c_SI E hw (kX10_has (l := l) (G := G) hB  h12) yy_X10_has lm_RX10_346 rfl hl.1 (by decide) (by decide) rfl (Nat.le_of_ble_eq_true rfl) dX10_holds_53 (fun H locs hw => ?_)
      refine lv_if_ne (tgt := 63) hx hb dX10_holds_56 (by decide) (fun c18 => ?_) (fun c18 => ?_)
      · rw [if_neg c18] at h
        refine lv_iconst (v := (0 : Int32)) hx hb dX10_holds_63 (by decide) ?_
        refine lv_iadd hx hb dX10_holds_64 ?_
        obtain ⟨y14, ey14, h⟩ := lt_some h
        refine lv_eqi ey14 ?_
        refine lv_istore (lv' := [(4, .int y14), (0, .ref (G.2.2 22)), (1, .int u1), (2, .int u2), (3, .int u3), (5, .int u5)]) hx hb dX10_holds_65 hl (by decide) rfl (fun ls hl => ?_)
        obtain ⟨y15, ey15, h⟩ := lt_some h
        refine lv_iinc (v := y15) (lv' := [(5, .int y15), (4, .int y14), (0, .ref (G.2.2 22)), (1, .int u1), (2, .int u2), (3, .int u3)]) hx hb dX10_holds_67 hl (k := 5) rfl (by rw [ey15]; rfl) (by decide) rfl (fun ls hl => ?_)
        refine lv_goto (tgt := 25) hx hb dX10_holds_70 (by decide) ?_
        exact kc (V, u1, u2, u3, y14, y15) (Option.some.inj h).symm H locs ls hw (lv_sub hl [2, 3, 4, 5, 1, 0] rfl)
      · rw [if_pos c18] at h
        refine lv_iconst (v := (1 : Int32)) hx hb dX10_holds_59 (by decide) ?_
        refine lv_goto (tgt := 64) hx hb dX10_holds_60 (by decide) ?_
        refine lv_iadd hx hb dX10_holds_64 ?_
        obtain ⟨y16, ey16, h⟩ := lt_some h
        refine lv_eqi ey16 ?_
        refine lv_istore (lv' := [(4, .int y16), (0, .ref (G.2.2 22)), (1, .int u1), (2, .int u2), (3, .int u3), (5, .int u5)]) hx hb dX10_holds_65 hl (by decide) rfl (fun ls hl => ?_)
        obtain ⟨y17, ey17, h⟩ := lt_some h
        refine lv_iinc (v := y17) (lv' := [(5, .int y17), (4, .int y16), (0, .ref (G.2.2 22)), (1, .int u1), (2, .int u2), (3, .int u3)]) hx hb dX10_holds_67 hl (k := 5) rfl (by rw [ey17]; rfl) (by decide) rfl (fun ls hl => ?_)
        refine lv_goto (tgt := 25) hx hb dX10_holds_70 (by decide) ?_
        exact kc (V, u1, u2, u3, y16, y17) (Option.some.inj h).symm H locs ls hw (lv_sub hl [2, 3, 4, 5, 1, 0] rfl)
set_option maxHeartbeats 4000000 in
set_option maxRecDepth 100000 in
theorem wX10_holds_L11 {p : Program} {l : Launch} {e : Env} {s : State} {m : MethodId} {args : Array Value} {below : List Frame} {meth : Method} {c : Code} {G : GT} {B : BGt} {Q : State → Prop} (E : En p s m args c meth cX10_holds 6 RX10 (some .int) G B) {x : (Int32 × VT)} (kr : ∀ q : (Int32 × VT), x = q → Q = MQ below (QI G s.heap.size q.1 q.2) args s 0 0 (gA G s.heap.size)) : ∀ (n : Nat) (q : (VT × Int32 × Int32 × Int32)), it_ (iX10_holds_L11) n q = some x → ∀ (H : Heap) (locs : List Loc) (ls : Array Slot), HW G s.heap (q.1) H locs → lv_has ls 6 [(0, .ref (G.2.2 22)), (1, .int (q.2.1)), (2, .int (q.2.2.1)), (3, .int (q.2.2.2))] → W p l e (rmD 5) s m args below meth c H locs 0 0 Q (F0 m 11 ls []) := by
  have hx := en_x E
  have hb := en_b E
  have hB := en_B E
  refine it_W (fun q : (VT × Int32 × Int32 × Int32) => ∀ (H : Heap) (locs : List Loc) (ls : Array Slot), HW G s.heap (q.1) H locs → lv_has ls 6 [(0, .ref (G.2.2 22)), (1, .int (q.2.1)), (2, .int (q.2.2.1)), (3, .int (q.2.2.2))] → W p l e (rmD 5) s m args below meth c H locs 0 0 Q (F0 m 11 ls [])) x ?_
  intro q r h kc kx
  obtain ⟨V, u1, u2, u3⟩ := q
  intro H locs ls hw hl
  have h : fX10_holds_L11 V u1 u2 u3 = some r := h
  have hw : HW G s.heap V H locs := hw
  have hl : lv_has ls 6 [(0, .ref (G.2.2 22)), (1, .int u1), (2, .int u2), (3, .int u3)] := hl
  have kr : ∀ q : (Int32 × VT), r = .inr (q) → Q = MQ below (QI G s.heap.size q.1 q.2) args s 0 0 (gA G s.heap.size) := fun q e => kr q (kx _ e).symm
  unfold fX10_holds_L11 at h
  refine lv_iload_n hx hb dX10_holds_11 rfl (lv_at hl 3 rfl) ?_
  refine lv_aload_n hx hb dX10_holds_12 rfl (lv_at hl 0 rfl) ?_
  obtain ⟨y3, h2, h⟩ := ob_R_some h
  refine c_VI E hw (kX10_houses (l := l) (G := G) hB  h2) yy_X10_houses lm_RX10_62 rfl (by decide) rfl rfl hl.1 (by decide) (by decide) rfl (Nat.le_of_ble_eq_true rfl) dX10_holds_13 (fun H locs hw => ?_)
  refine lv_icmp_ge (tgt := 93) hx hb dX10_holds_16 (by decide) (fun c31 => ?_) (fun c31 => ?_)
  · rw [if_pos c31] at h
    refine lv_iload_n hx hb dX10_holds_93 rfl (lv_at hl 1 rfl) ?_
    rw [kr (u1, V) (Option.some.inj h).symm]
    exact r_ri E hw dX10_holds_94
  · rw [if_neg c31] at h
    refine lv_iconst (v := (0 : Int32)) hx hb dX10_holds_19 (by decide) ?_
    refine lv_istore (lv' := [(4, .int (0 : Int32)), (0, .ref (G.2.2 22)), (1, .int u1), (2, .int u2), (3, .int u3)]) hx hb dX10_holds_20 hl (by decide) rfl (fun ls hl => ?_)
    refine lv_iconst (v := (0 : Int32)) hx hb dX10_holds_22 (by decide) ?_
    refine lv_istore (lv' := [(5, .int (0 : Int32)), (4, .int (0 : Int32)), (0, .ref (G.2.2 22)), (1, .int u1), (2, .int u2), (3, .int u3)]) hx hb dX10_holds_23 hl (by decide) rfl (fun ls hl => ?_)
    obtain ⟨x22, h21, h⟩ := ob_R_some h
    obtain ⟨V27, y23, y24, y25, y26⟩ := x22
    refine wX10_holds_L25 E (fun q e H locs ls hw hl => ?_) FV (V, u1, u2, u3, (0 : Int32), (0 : Int32)) h21 H locs ls hw (lv_sub hl [2, 3, 4, 5, 1, 0] rfl)
    subst e
    have hw : HW G s.heap V27 H locs := hw
    have hl : lv_has ls 6 [(0, .ref (G.2.2 22)), (1, .int y23), (2, .int y24), (3, .int y25), (4, .int y26)] := hl
    have h := dt5_eq h
    refine lv_iload hx hb dX10_holds_73 (lv_at hl 4 rfl) ?_
    refine lv_iload_n hx hb dX10_holds_75 rfl (lv_at hl 2 rfl) ?_
    refine lv_icmp_gt (tgt := 82) hx hb dX10_holds_76 (by decide) (fun c30 => ?_) (fun c30 => ?_)
    · rw [if_pos c30] at h
      refine lv_iload_n hx hb dX10_holds_82 rfl (lv_at hl 3 rfl) ?_
      refine lv_istore_n (lv' := [(1, .int y25), (0, .ref (G.2.2 22)), (2, .int y24), (3, .int y25), (4, .int y26)]) hx hb dX10_holds_83 rfl hl (by decide) rfl (fun ls hl => ?_)
      refine lv_iload hx hb dX10_holds_84 (lv_at hl 4 rfl) ?_
      refine lv_istore_n (lv' := [(2, .int y26), (1, .int y25), (0, .ref (G.2.2 22)), (3, .int y25), (4, .int y26)]) hx hb dX10_holds_86 rfl hl (by decide) rfl (fun ls hl => ?_)
      obtain ⟨y28, ey28, h⟩ := lt_some h
      refine lv_iinc (v := y28) (lv' := [(3, .int y28), (2, .int y26), (1, .int y25), (0, .ref (G.2.2 22)), (4, .int y26)]) hx hb dX10_holds_87 hl (k := 3) rfl (by rw [ey28]; rfl) (by decide) rfl (fun ls hl => ?_)
      refine lv_goto (tgt := 11) hx hb dX10_holds_90 (by decide) ?_
      exact kc (V27, y25, y26, y28) (Option.some.inj h).symm H locs ls hw (lv_sub hl [3, 2, 1, 0] rfl)
    · rw [if_neg c30] at h
      refine lv_goto (tgt := 87) hx hb dX10_holds_79 (by decide) ?_
      obtain ⟨y29, ey29, h⟩ := lt_some h
      refine lv_iinc (v := y29) (lv' := [(3, .int y29), (0, .ref (G.2.2 22)), (1, .int y23), (2, .int y24), (4, .int y26)]) hx hb dX10_holds_87 hl (k := 3) rfl (by rw [ey29]; rfl) (by decide) rfl (fun ls hl => ?_)
      refine lv_goto (tgt := 11) hx hb dX10_holds_90 (by decide) ?_
      exact kc (V27, y23, y24, y29) (Option.some.inj h).symm H locs ls hw (lv_sub hl [1, 2, 3, 0] rfl)
set_option maxHeartbeats 4000000 in
set_option maxRecDepth 100000 in
theorem kX10_holds {l : Launch} {G : GT} {B : BGt} (hB : BGok B) {V : VT} {r : (Int32 × VT)} (h : fX10_holds V = some r) : CI l G B yX10_holds (.code yX10_holds cX10_holds 6 (some .int)) 5 [.ref (G.2.2 22)] V r.1 r.2 := by
  intro sz
  refine met_of (Qs := fun sz => QI G sz (r.1) (r.2)) hB (by decide) (Nat.le_of_ble_eq_true rfl) ?_ sz
  intro p e s m args below meth c ls E hw hl
  have hx := en_x E
  have hb := en_b E
  generalize hQ : MQ _ _ _ _ _ _ _ = Q
  have kr : Q = MQ below (QI G s.heap.size r.1 r.2) args s 0 0 (gA G s.heap.size) := hQ.symm
  have hl : lv_has ls 6 [(0, .ref (G.2.2 22))] := hl
  obtain ⟨H, eH⟩ : ∃ H, H = s.heap := ⟨_, rfl⟩
  obtain ⟨locs, elocs⟩ : ∃ z : List Loc, z = [] := ⟨_, rfl⟩
  have hw : HW G s.heap V H locs := by rw [eH, elocs]; exact hw
  show W p l e _ s m args below meth c s.heap [] 0 0 Q (F0 m 0 ls [])
  rw [← eH, ← elocs]
  unfold fX10_holds at h
  refine lv_aload_n hx hb dX10_holds_0 rfl (lv_at hl 0 rfl) ?_
  refine lv_iconst (v := (0 : Int32)) hx hb dX10_holds_1 (by decide) ?_
  obtain ⟨V1, eV1, h⟩ := lt_some h
  refine r_pi E hw 22 0 (N := 29) (C := RX10) (T := TX10) (ty0 := tyX10) (ty := .int) (by decide) rfl rfl (by decide) rfl iw_10 rfl tyX10_ok nmX10 rfl rfl (vp_nar_int _) rfl lf_RX10_3 eV1 dX10_holds_2 (fun H locs hw => ?_)
  refine lv_iconst (v := (-1 : Int32)) hx hb dX10_holds_5 (by decide) ?_
  refine lv_istore_n (lv' := [(1, .int (-1 : Int32)), (0, .ref (G.2.2 22))]) hx hb dX10_holds_6 rfl hl (by decide) rfl (fun ls hl => ?_)
  refine lv_iconst (v := (-1 : Int32)) hx hb dX10_holds_7 (by decide) ?_
  refine lv_istore_n (lv' := [(2, .int (-1 : Int32)), (1, .int (-1 : Int32)), (0, .ref (G.2.2 22))]) hx hb dX10_holds_8 rfl hl (by decide) rfl (fun ls hl => ?_)
  refine lv_iconst (v := (0 : Int32)) hx hb dX10_holds_9 (by decide) ?_
  refine lv_istore_n (lv' := [(3, .int (0 : Int32)), (2, .int (-1 : Int32)), (1, .int (-1 : Int32)), (0, .ref (G.2.2 22))]) hx hb dX10_holds_10 rfl hl (by decide) rfl (fun ls hl => ?_)
  obtain ⟨x33, h32, h⟩ := ob_R_some h
  have h := Option.some.inj h
  subst h
  exact wX10_holds_L11 E (fun q e => by subst e; exact kr) FV (V1, (-1 : Int32), (-1 : Int32), (0 : Int32)) h32 H locs ls hw (lv_sub hl [3, 2, 1, 0] rfl)
/-! ===== AllSawItModel.book(Z)I ===== -/
theorem dX10_book_0 : decode cX10_book 0 = .ok (.aload_n 0, 1) := by decide +kernel
theorem dX10_book_1 : decode cX10_book 1 = .ok (.iconst 0, 1) := by decide +kernel
theorem dX10_book_2 : decode cX10_book 2 = .ok (.putfield 3, 3) := by decide +kernel
theorem dX10_book_5 : decode cX10_book 5 = .ok (.iconst 0, 1) := by decide +kernel
theorem dX10_book_6 : decode cX10_book 6 = .ok (.istore_n 2, 1) := by decide +kernel
theorem dX10_book_7 : decode cX10_book 7 = .ok (.iconst 0, 1) := by decide +kernel
theorem dX10_book_8 : decode cX10_book 8 = .ok (.istore_n 3, 1) := by decide +kernel
theorem dX10_book_9 : decode cX10_book 9 = .ok (.iload_n 3, 1) := by decide +kernel
theorem dX10_book_10 : decode cX10_book 10 = .ok (.aload_n 0, 1) := by decide +kernel
theorem dX10_book_11 : decode cX10_book 11 = .ok (.invokevirtual 80, 3) := by decide +kernel
theorem dX10_book_14 : decode cX10_book 14 = .ok (.if_icmp .ge 36, 3) := by decide +kernel
theorem dX10_book_17 : decode cX10_book 17 = .ok (.iload_n 2, 1) := by decide +kernel
theorem dX10_book_18 : decode cX10_book 18 = .ok (.aload_n 0, 1) := by decide +kernel
theorem dX10_book_19 : decode cX10_book 19 = .ok (.iload_n 3, 1) := by decide +kernel
theorem dX10_book_20 : decode cX10_book 20 = .ok (.invokevirtual 340, 3) := by decide +kernel
theorem dX10_book_23 : decode cX10_book 23 = .ok (.ifCond .ne 18, 3) := by decide +kernel
theorem dX10_book_26 : decode cX10_book 26 = .ok (.aload_n 0, 1) := by decide +kernel
theorem dX10_book_27 : decode cX10_book 27 = .ok (.iload_n 3, 1) := by decide +kernel
theorem dX10_book_28 : decode cX10_book 28 = .ok (.iconst 3, 1) := by decide +kernel
theorem dX10_book_29 : decode cX10_book 29 = .ok (.invokevirtual 73, 3) := by decide +kernel
theorem dX10_book_32 : decode cX10_book 32 = .ok (.ifCond .eq 9, 3) := by decide +kernel
theorem dX10_book_35 : decode cX10_book 35 = .ok (.iconst 1, 1) := by decide +kernel
theorem dX10_book_36 : decode cX10_book 36 = .ok (.iload_n 3, 1) := by decide +kernel
theorem dX10_book_37 : decode cX10_book 37 = .ok (.ishl, 1) := by decide +kernel
theorem dX10_book_38 : decode cX10_book 38 = .ok (.goto 4, 3) := by decide +kernel
theorem dX10_book_41 : decode cX10_book 41 = .ok (.iconst 0, 1) := by decide +kernel
theorem dX10_book_42 : decode cX10_book 42 = .ok (.ior, 1) := by decide +kernel
theorem dX10_book_43 : decode cX10_book 43 = .ok (.istore_n 2, 1) := by decide +kernel
theorem dX10_book_44 : decode cX10_book 44 = .ok (.iinc 3 1, 3) := by decide +kernel
theorem dX10_book_47 : decode cX10_book 47 = .ok (.goto (-38), 3) := by decide +kernel
theorem dX10_book_50 : decode cX10_book 50 = .ok (.iload_n 1, 1) := by decide +kernel
theorem dX10_book_51 : decode cX10_book 51 = .ok (.ifCond .eq 7, 3) := by decide +kernel
theorem dX10_book_54 : decode cX10_book 54 = .ok (.iload_n 2, 1) := by decide +kernel
theorem dX10_book_55 : decode cX10_book 55 = .ok (.goto 7, 3) := by decide +kernel
theorem dX10_book_58 : decode cX10_book 58 = .ok (.aload_n 0, 1) := by decide +kernel
theorem dX10_book_59 : decode cX10_book 59 = .ok (.invokevirtual 410, 3) := by decide +kernel
theorem dX10_book_62 : decode cX10_book 62 = .ok (.ireturn, 1) := by decide +kernel
noncomputable def fX10_book_L9 (V : VT) (u1 : Int32) (u2 : Int32) (u3 : Int32) : Option ((VT × Int32 × Int32 × Int32) ⊕ (VT × Int32 × Int32)) := ob_R (fX10_deeds V ) fun y3 => if y3 ≤ u3 then (some (.inr ((V, u1, u2)))) else (ob_R (fX10_isSo V u3) fun y5 => if y5 = 0 then (ob_R (fX10_ofDeed V u3 (3 : Int32)) fun y9 => if y9 = 0 then (lt_ (u2 ||| (0 : Int32)) fun y10 => lt_ (u3 + (1 : Int32)) fun y11 => some (.inl (V, u1, y10, y11))) else (lt_ (u2 ||| ((1 : Int32) <<< (u3 &&& 31))) fun y12 => lt_ (u3 + (1 : Int32)) fun y13 => some (.inl (V, u1, y12, y13)))) else (lt_ (u2 ||| (0 : Int32)) fun y6 => lt_ (u3 + (1 : Int32)) fun y7 => some (.inl (V, u1, y6, y7))))
noncomputable def iX10_book_L9 : (VT × Int32 × Int32 × Int32) → Option ((VT × Int32 × Int32 × Int32) ⊕ (VT × Int32 × Int32)) := fun q => fX10_book_L9 (q.1) (q.2.1) (q.2.2.1) (q.2.2.2)
noncomputable def fX10_book (V : VT) (x1 : Int32) : Option (Int32 × VT) := lt_ (va_up V 22 (upd (V 22) 0 (0 : Int32))) fun V1 => ob_R (it_ (iX10_book_L9) FV (V1, x1, (0 : Int32), (0 : Int32))) fun x18 => (dt3_ x18 fun V21 y19 y20 => if y19 = 0 then (ob_R (fX10_soOnes V21 ) fun y23 => some (y23, V21)) else (some (y20, V21)))
set_option maxHeartbeats 4000000 in
set_option maxRecDepth 100000 in
theorem wX10_book_L9 {p : Program} {l : Launch} {e : Env} {s : State} {m : MethodId} {args : Array Value} {below : List Frame} {meth : Method} {c : Code} {G : GT} {B : BGt} {Q : State → Prop} (E : En p s m args c meth cX10_book 4 RX10 (some .int) G B) {x : (VT × Int32 × Int32)} (ke : ∀ q : (VT × Int32 × Int32), x = q → ∀ (H : Heap) (locs : List Loc) (ls : Array Slot), HW G s.heap (q.1) H locs → lv_has ls 4 [(0, .ref (G.2.2 22)), (1, .int (q.2.1)), (2, .int (q.2.2))] → W p l e (rmD 6) s m args below meth c H locs 0 0 Q (F0 m 50 ls [])) : ∀ (n : Nat) (q : (VT × Int32 × Int32 × Int32)), it_ (iX10_book_L9) n q = some x → ∀ (H : Heap) (locs : List Loc) (ls : Array Slot), HW G s.heap (q.1) H locs → lv_has ls 4 [(0, .ref (G.2.2 22)), (1, .int (q.2.1)), (2, .int (q.2.2.1)), (3, .int (q.2.2.2))] → W p l e (rmD 6) s m args below meth c H locs 0 0 Q (F0 m 9 ls []) := by
  have hx := en_x E
  have hb := en_b E
  have hB := en_B E
  refine it_W (fun q : (VT × Int32 × Int32 × Int32) => ∀ (H : Heap) (locs : List Loc) (ls : Array Slot), HW G s.heap (q.1) H locs → lv_has ls 4 [(0, .ref (G.2.2 22)), (1, .int (q.2.1)), (2, .int (q.2.2.1)), (3, .int (q.2.2.2))] → W p l e (rmD 6) s m args below meth c H locs 0 0 Q (F0 m 9 ls [])) x ?_
  intro q r h kc kx
  obtain ⟨V, u1, u2, u3⟩ := q
  intro H locs ls hw hl
  have h : fX10_book_L9 V u1 u2 u3 = some r := h
  have hw : HW G s.heap V H locs := hw
  have hl : lv_has ls 4 [(0, .ref (G.2.2 22)), (1, .int u1), (2, .int u2), (3, .int u3)] := hl
  have ke : ∀ q : (VT × Int32 × Int32), r = .inr (q) → ∀ (H : Heap) (locs : List Loc) (ls : Array Slot), HW G s.heap (q.1) H locs → lv_has ls 4 [(0, .ref (G.2.2 22)), (1, .int (q.2.1)), (2, .int (q.2.2))] → W p l e (rmD 6) s m args below meth c H locs 0 0 Q (F0 m 50 ls []) := fun q e => ke q (kx _ e).symm
  unfold fX10_book_L9 at h
  refine lv_iload_n hx hb dX10_book_9 rfl (lv_at hl 3 rfl) ?_
  refine lv_aload_n hx hb dX10_book_10 rfl (lv_at hl 0 rfl) ?_
  obtain ⟨y3, h2, h⟩ := ob_R_some h
  refine c_VI E hw (kX10_deeds (l := l) (G := G) hB  h2) yy_X10_deeds lm_RX10_80 rfl (by decide) rfl rfl hl.1 (by decide) (by decide) rfl (Nat.le_of_ble_eq_true rfl) dX10_book_11 (fun H locs hw => ?_)
  refine lv_icmp_ge (tgt := 50) hx hb dX10_book_14 (by decide) (fun c16 => ?_) (fun c16 => ?_)
  · rw [if_pos c16] at h
    exact ke (V, u1, u2) (Option.some.inj h).symm H locs ls hw (lv_sub hl [0, 1, 2] rfl)
  · rw [if_neg c16] at h
    refine lv_iload_n hx hb dX10_book_17 rfl (lv_at hl 2 rfl) ?_
    refine lv_aload_n hx hb dX10_book_18 rfl (lv_at hl 0 rfl) ?_
    refine lv_iload_n hx hb dX10_book_19 rfl (lv_at hl 3 rfl) ?_
    obtain ⟨y5, h4, h⟩ := ob_R_some h
    refine c_VI E hw (kX10_isSo (l := l) (G := G) hB  h4) yy_X10_isSo lm_RX10_340 rfl (by decide) rfl rfl hl.1 (by decide) (by decide) rfl (Nat.le_of_ble_eq_true rfl) dX10_book_20 (fun H locs hw => ?_)
    refine lv_if_ne (tgt := 41) hx hb dX10_book_23 (by decide) (fun c15 => ?_) (fun c15 => ?_)
    · rw [if_neg c15] at h
      refine lv_iconst (v := (0 : Int32)) hx hb dX10_book_41 (by decide) ?_
      refine lv_ior hx hb dX10_book_42 ?_
      obtain ⟨y6, ey6, h⟩ := lt_some h
      refine lv_eqi ey6 ?_
      refine lv_istore_n (lv' := [(2, .int y6), (0, .ref (G.2.2 22)), (1, .int u1), (3, .int u3)]) hx hb dX10_book_43 rfl hl (by decide) rfl (fun ls hl => ?_)
      obtain ⟨y7, ey7, h⟩ := lt_some h
      refine lv_iinc (v := y7) (lv' := [(3, .int y7), (2, .int y6), (0, .ref (G.2.2 22)), (1, .int u1)]) hx hb dX10_book_44 hl (k := 3) rfl (by rw [ey7]; rfl) (by decide) rfl (fun ls hl => ?_)
      refine lv_goto (tgt := 9) hx hb dX10_book_47 (by decide) ?_
      exact kc (V, u1, y6, y7) (Option.some.inj h).symm H locs ls hw (lv_sub hl [2, 3, 1, 0] rfl)
    · rw [if_pos c15] at h
      refine lv_aload_n hx hb dX10_book_26 rfl (lv_at hl 0 rfl) ?_
      refine lv_iload_n hx hb dX10_book_27 rfl (lv_at hl 3 rfl) ?_
      refine lv_iconst (v := (3 : Int32)) hx hb dX10_book_28 (by decide) ?_
      obtain ⟨y9, h8, h⟩ := ob_R_some h
      refine c_VI E hw (kX10_ofDeed (l := l) (G := G) hB  h8) yy_X10_ofDeed lm_RX10_73 rfl (by decide) rfl rfl hl.1 (by decide) (by decide) rfl (Nat.le_of_ble_eq_true rfl) dX10_book_29 (fun H locs hw => ?_)
      refine lv_if_eq (tgt := 41) hx hb dX10_book_32 (by decide) (fun c14 => ?_) (fun c14 => ?_)
      · rw [if_pos c14] at h
        refine lv_iconst (v := (0 : Int32)) hx hb dX10_book_41 (by decide) ?_
        refine lv_ior hx hb dX10_book_42 ?_
        obtain ⟨y10, ey10, h⟩ := lt_some h
        refine lv_eqi ey10 ?_
        refine lv_istore_n (lv' := [(2, .int y10), (0, .ref (G.2.2 22)), (1, .int u1), (3, .int u3)]) hx hb dX10_book_43 rfl hl (by decide) rfl (fun ls hl => ?_)
        obtain ⟨y11, ey11, h⟩ := lt_some h
        refine lv_iinc (v := y11) (lv' := [(3, .int y11), (2, .int y10), (0, .ref (G.2.2 22)), (1, .int u1)]) hx hb dX10_book_44 hl (k := 3) rfl (by rw [ey11]; rfl) (by decide) rfl (fun ls hl => ?_)
        refine lv_goto (tgt := 9) hx hb dX10_book_47 (by decide) ?_
        exact kc (V, u1, y10, y11) (Option.some.inj h).symm H locs ls hw (lv_sub hl [2, 3, 1, 0] rfl)
      · rw [if_neg c14] at h
        refine lv_iconst (v := (1 : Int32)) hx hb dX10_book_35 (by decide) ?_
        refine lv_iload_n hx hb dX10_book_36 rfl (lv_at hl 3 rfl) ?_
        refine lv_ishl hx hb dX10_book_37 ?_
        refine lv_goto (tgt := 42) hx hb dX10_book_38 (by decide) ?_
        refine lv_ior hx hb dX10_book_42 ?_
        obtain ⟨y12, ey12, h⟩ := lt_some h
        refine lv_eqi ey12 ?_
        refine lv_istore_n (lv' := [(2, .int y12), (0, .ref (G.2.2 22)), (1, .int u1), (3, .int u3)]) hx hb dX10_book_43 rfl hl (by decide) rfl (fun ls hl => ?_)
        obtain ⟨y13, ey13, h⟩ := lt_some h
        refine lv_iinc (v := y13) (lv' := [(3, .int y13), (2, .int y12), (0, .ref (G.2.2 22)), (1, .int u1)]) hx hb dX10_book_44 hl (k := 3) rfl (by rw [ey13]; rfl) (by decide) rfl (fun ls hl => ?_)
        refine lv_goto (tgt := 9) hx hb dX10_book_47 (by decide) ?_
        exact kc (V, u1, y12, y13) (Option.some.inj h).symm H locs ls hw (lv_sub hl [2, 3, 1, 0] rfl)
set_option maxHeartbeats 4000000 in
set_option maxRecDepth 100000 in
theorem kX10_book {l : Launch} {G : GT} {B : BGt} (hB : BGok B) {V : VT} {x1 : Int32} {r : (Int32 × VT)} (h : fX10_book V x1 = some r) : CI l G B yX10_book (.code yX10_book cX10_book 4 (some .int)) 6 [.ref (G.2.2 22), .int x1] V r.1 r.2 := by
  intro sz
  refine met_of (Qs := fun sz => QI G sz (r.1) (r.2)) hB (by decide) (Nat.le_of_ble_eq_true rfl) ?_ sz
  intro p e s m args below meth c ls E hw hl
  have hx := en_x E
  have hb := en_b E
  generalize hQ : MQ _ _ _ _ _ _ _ = Q
  have kr : Q = MQ below (QI G s.heap.size r.1 r.2) args s 0 0 (gA G s.heap.size) := hQ.symm
  have hl : lv_has ls 4 [(0, .ref (G.2.2 22)), (1, .int x1)] := hl
  obtain ⟨H, eH⟩ : ∃ H, H = s.heap := ⟨_, rfl⟩
  obtain ⟨locs, elocs⟩ : ∃ z : List Loc, z = [] := ⟨_, rfl⟩
  have hw : HW G s.heap V H locs := by rw [eH, elocs]; exact hw
  show W p l e _ s m args below meth c s.heap [] 0 0 Q (F0 m 0 ls [])
  rw [← eH, ← elocs]
  unfold fX10_book at h
  refine lv_aload_n hx hb dX10_book_0 rfl (lv_at hl 0 rfl) ?_
  refine lv_iconst (v := (0 : Int32)) hx hb dX10_book_1 (by decide) ?_
  obtain ⟨V1, eV1, h⟩ := lt_some h
  refine r_pi E hw 22 0 (N := 29) (C := RX10) (T := TX10) (ty0 := tyX10) (ty := .int) (by decide) rfl rfl (by decide) rfl iw_10 rfl tyX10_ok nmX10 rfl rfl (vp_nar_int _) rfl lf_RX10_3 eV1 dX10_book_2 (fun H locs hw => ?_)
  refine lv_iconst (v := (0 : Int32)) hx hb dX10_book_5 (by decide) ?_
  refine lv_istore_n (lv' := [(2, .int (0 : Int32)), (0, .ref (G.2.2 22)), (1, .int x1)]) hx hb dX10_book_6 rfl hl (by decide) rfl (fun ls hl => ?_)
  refine lv_iconst (v := (0 : Int32)) hx hb dX10_book_7 (by decide) ?_
  refine lv_istore_n (lv' := [(3, .int (0 : Int32)), (2, .int (0 : Int32)), (0, .ref (G.2.2 22)), (1, .int x1)]) hx hb dX10_book_8 rfl hl (by decide) rfl (fun ls hl => ?_)
  obtain ⟨x18, h17, h⟩ := ob_R_some h
  obtain ⟨V21, y19, y20⟩ := x18
  refine wX10_book_L9 E (fun q e H locs ls hw hl => ?_) FV (V1, x1, (0 : Int32), (0 : Int32)) h17 H locs ls hw (lv_sub hl [2, 3, 1, 0] rfl)
  subst e
  have hw : HW G s.heap V21 H locs := hw
  have hl : lv_has ls 4 [(0, .ref (G.2.2 22)), (1, .int y19), (2, .int y20)] := hl
  have h := dt3_eq h
  refine lv_iload_n hx hb dX10_book_50 rfl (lv_at hl 1 rfl) ?_
  refine lv_if_eq (tgt := 58) hx hb dX10_book_51 (by decide) (fun c24 => ?_) (fun c24 => ?_)
  · rw [if_pos c24] at h
    refine lv_aload_n hx hb dX10_book_58 rfl (lv_at hl 0 rfl) ?_
    obtain ⟨y23, h22, h⟩ := ob_R_some h
    refine c_VI E hw (kX10_soOnes (l := l) (G := G) hB  h22) yy_X10_soOnes lm_RX10_410 rfl (by decide) rfl rfl hl.1 (by decide) (by decide) rfl (Nat.le_of_ble_eq_true rfl) dX10_book_59 (fun H locs hw => ?_)
    have h := Option.some.inj h
    subst h
    rw [kr]
    exact r_ri E hw dX10_book_62
  · rw [if_neg c24] at h
    refine lv_iload_n hx hb dX10_book_54 rfl (lv_at hl 2 rfl) ?_
    refine lv_goto (tgt := 62) hx hb dX10_book_55 (by decide) ?_
    have h := Option.some.inj h
    subst h
    rw [kr]
    exact r_ri E hw dX10_book_62
/-! ===== AllSawItModel.isTold()Z ===== -/
theorem dX10_isTold_0 : decode cX10_isTold 0 = .ok (.aload_n 0, 1) := by decide +kernel
theorem dX10_isTold_1 : decode cX10_isTold 1 = .ok (.getfield 90, 3) := by decide +kernel
theorem dX10_isTold_4 : decode cX10_isTold 4 = .ok (.iconst 3, 1) := by decide +kernel
theorem dX10_isTold_5 : decode cX10_isTold 5 = .ok (.irem, 1) := by decide +kernel
theorem dX10_isTold_6 : decode cX10_isTold 6 = .ok (.ifCond .ne 16, 3) := by decide +kernel
theorem dX10_isTold_9 : decode cX10_isTold 9 = .ok (.aload_n 0, 1) := by decide +kernel
theorem dX10_isTold_10 : decode cX10_isTold 10 = .ok (.getfield 90, 3) := by decide +kernel
theorem dX10_isTold_13 : decode cX10_isTold 13 = .ok (.bipush 36, 2) := by decide +kernel
theorem dX10_isTold_15 : decode cX10_isTold 15 = .ok (.if_icmp .gt 7, 3) := by decide +kernel
theorem dX10_isTold_18 : decode cX10_isTold 18 = .ok (.iconst 1, 1) := by decide +kernel
theorem dX10_isTold_19 : decode cX10_isTold 19 = .ok (.goto 4, 3) := by decide +kernel
theorem dX10_isTold_22 : decode cX10_isTold 22 = .ok (.iconst 0, 1) := by decide +kernel
theorem dX10_isTold_23 : decode cX10_isTold 23 = .ok (.istore_n 1, 1) := by decide +kernel
theorem dX10_isTold_24 : decode cX10_isTold 24 = .ok (.iconst 0, 1) := by decide +kernel
theorem dX10_isTold_25 : decode cX10_isTold 25 = .ok (.istore_n 2, 1) := by decide +kernel
theorem dX10_isTold_26 : decode cX10_isTold 26 = .ok (.iload_n 2, 1) := by decide +kernel
theorem dX10_isTold_27 : decode cX10_isTold 27 = .ok (.aload_n 0, 1) := by decide +kernel
theorem dX10_isTold_28 : decode cX10_isTold 28 = .ok (.getfield 90, 3) := by decide +kernel
theorem dX10_isTold_31 : decode cX10_isTold 31 = .ok (.if_icmp .ge 64, 3) := by decide +kernel
theorem dX10_isTold_34 : decode cX10_isTold 34 = .ok (.iload_n 1, 1) := by decide +kernel
theorem dX10_isTold_35 : decode cX10_isTold 35 = .ok (.ifCond .eq 60, 3) := by decide +kernel
theorem dX10_isTold_38 : decode cX10_isTold 38 = .ok (.aload_n 0, 1) := by decide +kernel
theorem dX10_isTold_39 : decode cX10_isTold 39 = .ok (.aload_n 0, 1) := by decide +kernel
theorem dX10_isTold_40 : decode cX10_isTold 40 = .ok (.getfield 29, 3) := by decide +kernel
theorem dX10_isTold_43 : decode cX10_isTold 43 = .ok (.iload_n 2, 1) := by decide +kernel
theorem dX10_isTold_44 : decode cX10_isTold 44 = .ok (.baload, 1) := by decide +kernel
theorem dX10_isTold_45 : decode cX10_isTold 45 = .ok (.invokevirtual 309, 3) := by decide +kernel
theorem dX10_isTold_48 : decode cX10_isTold 48 = .ok (.ifCond .ne 39, 3) := by decide +kernel
theorem dX10_isTold_51 : decode cX10_isTold 51 = .ok (.aload_n 0, 1) := by decide +kernel
theorem dX10_isTold_52 : decode cX10_isTold 52 = .ok (.aload_n 0, 1) := by decide +kernel
theorem dX10_isTold_53 : decode cX10_isTold 53 = .ok (.getfield 29, 3) := by decide +kernel
theorem dX10_isTold_56 : decode cX10_isTold 56 = .ok (.iload_n 2, 1) := by decide +kernel
theorem dX10_isTold_57 : decode cX10_isTold 57 = .ok (.iconst 1, 1) := by decide +kernel
theorem dX10_isTold_58 : decode cX10_isTold 58 = .ok (.iadd, 1) := by decide +kernel
theorem dX10_isTold_59 : decode cX10_isTold 59 = .ok (.baload, 1) := by decide +kernel
theorem dX10_isTold_60 : decode cX10_isTold 60 = .ok (.invokevirtual 309, 3) := by decide +kernel
theorem dX10_isTold_63 : decode cX10_isTold 63 = .ok (.ifCond .ne 24, 3) := by decide +kernel
theorem dX10_isTold_66 : decode cX10_isTold 66 = .ok (.aload_n 0, 1) := by decide +kernel
theorem dX10_isTold_67 : decode cX10_isTold 67 = .ok (.getfield 29, 3) := by decide +kernel
theorem dX10_isTold_70 : decode cX10_isTold 70 = .ok (.iload_n 2, 1) := by decide +kernel
theorem dX10_isTold_71 : decode cX10_isTold 71 = .ok (.baload, 1) := by decide +kernel
theorem dX10_isTold_72 : decode cX10_isTold 72 = .ok (.aload_n 0, 1) := by decide +kernel
theorem dX10_isTold_73 : decode cX10_isTold 73 = .ok (.getfield 29, 3) := by decide +kernel
theorem dX10_isTold_76 : decode cX10_isTold 76 = .ok (.iload_n 2, 1) := by decide +kernel
theorem dX10_isTold_77 : decode cX10_isTold 77 = .ok (.iconst 1, 1) := by decide +kernel
theorem dX10_isTold_78 : decode cX10_isTold 78 = .ok (.iadd, 1) := by decide +kernel
theorem dX10_isTold_79 : decode cX10_isTold 79 = .ok (.baload, 1) := by decide +kernel
theorem dX10_isTold_80 : decode cX10_isTold 80 = .ok (.if_icmp .gt 7, 3) := by decide +kernel
theorem dX10_isTold_83 : decode cX10_isTold 83 = .ok (.iconst 1, 1) := by decide +kernel
theorem dX10_isTold_84 : decode cX10_isTold 84 = .ok (.goto 4, 3) := by decide +kernel
theorem dX10_isTold_87 : decode cX10_isTold 87 = .ok (.iconst 0, 1) := by decide +kernel
theorem dX10_isTold_88 : decode cX10_isTold 88 = .ok (.istore_n 1, 1) := by decide +kernel
theorem dX10_isTold_89 : decode cX10_isTold 89 = .ok (.iinc 2 3, 3) := by decide +kernel
theorem dX10_isTold_92 : decode cX10_isTold 92 = .ok (.goto (-66), 3) := by decide +kernel
theorem dX10_isTold_95 : decode cX10_isTold 95 = .ok (.iload_n 1, 1) := by decide +kernel
theorem dX10_isTold_96 : decode cX10_isTold 96 = .ok (.ireturn, 1) := by decide +kernel
noncomputable def fX10_isTold_L26 (V : VT) (u1 : Int32) (u2 : Int32) : Option ((Int32 × Int32) ⊕ Int32) := if (V 22 11) ≤ u2 then (zo_ u1 (some (.inr (u1)))) else (if u1 = 0 then (zo_ u1 (some (.inr (u1)))) else (rd_ u2 400 (ob_R (fX10_noHouse V (V 81 u2.toNatClampNeg)) fun y5 => if y5 = 0 then (rd_ (u2 + (1 : Int32)) 400 (ob_R (fX10_noHouse V (V 81 (u2 + (1 : Int32)).toNatClampNeg)) fun y9 => if y9 = 0 then (rd_ u2 400 (rd_ (u2 + (1 : Int32)) 400 (if (V 81 (u2 + (1 : Int32)).toNatClampNeg) < (V 81 u2.toNatClampNeg) then (lt_ (u2 + (3 : Int32)) fun y13 => some (.inl ((0 : Int32), y13))) else (lt_ (u2 + (3 : Int32)) fun y14 => some (.inl ((1 : Int32), y14)))))) else (lt_ (u2 + (3 : Int32)) fun y10 => some (.inl ((0 : Int32), y10))))) else (lt_ (u2 + (3 : Int32)) fun y6 => some (.inl ((0 : Int32), y6))))))
noncomputable def iX10_isTold_L26 (V : VT) : (Int32 × Int32) → Option ((Int32 × Int32) ⊕ Int32) := fun q => fX10_isTold_L26 V (q.1) (q.2)
noncomputable def fX10_isTold (V : VT) : Option Int32 := if ((V 22 11) - (V 22 11) / (3 : Int32) * (3 : Int32)) = 0 then (if (36 : Int32) < (V 22 11) then (ob_R (it_ (iX10_isTold_L26 V) FV ((0 : Int32), (0 : Int32))) fun x23 => some x23) else (ob_R (it_ (iX10_isTold_L26 V) FV ((1 : Int32), (0 : Int32))) fun x25 => some x25)) else (ob_R (it_ (iX10_isTold_L26 V) FV ((0 : Int32), (0 : Int32))) fun x21 => some x21)
set_option maxHeartbeats 4000000 in
set_option maxRecDepth 100000 in
theorem wX10_isTold_L26 {p : Program} {l : Launch} {e : Env} {s : State} {m : MethodId} {args : Array Value} {below : List Frame} {meth : Method} {c : Code} {G : GT} {B : BGt} {Q : State → Prop} (E : En p s m args c meth cX10_isTold 3 RX10 (some .boolean) G B) {V : VT} {x : Int32} (kr : ∀ q : Int32, x = q → Q = MQ below (QI G s.heap.size q V) args s 0 0 (gA G s.heap.size)) : ∀ (n : Nat) (q : (Int32 × Int32)), it_ (iX10_isTold_L26 V) n q = some x → ∀ (H : Heap) (locs : List Loc) (ls : Array Slot), HW G s.heap V H locs → lv_has ls 3 [(0, .ref (G.2.2 22)), (1, .int (q.1)), (2, .int (q.2))] → W p l e (rmD 4) s m args below meth c H locs 0 0 Q (F0 m 26 ls []) := by
  have hx := en_x E
  have hb := en_b E
  have hB := en_B E
  refine it_W (fun q : (Int32 × Int32) => ∀ (H : Heap) (locs : List Loc) (ls : Array Slot), HW G s.heap V H locs → lv_has ls 3 [(0, .ref (G.2.2 22)), (1, .int (q.1)), (2, .int (q.2))] → W p l e (rmD 4) s m args below meth c H locs 0 0 Q (F0 m 26 ls [])) x ?_
  intro q r h kc kx
  obtain ⟨u1, u2⟩ := q
  intro H locs ls hw hl
  have h : fX10_isTold_L26 V u1 u2 = some r := h
  have hw : HW G s.heap V H locs := hw
  have hl : lv_has ls 3 [(0, .ref (G.2.2 22)), (1, .int u1), (2, .int u2)] := hl
  have kr : ∀ q : Int32, r = .inr (q) → Q = MQ below (QI G s.heap.size q V) args s 0 0 (gA G s.heap.size) := fun q e => kr q (kx _ e).symm
  unfold fX10_isTold_L26 at h
  refine lv_iload_n hx hb dX10_isTold_26 rfl (lv_at hl 2 rfl) ?_
  refine lv_aload_n hx hb dX10_isTold_27 rfl (lv_at hl 0 rfl) ?_
  refine r_gi E hw 22 11 (N := 29) (C := RX10) (T := TX10) (by decide) rfl rfl (by decide) rfl iw_10 rfl lf_RX10_90 dX10_isTold_28 ?_
  refine lv_icmp_ge (tgt := 95) hx hb dX10_isTold_31 (by decide) (fun c19 => ?_) (fun c19 => ?_)
  · rw [if_pos c19] at h
    refine lv_iload_n hx hb dX10_isTold_95 rfl (lv_at hl 1 rfl) ?_
    obtain ⟨z1, h⟩ := zo_some h
    rw [kr u1 (Option.some.inj h).symm]
    exact r_rz E hw z1 dX10_isTold_96
  · rw [if_neg c19] at h
    refine lv_iload_n hx hb dX10_isTold_34 rfl (lv_at hl 1 rfl) ?_
    refine lv_if_eq (tgt := 95) hx hb dX10_isTold_35 (by decide) (fun c18 => ?_) (fun c18 => ?_)
    · rw [if_pos c18] at h
      refine lv_iload_n hx hb dX10_isTold_95 rfl (lv_at hl 1 rfl) ?_
      obtain ⟨z2, h⟩ := zo_some h
      rw [kr u1 (Option.some.inj h).symm]
      exact r_rz E hw z2 dX10_isTold_96
    · rw [if_neg c18] at h
      refine lv_aload_n hx hb dX10_isTold_38 rfl (lv_at hl 0 rfl) ?_
      refine lv_aload_n hx hb dX10_isTold_39 rfl (lv_at hl 0 rfl) ?_
      refine r_gr E hw 22 8 81 (N := 29) (C := RX10) (T := TX10) (by decide) rfl rfl (by decide) rfl iw_10 rfl lf_RX10_29 dX10_isTold_40 ?_
      refine lv_iload_n hx hb dX10_isTold_43 rfl (lv_at hl 2 rfl) ?_
      obtain ⟨b3, h⟩ := rd_some h
      refine r_ba E hw 81 400 (by decide) (by decide) (by decide) rfl rfl b3 dX10_isTold_44 ?_
      obtain ⟨y5, h4, h⟩ := ob_R_some h
      refine c_VI E hw (kX10_noHouse (l := l) (G := G) hB  h4) yy_X10_noHouse lm_RX10_309 rfl (by decide) rfl rfl hl.1 (by decide) (by decide) rfl (Nat.le_of_ble_eq_true rfl) dX10_isTold_45 (fun H locs hw => ?_)
      refine lv_if_ne (tgt := 87) hx hb dX10_isTold_48 (by decide) (fun c17 => ?_) (fun c17 => ?_)
      · rw [if_neg c17] at h
        refine lv_iconst (v := (0 : Int32)) hx hb dX10_isTold_87 (by decide) ?_
        refine lv_istore_n (lv' := [(1, .int (0 : Int32)), (0, .ref (G.2.2 22)), (2, .int u2)]) hx hb dX10_isTold_88 rfl hl (by decide) rfl (fun ls hl => ?_)
        obtain ⟨y6, ey6, h⟩ := lt_some h
        refine lv_iinc (v := y6) (lv' := [(2, .int y6), (1, .int (0 : Int32)), (0, .ref (G.2.2 22))]) hx hb dX10_isTold_89 hl (k := 2) rfl (by rw [ey6]; rfl) (by decide) rfl (fun ls hl => ?_)
        refine lv_goto (tgt := 26) hx hb dX10_isTold_92 (by decide) ?_
        exact kc ((0 : Int32), y6) (Option.some.inj h).symm H locs ls hw (lv_sub hl [2, 1, 0] rfl)
      · rw [if_pos c17] at h
        refine lv_aload_n hx hb dX10_isTold_51 rfl (lv_at hl 0 rfl) ?_
        refine lv_aload_n hx hb dX10_isTold_52 rfl (lv_at hl 0 rfl) ?_
        refine r_gr E hw 22 8 81 (N := 29) (C := RX10) (T := TX10) (by decide) rfl rfl (by decide) rfl iw_10 rfl lf_RX10_29 dX10_isTold_53 ?_
        refine lv_iload_n hx hb dX10_isTold_56 rfl (lv_at hl 2 rfl) ?_
        refine lv_iconst (v := (1 : Int32)) hx hb dX10_isTold_57 (by decide) ?_
        refine lv_iadd hx hb dX10_isTold_58 ?_
        obtain ⟨b7, h⟩ := rd_some h
        refine r_ba E hw 81 400 (by decide) (by decide) (by decide) rfl rfl b7 dX10_isTold_59 ?_
        obtain ⟨y9, h8, h⟩ := ob_R_some h
        refine c_VI E hw (kX10_noHouse (l := l) (G := G) hB  h8) yy_X10_noHouse lm_RX10_309 rfl (by decide) rfl rfl hl.1 (by decide) (by decide) rfl (Nat.le_of_ble_eq_true rfl) dX10_isTold_60 (fun H locs hw => ?_)
        refine lv_if_ne (tgt := 87) hx hb dX10_isTold_63 (by decide) (fun c16 => ?_) (fun c16 => ?_)
        · rw [if_neg c16] at h
          refine lv_iconst (v := (0 : Int32)) hx hb dX10_isTold_87 (by decide) ?_
          refine lv_istore_n (lv' := [(1, .int (0 : Int32)), (0, .ref (G.2.2 22)), (2, .int u2)]) hx hb dX10_isTold_88 rfl hl (by decide) rfl (fun ls hl => ?_)
          obtain ⟨y10, ey10, h⟩ := lt_some h
          refine lv_iinc (v := y10) (lv' := [(2, .int y10), (1, .int (0 : Int32)), (0, .ref (G.2.2 22))]) hx hb dX10_isTold_89 hl (k := 2) rfl (by rw [ey10]; rfl) (by decide) rfl (fun ls hl => ?_)
          refine lv_goto (tgt := 26) hx hb dX10_isTold_92 (by decide) ?_
          exact kc ((0 : Int32), y10) (Option.some.inj h).symm H locs ls hw (lv_sub hl [2, 1, 0] rfl)
        · rw [if_pos c16] at h
          refine lv_aload_n hx hb dX10_isTold_66 rfl (lv_at hl 0 rfl) ?_
          refine r_gr E hw 22 8 81 (N := 29) (C := RX10) (T := TX10) (by decide) rfl rfl (by decide) rfl iw_10 rfl lf_RX10_29 dX10_isTold_67 ?_
          refine lv_iload_n hx hb dX10_isTold_70 rfl (lv_at hl 2 rfl) ?_
          obtain ⟨b11, h⟩ := rd_some h
          refine r_ba E hw 81 400 (by decide) (by decide) (by decide) rfl rfl b11 dX10_isTold_71 ?_
          refine lv_aload_n hx hb dX10_isTold_72 rfl (lv_at hl 0 rfl) ?_
          refine r_gr E hw 22 8 81 (N := 29) (C := RX10) (T := TX10) (by decide) rfl rfl (by decide) rfl iw_10 rfl lf_RX10_29 dX10_isTold_73 ?_
          refine lv_iload_n hx hb dX10_isTold_76 rfl (lv_at hl 2 rfl) ?_
          refine lv_iconst (v := (1 : Int32)) hx hb dX10_isTold_77 (by decide) ?_
          refine lv_iadd hx hb dX10_isTold_78 ?_
          obtain ⟨b12, h⟩ := rd_some h
          refine r_ba E hw 81 400 (by decide) (by decide) (by decide) rfl rfl b12 dX10_isTold_79 ?_
          refine lv_icmp_gt (tgt := 87) hx hb dX10_isTold_80 (by decide) (fun c15 => ?_) (fun c15 => ?_)
          · rw [if_pos c15] at h
            refine lv_iconst (v := (0 : Int32)) hx hb dX10_isTold_87 (by decide) ?_
            refine lv_istore_n (lv' := [(1, .int (0 : Int32)), (0, .ref (G.2.2 22)), (2, .int u2)]) hx hb dX10_isTold_88 rfl hl (by decide) rfl (fun ls hl => ?_)
            obtain ⟨y13, ey13, h⟩ := lt_some h
            refine lv_iinc (v := y13) (lv' := [(2, .int y13), (1, .int (0 : Int32)), (0, .ref (G.2.2 22))]) hx hb dX10_isTold_89 hl (k := 2) rfl (by rw [ey13]; rfl) (by decide) rfl (fun ls hl => ?_)
            refine lv_goto (tgt := 26) hx hb dX10_isTold_92 (by decide) ?_
            exact kc ((0 : Int32), y13) (Option.some.inj h).symm H locs ls hw (lv_sub hl [2, 1, 0] rfl)
          · rw [if_neg c15] at h
            refine lv_iconst (v := (1 : Int32)) hx hb dX10_isTold_83 (by decide) ?_
            refine lv_goto (tgt := 88) hx hb dX10_isTold_84 (by decide) ?_
            refine lv_istore_n (lv' := [(1, .int (1 : Int32)), (0, .ref (G.2.2 22)), (2, .int u2)]) hx hb dX10_isTold_88 rfl hl (by decide) rfl (fun ls hl => ?_)
            obtain ⟨y14, ey14, h⟩ := lt_some h
            refine lv_iinc (v := y14) (lv' := [(2, .int y14), (1, .int (1 : Int32)), (0, .ref (G.2.2 22))]) hx hb dX10_isTold_89 hl (k := 2) rfl (by rw [ey14]; rfl) (by decide) rfl (fun ls hl => ?_)
            refine lv_goto (tgt := 26) hx hb dX10_isTold_92 (by decide) ?_
            exact kc ((1 : Int32), y14) (Option.some.inj h).symm H locs ls hw (lv_sub hl [2, 1, 0] rfl)
set_option maxHeartbeats 4000000 in
set_option maxRecDepth 100000 in
theorem kX10_isTold {l : Launch} {G : GT} {B : BGt} (hB : BGok B) {V : VT} {r : Int32} (h : fX10_isTold V = some r) : CI l G B yX10_isTold (.code yX10_isTold cX10_isTold 3 (some .boolean)) 4 [.ref (G.2.2 22)] V r V := by
  intro sz
  refine met_of (Qs := fun sz => QI G sz r V) hB (by decide) (Nat.le_of_ble_eq_true rfl) ?_ sz
  intro p e s m args below meth c ls E hw hl
  have hx := en_x E
  have hb := en_b E
  generalize hQ : MQ _ _ _ _ _ _ _ = Q
  have kr : Q = MQ below (QI G s.heap.size r V) args s 0 0 (gA G s.heap.size) := hQ.symm
  have hl : lv_has ls 3 [(0, .ref (G.2.2 22))] := hl
  obtain ⟨H, eH⟩ : ∃ H, H = s.heap := ⟨_, rfl⟩
  obtain ⟨locs, elocs⟩ : ∃ z : List Loc, z = [] := ⟨_, rfl⟩
  have hw : HW G s.heap V H locs := by rw [eH, elocs]; exact hw
  show W p l e _ s m args below meth c s.heap [] 0 0 Q (F0 m 0 ls [])
  rw [← eH, ← elocs]
  unfold fX10_isTold at h
  refine lv_aload_n hx hb dX10_isTold_0 rfl (lv_at hl 0 rfl) ?_
  refine r_gi E hw 22 11 (N := 29) (C := RX10) (T := TX10) (by decide) rfl rfl (by decide) rfl iw_10 rfl lf_RX10_90 dX10_isTold_1 ?_
  refine lv_iconst (v := (3 : Int32)) hx hb dX10_isTold_4 (by decide) ?_
  refine lv_irem hx hb dX10_isTold_5 (by decide) ?_
  refine lv_if_ne (tgt := 22) hx hb dX10_isTold_6 (by decide) (fun c27 => ?_) (fun c27 => ?_)
  · rw [if_neg c27] at h
    refine lv_iconst (v := (0 : Int32)) hx hb dX10_isTold_22 (by decide) ?_
    refine lv_istore_n (lv' := [(1, .int (0 : Int32)), (0, .ref (G.2.2 22))]) hx hb dX10_isTold_23 rfl hl (by decide) rfl (fun ls hl => ?_)
    refine lv_iconst (v := (0 : Int32)) hx hb dX10_isTold_24 (by decide) ?_
    refine lv_istore_n (lv' := [(2, .int (0 : Int32)), (1, .int (0 : Int32)), (0, .ref (G.2.2 22))]) hx hb dX10_isTold_25 rfl hl (by decide) rfl (fun ls hl => ?_)
    obtain ⟨x21, h20, h⟩ := ob_R_some h
    have h := Option.some.inj h
    subst h
    exact wX10_isTold_L26 E (fun q e => by subst e; exact kr) FV ((0 : Int32), (0 : Int32)) h20 H locs ls hw (lv_sub hl [2, 1, 0] rfl)
  · rw [if_pos c27] at h
    refine lv_aload_n hx hb dX10_isTold_9 rfl (lv_at hl 0 rfl) ?_
    refine r_gi E hw 22 11 (N := 29) (C := RX10) (T := TX10) (by decide) rfl rfl (by decide) rfl iw_10 rfl lf_RX10_90 dX10_isTold_10 ?_
    refine lv_bipush (v := (36 : Int32)) hx hb dX10_isTold_13 (by decide) ?_
    refine lv_icmp_gt (tgt := 22) hx hb dX10_isTold_15 (by decide) (fun c26 => ?_) (fun c26 => ?_)
    · rw [if_pos c26] at h
      refine lv_iconst (v := (0 : Int32)) hx hb dX10_isTold_22 (by decide) ?_
      refine lv_istore_n (lv' := [(1, .int (0 : Int32)), (0, .ref (G.2.2 22))]) hx hb dX10_isTold_23 rfl hl (by decide) rfl (fun ls hl => ?_)
      refine lv_iconst (v := (0 : Int32)) hx hb dX10_isTold_24 (by decide) ?_
      refine lv_istore_n (lv' := [(2, .int (0 : Int32)), (1, .int (0 : Int32)), (0, .ref (G.2.2 22))]) hx hb dX10_isTold_25 rfl hl (by decide) rfl (fun ls hl => ?_)
      obtain ⟨x23, h22, h⟩ := ob_R_some h
      have h := Option.some.inj h
      subst h
      exact wX10_isTold_L26 E (fun q e => by subst e; exact kr) FV ((0 : Int32), (0 : Int32)) h22 H locs ls hw (lv_sub hl [2, 1, 0] rfl)
    · rw [if_neg c26] at h
      refine lv_iconst (v := (1 : Int32)) hx hb dX10_isTold_18 (by decide) ?_
      refine lv_goto (tgt := 23) hx hb dX10_isTold_19 (by decide) ?_
      refine lv_istore_n (lv' := [(1, .int (1 : Int32)), (0, .ref (G.2.2 22))]) hx hb dX10_isTold_23 rfl hl (by decide) rfl (fun ls hl => ?_)
      refine lv_iconst (v := (0 : Int32)) hx hb dX10_isTold_24 (by decide) ?_
      refine lv_istore_n (lv' := [(2, .int (0 : Int32)), (1, .int (1 : Int32)), (0, .ref (G.2.2 22))]) hx hb dX10_isTold_25 rfl hl (by decide) rfl (fun ls hl => ?_)
      obtain ⟨x25, h24, h⟩ := ob_R_some h
      have h := Option.some.inj h
      subst h
      exact wX10_isTold_L26 E (fun q e => by subst e; exact kr) FV ((1 : Int32), (0 : Int32)) h24 H locs ls hw (lv_sub hl [2, 1, 0] rfl)
/-! ===== AllSawItModel.fits(I)Z ===== -/
theorem dX10_fits_0 : decode cX10_fits 0 = .ok (.iconst 1, 1) := by decide +kernel
theorem dX10_fits_1 : decode cX10_fits 1 = .ok (.istore_n 2, 1) := by decide +kernel
theorem dX10_fits_2 : decode cX10_fits 2 = .ok (.iconst 0, 1) := by decide +kernel
theorem dX10_fits_3 : decode cX10_fits 3 = .ok (.istore_n 3, 1) := by decide +kernel
theorem dX10_fits_4 : decode cX10_fits 4 = .ok (.iload_n 3, 1) := by decide +kernel
theorem dX10_fits_5 : decode cX10_fits 5 = .ok (.aload_n 0, 1) := by decide +kernel
theorem dX10_fits_6 : decode cX10_fits 6 = .ok (.getfield 90, 3) := by decide +kernel
theorem dX10_fits_9 : decode cX10_fits 9 = .ok (.if_icmp .ge 64, 3) := by decide +kernel
theorem dX10_fits_12 : decode cX10_fits 12 = .ok (.iconst 1, 1) := by decide +kernel
theorem dX10_fits_13 : decode cX10_fits 13 = .ok (.aload_n 0, 1) := by decide +kernel
theorem dX10_fits_14 : decode cX10_fits 14 = .ok (.getfield 29, 3) := by decide +kernel
theorem dX10_fits_17 : decode cX10_fits 17 = .ok (.iload_n 3, 1) := by decide +kernel
theorem dX10_fits_18 : decode cX10_fits 18 = .ok (.iconst 1, 1) := by decide +kernel
theorem dX10_fits_19 : decode cX10_fits 19 = .ok (.iadd, 1) := by decide +kernel
theorem dX10_fits_20 : decode cX10_fits 20 = .ok (.baload, 1) := by decide +kernel
theorem dX10_fits_21 : decode cX10_fits 21 = .ok (.iconst 1, 1) := by decide +kernel
theorem dX10_fits_22 : decode cX10_fits 22 = .ok (.iadd, 1) := by decide +kernel
theorem dX10_fits_23 : decode cX10_fits 23 = .ok (.ishl, 1) := by decide +kernel
theorem dX10_fits_24 : decode cX10_fits 24 = .ok (.iconst 1, 1) := by decide +kernel
theorem dX10_fits_25 : decode cX10_fits 25 = .ok (.aload_n 0, 1) := by decide +kernel
theorem dX10_fits_26 : decode cX10_fits 26 = .ok (.getfield 29, 3) := by decide +kernel
theorem dX10_fits_29 : decode cX10_fits 29 = .ok (.iload_n 3, 1) := by decide +kernel
theorem dX10_fits_30 : decode cX10_fits 30 = .ok (.baload, 1) := by decide +kernel
theorem dX10_fits_31 : decode cX10_fits 31 = .ok (.ishl, 1) := by decide +kernel
theorem dX10_fits_32 : decode cX10_fits 32 = .ok (.isub, 1) := by decide +kernel
theorem dX10_fits_33 : decode cX10_fits 33 = .ok (.istore 4, 2) := by decide +kernel
theorem dX10_fits_35 : decode cX10_fits 35 = .ok (.iload_n 2, 1) := by decide +kernel
theorem dX10_fits_36 : decode cX10_fits 36 = .ok (.ifCond .eq 29, 3) := by decide +kernel
theorem dX10_fits_39 : decode cX10_fits 39 = .ok (.iload_n 1, 1) := by decide +kernel
theorem dX10_fits_40 : decode cX10_fits 40 = .ok (.iload 4, 2) := by decide +kernel
theorem dX10_fits_42 : decode cX10_fits 42 = .ok (.iand, 1) := by decide +kernel
theorem dX10_fits_43 : decode cX10_fits 43 = .ok (.invokestatic 324, 3) := by decide +kernel
theorem dX10_fits_46 : decode cX10_fits 46 = .ok (.aload_n 0, 1) := by decide +kernel
theorem dX10_fits_47 : decode cX10_fits 47 = .ok (.getfield 29, 3) := by decide +kernel
theorem dX10_fits_50 : decode cX10_fits 50 = .ok (.iload_n 3, 1) := by decide +kernel
theorem dX10_fits_51 : decode cX10_fits 51 = .ok (.iconst 2, 1) := by decide +kernel
theorem dX10_fits_52 : decode cX10_fits 52 = .ok (.iadd, 1) := by decide +kernel
theorem dX10_fits_53 : decode cX10_fits 53 = .ok (.baload, 1) := by decide +kernel
theorem dX10_fits_54 : decode cX10_fits 54 = .ok (.sipush 255, 3) := by decide +kernel
theorem dX10_fits_57 : decode cX10_fits 57 = .ok (.iand, 1) := by decide +kernel
theorem dX10_fits_58 : decode cX10_fits 58 = .ok (.if_icmp .ne 7, 3) := by decide +kernel
theorem dX10_fits_61 : decode cX10_fits 61 = .ok (.iconst 1, 1) := by decide +kernel
theorem dX10_fits_62 : decode cX10_fits 62 = .ok (.goto 4, 3) := by decide +kernel
theorem dX10_fits_65 : decode cX10_fits 65 = .ok (.iconst 0, 1) := by decide +kernel
theorem dX10_fits_66 : decode cX10_fits 66 = .ok (.istore_n 2, 1) := by decide +kernel
theorem dX10_fits_67 : decode cX10_fits 67 = .ok (.iinc 3 3, 3) := by decide +kernel
theorem dX10_fits_70 : decode cX10_fits 70 = .ok (.goto (-66), 3) := by decide +kernel
theorem dX10_fits_73 : decode cX10_fits 73 = .ok (.iload_n 2, 1) := by decide +kernel
theorem dX10_fits_74 : decode cX10_fits 74 = .ok (.ireturn, 1) := by decide +kernel
noncomputable def fX10_fits_L4 (V : VT) (u1 : Int32) (u2 : Int32) (u3 : Int32) : Option ((Int32 × Int32 × Int32) ⊕ Int32) := if (V 22 11) ≤ u3 then (zo_ u2 (some (.inr (u2)))) else (rd_ (u3 + (1 : Int32)) 400 (rd_ u3 400 (lt_ (((1 : Int32) <<< (((V 81 (u3 + (1 : Int32)).toNatClampNeg) + (1 : Int32)) &&& 31)) - ((1 : Int32) <<< ((V 81 u3.toNatClampNeg) &&& 31))) fun y4 => if u2 = 0 then (lt_ (u3 + (3 : Int32)) fun y5 => some (.inl (u1, (0 : Int32), y5))) else (ob_R (fJ6_bitCount_0f7a4 V (u1 &&& y4)) fun y7 => rd_ (u3 + (2 : Int32)) 400 (if y7 = ((V 81 (u3 + (2 : Int32)).toNatClampNeg) &&& (255 : Int32)) then (lt_ (u3 + (3 : Int32)) fun y10 => some (.inl (u1, (1 : Int32), y10))) else (lt_ (u3 + (3 : Int32)) fun y9 => some (.inl (u1, (0 : Int32), y9))))))))
noncomputable def iX10_fits_L4 (V : VT) : (Int32 × Int32 × Int32) → Option ((Int32 × Int32 × Int32) ⊕ Int32) := fun q => fX10_fits_L4 V (q.1) (q.2.1) (q.2.2)
noncomputable def fX10_fits (V : VT) (x1 : Int32) : Option Int32 := ob_R (it_ (iX10_fits_L4 V) FV (x1, (1 : Int32), (0 : Int32))) fun x15 => some x15
set_option maxHeartbeats 4000000 in
set_option maxRecDepth 100000 in
theorem wX10_fits_L4 {p : Program} {l : Launch} {e : Env} {s : State} {m : MethodId} {args : Array Value} {below : List Frame} {meth : Method} {c : Code} {G : GT} {B : BGt} {Q : State → Prop} (E : En p s m args c meth cX10_fits 5 RX10 (some .boolean) G B) {V : VT} {x : Int32} (kr : ∀ q : Int32, x = q → Q = MQ below (QI G s.heap.size q V) args s 0 0 (gA G s.heap.size)) : ∀ (n : Nat) (q : (Int32 × Int32 × Int32)), it_ (iX10_fits_L4 V) n q = some x → ∀ (H : Heap) (locs : List Loc) (ls : Array Slot), HW G s.heap V H locs → lv_has ls 5 [(0, .ref (G.2.2 22)), (1, .int (q.1)), (2, .int (q.2.1)), (3, .int (q.2.2))] → W p l e (rmD 3) s m args below meth c H locs 0 0 Q (F0 m 4 ls []) := by
  have hx := en_x E
  have hb := en_b E
  have hB := en_B E
  refine it_W (fun q : (Int32 × Int32 × Int32) => ∀ (H : Heap) (locs : List Loc) (ls : Array Slot), HW G s.heap V H locs → lv_has ls 5 [(0, .ref (G.2.2 22)), (1, .int (q.1)), (2, .int (q.2.1)), (3, .int (q.2.2))] → W p l e (rmD 3) s m args below meth c H locs 0 0 Q (F0 m 4 ls [])) x ?_
  intro q r h kc kx
  obtain ⟨u1, u2, u3⟩ := q
  intro H locs ls hw hl
  have h : fX10_fits_L4 V u1 u2 u3 = some r := h
  have hw : HW G s.heap V H locs := hw
  have hl : lv_has ls 5 [(0, .ref (G.2.2 22)), (1, .int u1), (2, .int u2), (3, .int u3)] := hl
  have kr : ∀ q : Int32, r = .inr (q) → Q = MQ below (QI G s.heap.size q V) args s 0 0 (gA G s.heap.size) := fun q e => kr q (kx _ e).symm
  unfold fX10_fits_L4 at h
  refine lv_iload_n hx hb dX10_fits_4 rfl (lv_at hl 3 rfl) ?_
  refine lv_aload_n hx hb dX10_fits_5 rfl (lv_at hl 0 rfl) ?_
  refine r_gi E hw 22 11 (N := 29) (C := RX10) (T := TX10) (by decide) rfl rfl (by decide) rfl iw_10 rfl lf_RX10_90 dX10_fits_6 ?_
  refine lv_icmp_ge (tgt := 73) hx hb dX10_fits_9 (by decide) (fun c13 => ?_) (fun c13 => ?_)
  · rw [if_pos c13] at h
    refine lv_iload_n hx hb dX10_fits_73 rfl (lv_at hl 2 rfl) ?_
    obtain ⟨z1, h⟩ := zo_some h
    rw [kr u2 (Option.some.inj h).symm]
    exact r_rz E hw z1 dX10_fits_74
  · rw [if_neg c13] at h
    refine lv_iconst (v := (1 : Int32)) hx hb dX10_fits_12 (by decide) ?_
    refine lv_aload_n hx hb dX10_fits_13 rfl (lv_at hl 0 rfl) ?_
    refine r_gr E hw 22 8 81 (N := 29) (C := RX10) (T := TX10) (by decide) rfl rfl (by decide) rfl iw_10 rfl lf_RX10_29 dX10_fits_14 ?_
    refine lv_iload_n hx hb dX10_fits_17 rfl (lv_at hl 3 rfl) ?_
    refine lv_iconst (v := (1 : Int32)) hx hb dX10_fits_18 (by decide) ?_
    refine lv_iadd hx hb dX10_fits_19 ?_
    obtain ⟨b2, h⟩ := rd_some h
    refine r_ba E hw 81 400 (by decide) (by decide) (by decide) rfl rfl b2 dX10_fits_20 ?_
    refine lv_iconst (v := (1 : Int32)) hx hb dX10_fits_21 (by decide) ?_
    refine lv_iadd hx hb dX10_fits_22 ?_
    refine lv_ishl hx hb dX10_fits_23 ?_
    refine lv_iconst (v := (1 : Int32)) hx hb dX10_fits_24 (by decide) ?_
    refine lv_aload_n hx hb dX10_fits_25 rfl (lv_at hl 0 rfl) ?_
    refine r_gr E hw 22 8 81 (N := 29) (C := RX10) (T := TX10) (by decide) rfl rfl (by decide) rfl iw_10 rfl lf_RX10_29 dX10_fits_26 ?_
    refine lv_iload_n hx hb dX10_fits_29 rfl (lv_at hl 3 rfl) ?_
    obtain ⟨b3, h⟩ := rd_some h
    refine r_ba E hw 81 400 (by decide) (by decide) (by decide) rfl rfl b3 dX10_fits_30 ?_
    refine lv_ishl hx hb dX10_fits_31 ?_
    refine lv_isub hx hb dX10_fits_32 ?_
    obtain ⟨y4, ey4, h⟩ := lt_some h
    refine lv_eqi ey4 ?_
    refine lv_istore (lv' := [(4, .int y4), (0, .ref (G.2.2 22)), (1, .int u1), (2, .int u2), (3, .int u3)]) hx hb dX10_fits_33 hl (by decide) rfl (fun ls hl => ?_)
    refine lv_iload_n hx hb dX10_fits_35 rfl (lv_at hl 3 rfl) ?_
    refine lv_if_eq (tgt := 65) hx hb dX10_fits_36 (by decide) (fun c12 => ?_) (fun c12 => ?_)
    · rw [if_pos c12] at h
      refine lv_iconst (v := (0 : Int32)) hx hb dX10_fits_65 (by decide) ?_
      refine lv_istore_n (lv' := [(2, .int (0 : Int32)), (4, .int y4), (0, .ref (G.2.2 22)), (1, .int u1), (3, .int u3)]) hx hb dX10_fits_66 rfl hl (by decide) rfl (fun ls hl => ?_)
      obtain ⟨y5, ey5, h⟩ := lt_some h
      refine lv_iinc (v := y5) (lv' := [(3, .int y5), (2, .int (0 : Int32)), (4, .int y4), (0, .ref (G.2.2 22)), (1, .int u1)]) hx hb dX10_fits_67 hl (k := 4) rfl (by rw [ey5]; rfl) (by decide) rfl (fun ls hl => ?_)
      refine lv_goto (tgt := 4) hx hb dX10_fits_70 (by decide) ?_
      exact kc (u1, (0 : Int32), y5) (Option.some.inj h).symm H locs ls hw (lv_sub hl [3, 4, 1, 0] rfl)
    · rw [if_neg c12] at h
      refine lv_iload_n hx hb dX10_fits_39 rfl (lv_at hl 2 rfl) ?_
      refine lv_iload hx hb dX10_fits_40 (lv_at hl 0 rfl) ?_
      refine lv_iand hx hb dX10_fits_42 ?_
      obtain ⟨y7, h6, h⟩ := ob_R_some h
      refine c_SI E hw (kJ6_bitCount_0f7a4 (l := l) (G := G) hB  h6) yy_J6_bitCount_0f7a4 lm_RX10_324 rfl hl.1 (by decide) (by decide) rfl (Nat.le_of_ble_eq_true rfl) dX10_fits_43 (fun H locs hw => ?_)
      refine lv_aload_n hx hb dX10_fits_46 rfl (lv_at hl 1 rfl) ?_
      refine r_gr E hw 22 8 81 (N := 29) (C := RX10) (T := TX10) (by decide) rfl rfl (by decide) rfl iw_10 rfl lf_RX10_29 dX10_fits_47 ?_
      refine lv_iload_n hx hb dX10_fits_50 rfl (lv_at hl 4 rfl) ?_
      refine lv_iconst (v := (2 : Int32)) hx hb dX10_fits_51 (by decide) ?_
      refine lv_iadd hx hb dX10_fits_52 ?_
      obtain ⟨b8, h⟩ := rd_some h
      refine r_ba E hw 81 400 (by decide) (by decide) (by decide) rfl rfl b8 dX10_fits_53 ?_
      refine lv_sipush (v := (255 : Int32)) hx hb dX10_fits_54 (by decide) ?_
      refine lv_iand hx hb dX10_fits_57 ?_
      refine lv_icmp_ne (tgt := 65) hx hb dX10_fits_58 (by decide) (fun c11 => ?_) (fun c11 => ?_)
      · rw [if_neg c11] at h
        refine lv_iconst (v := (0 : Int32)) hx hb dX10_fits_65 (by decide) ?_
        refine lv_istore_n (lv' := [(2, .int (0 : Int32)), (4, .int y4), (0, .ref (G.2.2 22)), (1, .int u1), (3, .int u3)]) hx hb dX10_fits_66 rfl hl (by decide) rfl (fun ls hl => ?_)
        obtain ⟨y9, ey9, h⟩ := lt_some h
        refine lv_iinc (v := y9) (lv' := [(3, .int y9), (2, .int (0 : Int32)), (4, .int y4), (0, .ref (G.2.2 22)), (1, .int u1)]) hx hb dX10_fits_67 hl (k := 4) rfl (by rw [ey9]; rfl) (by decide) rfl (fun ls hl => ?_)
        refine lv_goto (tgt := 4) hx hb dX10_fits_70 (by decide) ?_
        exact kc (u1, (0 : Int32), y9) (Option.some.inj h).symm H locs ls hw (lv_sub hl [3, 4, 1, 0] rfl)
      · rw [if_pos c11] at h
        refine lv_iconst (v := (1 : Int32)) hx hb dX10_fits_61 (by decide) ?_
        refine lv_goto (tgt := 66) hx hb dX10_fits_62 (by decide) ?_
        refine lv_istore_n (lv' := [(2, .int (1 : Int32)), (4, .int y4), (0, .ref (G.2.2 22)), (1, .int u1), (3, .int u3)]) hx hb dX10_fits_66 rfl hl (by decide) rfl (fun ls hl => ?_)
        obtain ⟨y10, ey10, h⟩ := lt_some h
        refine lv_iinc (v := y10) (lv' := [(3, .int y10), (2, .int (1 : Int32)), (4, .int y4), (0, .ref (G.2.2 22)), (1, .int u1)]) hx hb dX10_fits_67 hl (k := 4) rfl (by rw [ey10]; rfl) (by decide) rfl (fun ls hl => ?_)
        refine lv_goto (tgt := 4) hx hb dX10_fits_70 (by decide) ?_
        exact kc (u1, (1 : Int32), y10) (Option.some.inj h).symm H locs ls hw (lv_sub hl [3, 4, 1, 0] rfl)
set_option maxHeartbeats 4000000 in
set_option maxRecDepth 100000 in
theorem kX10_fits {l : Launch} {G : GT} {B : BGt} (hB : BGok B) {V : VT} {x1 : Int32} {r : Int32} (h : fX10_fits V x1 = some r) : CI l G B yX10_fits (.code yX10_fits cX10_fits 5 (some .boolean)) 3 [.ref (G.2.2 22), .int x1] V r V := by
  intro sz
  refine met_of (Qs := fun sz => QI G sz r V) hB (by decide) (Nat.le_of_ble_eq_true rfl) ?_ sz
  intro p e s m args below meth c ls E hw hl
  have hx := en_x E
  have hb := en_b E
  generalize hQ : MQ _ _ _ _ _ _ _ = Q
  have kr : Q = MQ below (QI G s.heap.size r V) args s 0 0 (gA G s.heap.size) := hQ.symm
  have hl : lv_has ls 5 [(0, .ref (G.2.2 22)), (1, .int x1)] := hl
  obtain ⟨H, eH⟩ : ∃ H, H = s.heap := ⟨_, rfl⟩
  obtain ⟨locs, elocs⟩ : ∃ z : List Loc, z = [] := ⟨_, rfl⟩
  have hw : HW G s.heap V H locs := by rw [eH, elocs]; exact hw
  show W p l e _ s m args below meth c s.heap [] 0 0 Q (F0 m 0 ls [])
  rw [← eH, ← elocs]
  unfold fX10_fits at h
  refine lv_iconst (v := (1 : Int32)) hx hb dX10_fits_0 (by decide) ?_
  refine lv_istore_n (lv' := [(2, .int (1 : Int32)), (0, .ref (G.2.2 22)), (1, .int x1)]) hx hb dX10_fits_1 rfl hl (by decide) rfl (fun ls hl => ?_)
  refine lv_iconst (v := (0 : Int32)) hx hb dX10_fits_2 (by decide) ?_
  refine lv_istore_n (lv' := [(3, .int (0 : Int32)), (2, .int (1 : Int32)), (0, .ref (G.2.2 22)), (1, .int x1)]) hx hb dX10_fits_3 rfl hl (by decide) rfl (fun ls hl => ?_)
  obtain ⟨x15, h14, h⟩ := ob_R_some h
  have h := Option.some.inj h
  subst h
  exact wX10_fits_L4 E (fun q e => by subst e; exact kr) FV (x1, (1 : Int32), (0 : Int32)) h14 H locs ls hw (lv_sub hl [2, 3, 1, 0] rfl)
/-! ===== AllSawItModel.denied(Z)I ===== -/
theorem dX10_denied_0 : decode cX10_denied 0 = .ok (.aload_n 0, 1) := by decide +kernel
theorem dX10_denied_1 : decode cX10_denied 1 = .ok (.invokevirtual 222, 3) := by decide +kernel
theorem dX10_denied_4 : decode cX10_denied 4 = .ok (.aload_n 0, 1) := by decide +kernel
theorem dX10_denied_5 : decode cX10_denied 5 = .ok (.aload_n 0, 1) := by decide +kernel
theorem dX10_denied_6 : decode cX10_denied 6 = .ok (.invokevirtual 413, 3) := by decide +kernel
theorem dX10_denied_9 : decode cX10_denied 9 = .ok (.ifCond .ne 7, 3) := by decide +kernel
theorem dX10_denied_12 : decode cX10_denied 12 = .ok (.iconst 1, 1) := by decide +kernel
theorem dX10_denied_13 : decode cX10_denied 13 = .ok (.goto 4, 3) := by decide +kernel
theorem dX10_denied_16 : decode cX10_denied 16 = .ok (.iconst 0, 1) := by decide +kernel
theorem dX10_denied_17 : decode cX10_denied 17 = .ok (.iconst 1, 1) := by decide +kernel
theorem dX10_denied_18 : decode cX10_denied 18 = .ok (.invokevirtual 233, 3) := by decide +kernel
theorem dX10_denied_21 : decode cX10_denied 21 = .ok (.ifCond .eq 5, 3) := by decide +kernel
theorem dX10_denied_24 : decode cX10_denied 24 = .ok (.iconst 0, 1) := by decide +kernel
theorem dX10_denied_25 : decode cX10_denied 25 = .ok (.ireturn, 1) := by decide +kernel
theorem dX10_denied_26 : decode cX10_denied 26 = .ok (.iconst 0, 1) := by decide +kernel
theorem dX10_denied_27 : decode cX10_denied 27 = .ok (.istore_n 2, 1) := by decide +kernel
theorem dX10_denied_28 : decode cX10_denied 28 = .ok (.aload_n 0, 1) := by decide +kernel
theorem dX10_denied_29 : decode cX10_denied 29 = .ok (.invokevirtual 321, 3) := by decide +kernel
theorem dX10_denied_32 : decode cX10_denied 32 = .ok (.istore_n 3, 1) := by decide +kernel
theorem dX10_denied_33 : decode cX10_denied 33 = .ok (.iconst 0, 1) := by decide +kernel
theorem dX10_denied_34 : decode cX10_denied 34 = .ok (.istore 4, 2) := by decide +kernel
theorem dX10_denied_36 : decode cX10_denied 36 = .ok (.iload 4, 2) := by decide +kernel
theorem dX10_denied_38 : decode cX10_denied 38 = .ok (.aload_n 0, 1) := by decide +kernel
theorem dX10_denied_39 : decode cX10_denied 39 = .ok (.invokevirtual 321, 3) := by decide +kernel
theorem dX10_denied_42 : decode cX10_denied 42 = .ok (.if_icmp .gt 29, 3) := by decide +kernel
theorem dX10_denied_45 : decode cX10_denied 45 = .ok (.aload_n 0, 1) := by decide +kernel
theorem dX10_denied_46 : decode cX10_denied 46 = .ok (.iload 4, 2) := by decide +kernel
theorem dX10_denied_48 : decode cX10_denied 48 = .ok (.invokevirtual 416, 3) := by decide +kernel
theorem dX10_denied_51 : decode cX10_denied 51 = .ok (.ifCond .ne 6, 3) := by decide +kernel
theorem dX10_denied_54 : decode cX10_denied 54 = .ok (.goto 11, 3) := by decide +kernel
theorem dX10_denied_57 : decode cX10_denied 57 = .ok (.iinc 2 1, 3) := by decide +kernel
theorem dX10_denied_60 : decode cX10_denied 60 = .ok (.iload_n 3, 1) := by decide +kernel
theorem dX10_denied_61 : decode cX10_denied 61 = .ok (.iload 4, 2) := by decide +kernel
theorem dX10_denied_63 : decode cX10_denied 63 = .ok (.iand, 1) := by decide +kernel
theorem dX10_denied_64 : decode cX10_denied 64 = .ok (.istore_n 3, 1) := by decide +kernel
theorem dX10_denied_65 : decode cX10_denied 65 = .ok (.iinc 4 1, 3) := by decide +kernel
theorem dX10_denied_68 : decode cX10_denied 68 = .ok (.goto (-32), 3) := by decide +kernel
theorem dX10_denied_71 : decode cX10_denied 71 = .ok (.iload_n 1, 1) := by decide +kernel
theorem dX10_denied_72 : decode cX10_denied 72 = .ok (.ifCond .ne 7, 3) := by decide +kernel
theorem dX10_denied_75 : decode cX10_denied 75 = .ok (.iload_n 2, 1) := by decide +kernel
theorem dX10_denied_76 : decode cX10_denied 76 = .ok (.goto 12, 3) := by decide +kernel
theorem dX10_denied_79 : decode cX10_denied 79 = .ok (.iload_n 2, 1) := by decide +kernel
theorem dX10_denied_80 : decode cX10_denied 80 = .ok (.ifCond .ne 7, 3) := by decide +kernel
theorem dX10_denied_83 : decode cX10_denied 83 = .ok (.iconst 0, 1) := by decide +kernel
theorem dX10_denied_84 : decode cX10_denied 84 = .ok (.goto 4, 3) := by decide +kernel
theorem dX10_denied_87 : decode cX10_denied 87 = .ok (.iload_n 3, 1) := by decide +kernel
theorem dX10_denied_88 : decode cX10_denied 88 = .ok (.ireturn, 1) := by decide +kernel
noncomputable def fX10_denied_L36 (V : VT) (u1 : Int32) (u2 : Int32) (u3 : Int32) (u4 : Int32) : Option ((VT × Int32 × Int32 × Int32 × Int32) ⊕ (VT × Int32 × Int32 × Int32)) := ob_R (fX10_allHouses V ) fun y11 => if y11 < u4 then (some (.inr ((V, u1, u2, u3)))) else (ob_R (fX10_fits V u4) fun y13 => if y13 = 0 then (lt_ (u4 + (1 : Int32)) fun y17 => some (.inl (V, u1, u2, u3, y17))) else (lt_ (u2 + (1 : Int32)) fun y14 => lt_ (u3 &&& u4) fun y15 => lt_ (u4 + (1 : Int32)) fun y16 => some (.inl (V, u1, y14, y15, y16))))
noncomputable def iX10_denied_L36 : (VT × Int32 × Int32 × Int32 × Int32) → Option ((VT × Int32 × Int32 × Int32 × Int32) ⊕ (VT × Int32 × Int32 × Int32)) := fun q => fX10_denied_L36 (q.1) (q.2.1) (q.2.2.1) (q.2.2.2.1) (q.2.2.2.2)
noncomputable def fX10_denied_j17 (V : VT) (u1 : Int32) (t0 : Int32) : Option (Int32 × VT) := ob_I (fX10_throwsIf V t0 (1 : Int32)) fun y6 V7 => if y6 = 0 then (ob_R (fX10_allHouses V7 ) fun y9 => ob_R (it_ (iX10_denied_L36) FV (V7, u1, (0 : Int32), y9, (0 : Int32))) fun x21 => (dt4_ x21 fun V25 y22 y23 y24 => if y22 = 0 then (some (y23, V25)) else (if y23 = 0 then (some ((0 : Int32), V25)) else (some (y24, V25))))) else (some ((0 : Int32), V7))
noncomputable def fX10_denied (V : VT) (x1 : Int32) : Option (Int32 × VT) := ob_R (fX10_uses V ) fun V2 => ob_R (fX10_isTold V2 ) fun y4 => if y4 = 0 then (fX10_denied_j17 V2 x1 (1 : Int32)) else (fX10_denied_j17 V2 x1 (0 : Int32))
set_option maxHeartbeats 4000000 in
set_option maxRecDepth 100000 in
theorem wX10_denied_L36 {p : Program} {l : Launch} {e : Env} {s : State} {m : MethodId} {args : Array Value} {below : List Frame} {meth : Method} {c : Code} {G : GT} {B : BGt} {Q : State → Prop} (E : En p s m args c meth cX10_denied 5 RX10 (some .int) G B) {x : (VT × Int32 × Int32 × Int32)} (ke : ∀ q : (VT × Int32 × Int32 × Int32), x = q → ∀ (H : Heap) (locs : List Loc) (ls : Array Slot), HW G s.heap (q.1) H locs → lv_has ls 5 [(1, .int (q.2.1)), (2, .int (q.2.2.1)), (3, .int (q.2.2.2))] → W p l e (rmD 5) s m args below meth c H locs 0 0 Q (F0 m 71 ls [])) : ∀ (n : Nat) (q : (VT × Int32 × Int32 × Int32 × Int32)), it_ (iX10_denied_L36) n q = some x → ∀ (H : Heap) (locs : List Loc) (ls : Array Slot), HW G s.heap (q.1) H locs → lv_has ls 5 [(0, .ref (G.2.2 22)), (1, .int (q.2.1)), (2, .int (q.2.2.1)), (3, .int (q.2.2.2.1)), (4, .int (q.2.2.2.2))] → W p l e (rmD 5) s m args below meth c H locs 0 0 Q (F0 m 36 ls []) := by
  have hx := en_x E
  have hb := en_b E
  have hB := en_B E
  refine it_W (fun q : (VT × Int32 × Int32 × Int32 × Int32) => ∀ (H : Heap) (locs : List Loc) (ls : Array Slot), HW G s.heap (q.1) H locs → lv_has ls 5 [(0, .ref (G.2.2 22)), (1, .int (q.2.1)), (2, .int (q.2.2.1)), (3, .int (q.2.2.2.1)), (4, .int (q.2.2.2.2))] → W p l e (rmD 5) s m args below meth c H locs 0 0 Q (F0 m 36 ls [])) x ?_
  intro q r h kc kx
  obtain ⟨V, u1, u2, u3, u4⟩ := q
  intro H locs ls hw hl
  have h : fX10_denied_L36 V u1 u2 u3 u4 = some r := h
  have hw : HW G s.heap V H locs := hw
  have hl : lv_has ls 5 [(0, .ref (G.2.2 22)), (1, .int u1), (2, .int u2), (3, .int u3), (4, .int u4)] := hl
  have ke : ∀ q : (VT × Int32 × Int32 × Int32), r = .inr (q) → ∀ (H : Heap) (locs : List Loc) (ls : Array Slot), HW G s.heap (q.1) H locs → lv_has ls 5 [(1, .int (q.2.1)), (2, .int (q.2.2.1)), (3, .int (q.2.2.2))] → W p l e (rmD 5) s m args below meth c H locs 0 0 Q (F0 m 71 ls []) := fun q e => ke q (kx _ e).symm
  unfold fX10_denied_L36 at h
  refine lv_iload hx hb dX10_denied_36 (lv_at hl 4 rfl) ?_
  refine lv_aload_n hx hb dX10_denied_38 rfl (lv_at hl 0 rfl) ?_
  obtain ⟨y11, h10, h⟩ := ob_R_some h
  refine c_VI E hw (kX10_allHouses (l := l) (G := G) hB  h10) yy_X10_allHouses lm_RX10_321 rfl (by decide) rfl rfl hl.1 (by decide) (by decide) rfl (Nat.le_of_ble_eq_true rfl) dX10_denied_39 (fun H locs hw => ?_)
  refine lv_icmp_gt (tgt := 71) hx hb dX10_denied_42 (by decide) (fun c19 => ?_) (fun c19 => ?_)
  · rw [if_pos c19] at h
    exact ke (V, u1, u2, u3) (Option.some.inj h).symm H locs ls hw (lv_sub hl [1, 2, 3] rfl)
  · rw [if_neg c19] at h
    refine lv_aload_n hx hb dX10_denied_45 rfl (lv_at hl 0 rfl) ?_
    refine lv_iload hx hb dX10_denied_46 (lv_at hl 4 rfl) ?_
    obtain ⟨y13, h12, h⟩ := ob_R_some h
    refine c_VI E hw (kX10_fits (l := l) (G := G) hB  h12) yy_X10_fits lm_RX10_416 rfl (by decide) rfl rfl hl.1 (by decide) (by decide) rfl (Nat.le_of_ble_eq_true rfl) dX10_denied_48 (fun H locs hw => ?_)
    refine lv_if_ne (tgt := 57) hx hb dX10_denied_51 (by decide) (fun c18 => ?_) (fun c18 => ?_)
    · rw [if_neg c18] at h
      obtain ⟨y14, ey14, h⟩ := lt_some h
      refine lv_iinc (v := y14) (lv' := [(2, .int y14), (0, .ref (G.2.2 22)), (1, .int u1), (3, .int u3), (4, .int u4)]) hx hb dX10_denied_57 hl (k := 2) rfl (by rw [ey14]; rfl) (by decide) rfl (fun ls hl => ?_)
      refine lv_iload_n hx hb dX10_denied_60 rfl (lv_at hl 3 rfl) ?_
      refine lv_iload hx hb dX10_denied_61 (lv_at hl 4 rfl) ?_
      refine lv_iand hx hb dX10_denied_63 ?_
      obtain ⟨y15, ey15, h⟩ := lt_some h
      refine lv_eqi ey15 ?_
      refine lv_istore_n (lv' := [(3, .int y15), (2, .int y14), (0, .ref (G.2.2 22)), (1, .int u1), (4, .int u4)]) hx hb dX10_denied_64 rfl hl (by decide) rfl (fun ls hl => ?_)
      obtain ⟨y16, ey16, h⟩ := lt_some h
      refine lv_iinc (v := y16) (lv' := [(4, .int y16), (3, .int y15), (2, .int y14), (0, .ref (G.2.2 22)), (1, .int u1)]) hx hb dX10_denied_65 hl (k := 4) rfl (by rw [ey16]; rfl) (by decide) rfl (fun ls hl => ?_)
      refine lv_goto (tgt := 36) hx hb dX10_denied_68 (by decide) ?_
      exact kc (V, u1, y14, y15, y16) (Option.some.inj h).symm H locs ls hw (lv_sub hl [3, 4, 2, 1, 0] rfl)
    · rw [if_pos c18] at h
      refine lv_goto (tgt := 65) hx hb dX10_denied_54 (by decide) ?_
      obtain ⟨y17, ey17, h⟩ := lt_some h
      refine lv_iinc (v := y17) (lv' := [(4, .int y17), (0, .ref (G.2.2 22)), (1, .int u1), (2, .int u2), (3, .int u3)]) hx hb dX10_denied_65 hl (k := 4) rfl (by rw [ey17]; rfl) (by decide) rfl (fun ls hl => ?_)
      refine lv_goto (tgt := 36) hx hb dX10_denied_68 (by decide) ?_
      exact kc (V, u1, u2, u3, y17) (Option.some.inj h).symm H locs ls hw (lv_sub hl [1, 2, 3, 4, 0] rfl)
set_option maxHeartbeats 4000000 in
set_option maxRecDepth 100000 in
theorem wX10_denied_j17 {p : Program} {l : Launch} {e : Env} {s : State} {m : MethodId} {args : Array Value} {below : List Frame} {meth : Method} {c : Code} {G : GT} {B : BGt} {Q : State → Prop} (E : En p s m args c meth cX10_denied 5 RX10 (some .int) G B) {V : VT} {u1 : Int32} {t0 : Int32} {r : (Int32 × VT)} (h : fX10_denied_j17 V u1 t0 = some r) (kr : Q = MQ below (QI G s.heap.size r.1 r.2) args s 0 0 (gA G s.heap.size)) {H : Heap} {locs : List Loc} {ls : Array Slot} (hw : HW G s.heap V H locs) (hl : lv_has ls 5 [(0, .ref (G.2.2 22)), (1, .int u1)]) : W p l e (rmD 5) s m args below meth c H locs 0 0 Q (F0 m 17 ls [.int t0, .ref (G.2.2 22)]) := by
  have hx := en_x E
  have hb := en_b E
  have hB := en_B E
  unfold fX10_denied_j17 at h
  refine lv_iconst (v := (1 : Int32)) hx hb dX10_denied_17 (by decide) ?_
  obtain ⟨y6, V7, h5, h⟩ := ob_I_some h
  refine c_VI E hw (kX10_throwsIf (l := l) (G := G) hB  h5) yy_X10_throwsIf lm_RX10_233 rfl (by decide) rfl rfl hl.1 (by decide) (by decide) rfl (Nat.le_of_ble_eq_true rfl) dX10_denied_18 (fun H locs hw => ?_)
  refine lv_if_eq (tgt := 26) hx hb dX10_denied_21 (by decide) (fun c28 => ?_) (fun c28 => ?_)
  · rw [if_pos c28] at h
    refine lv_iconst (v := (0 : Int32)) hx hb dX10_denied_26 (by decide) ?_
    refine lv_istore_n (lv' := [(2, .int (0 : Int32)), (0, .ref (G.2.2 22)), (1, .int u1)]) hx hb dX10_denied_27 rfl hl (by decide) rfl (fun ls hl => ?_)
    refine lv_aload_n hx hb dX10_denied_28 rfl (lv_at hl 1 rfl) ?_
    obtain ⟨y9, h8, h⟩ := ob_R_some h
    refine c_VI E hw (kX10_allHouses (l := l) (G := G) hB  h8) yy_X10_allHouses lm_RX10_321 rfl (by decide) rfl rfl hl.1 (by decide) (by decide) rfl (Nat.le_of_ble_eq_true rfl) dX10_denied_29 (fun H locs hw => ?_)
    refine lv_istore_n (lv' := [(3, .int y9), (2, .int (0 : Int32)), (0, .ref (G.2.2 22)), (1, .int u1)]) hx hb dX10_denied_32 rfl hl (by decide) rfl (fun ls hl => ?_)
    refine lv_iconst (v := (0 : Int32)) hx hb dX10_denied_33 (by decide) ?_
    refine lv_istore (lv' := [(4, .int (0 : Int32)), (3, .int y9), (2, .int (0 : Int32)), (0, .ref (G.2.2 22)), (1, .int u1)]) hx hb dX10_denied_34 hl (by decide) rfl (fun ls hl => ?_)
    obtain ⟨x21, h20, h⟩ := ob_R_some h
    obtain ⟨V25, y22, y23, y24⟩ := x21
    refine wX10_denied_L36 E (fun q e H locs ls hw hl => ?_) FV (V7, u1, (0 : Int32), y9, (0 : Int32)) h20 H locs ls hw (lv_sub hl [3, 4, 2, 1, 0] rfl)
    subst e
    have hw : HW G s.heap V25 H locs := hw
    have hl : lv_has ls 5 [(1, .int y22), (2, .int y23), (3, .int y24)] := hl
    have h := dt4_eq h
    refine lv_iload_n hx hb dX10_denied_71 rfl (lv_at hl 0 rfl) ?_
    refine lv_if_ne (tgt := 79) hx hb dX10_denied_72 (by decide) (fun c27 => ?_) (fun c27 => ?_)
    · rw [if_neg c27] at h
      refine lv_iload_n hx hb dX10_denied_79 rfl (lv_at hl 1 rfl) ?_
      refine lv_if_ne (tgt := 87) hx hb dX10_denied_80 (by decide) (fun c26 => ?_) (fun c26 => ?_)
      · rw [if_neg c26] at h
        refine lv_iload_n hx hb dX10_denied_87 rfl (lv_at hl 2 rfl) ?_
        have h := Option.some.inj h
        subst h
        rw [kr]
        exact r_ri E hw dX10_denied_88
      · rw [if_pos c26] at h
        refine lv_iconst (v := (0 : Int32)) hx hb dX10_denied_83 (by decide) ?_
        refine lv_goto (tgt := 88) hx hb dX10_denied_84 (by decide) ?_
        have h := Option.some.inj h
        subst h
        rw [kr]
        exact r_ri E hw dX10_denied_88
    · rw [if_pos c27] at h
      refine lv_iload_n hx hb dX10_denied_75 rfl (lv_at hl 1 rfl) ?_
      refine lv_goto (tgt := 88) hx hb dX10_denied_76 (by decide) ?_
      have h := Option.some.inj h
      subst h
      rw [kr]
      exact r_ri E hw dX10_denied_88
  · rw [if_neg c28] at h
    refine lv_iconst (v := (0 : Int32)) hx hb dX10_denied_24 (by decide) ?_
    have h := Option.some.inj h
    subst h
    rw [kr]
    exact r_ri E hw dX10_denied_25
set_option maxHeartbeats 4000000 in
set_option maxRecDepth 100000 in
theorem kX10_denied {l : Launch} {G : GT} {B : BGt} (hB : BGok B) {V : VT} {x1 : Int32} {r : (Int32 × VT)} (h : fX10_denied V x1 = some r) : CI l G B yX10_denied (.code yX10_denied cX10_denied 5 (some .int)) 5 [.ref (G.2.2 22), .int x1] V r.1 r.2 := by
  intro sz
  refine met_of (Qs := fun sz => QI G sz (r.1) (r.2)) hB (by decide) (Nat.le_of_ble_eq_true rfl) ?_ sz
  intro p e s m args below meth c ls E hw hl
  have hx := en_x E
  have hb := en_b E
  generalize hQ : MQ _ _ _ _ _ _ _ = Q
  have kr : Q = MQ below (QI G s.heap.size r.1 r.2) args s 0 0 (gA G s.heap.size) := hQ.symm
  have hl : lv_has ls 5 [(0, .ref (G.2.2 22)), (1, .int x1)] := hl
  obtain ⟨H, eH⟩ : ∃ H, H = s.heap := ⟨_, rfl⟩
  obtain ⟨locs, elocs⟩ : ∃ z : List Loc, z = [] := ⟨_, rfl⟩
  have hw : HW G s.heap V H locs := by rw [eH, elocs]; exact hw
  show W p l e _ s m args below meth c s.heap [] 0 0 Q (F0 m 0 ls [])
  rw [← eH, ← elocs]
  unfold fX10_denied at h
  refine lv_aload_n hx hb dX10_denied_0 rfl (lv_at hl 0 rfl) ?_
  obtain ⟨V2, h1, h⟩ := ob_R_some h
  refine c_VV E hw (kX10_uses (l := l) (G := G) hB  h1) yy_X10_uses lm_RX10_222 rfl (by decide) rfl rfl hl.1 (by decide) (by decide) rfl (Nat.le_of_ble_eq_true rfl) dX10_denied_1 (fun H locs hw => ?_)
  refine lv_aload_n hx hb dX10_denied_4 rfl (lv_at hl 0 rfl) ?_
  refine lv_aload_n hx hb dX10_denied_5 rfl (lv_at hl 0 rfl) ?_
  obtain ⟨y4, h3, h⟩ := ob_R_some h
  refine c_VI E hw (kX10_isTold (l := l) (G := G) hB  h3) yy_X10_isTold lm_RX10_413 rfl (by decide) rfl rfl hl.1 (by decide) (by decide) rfl (Nat.le_of_ble_eq_true rfl) dX10_denied_6 (fun H locs hw => ?_)
  refine lv_if_ne (tgt := 16) hx hb dX10_denied_9 (by decide) (fun c29 => ?_) (fun c29 => ?_)
  · rw [if_neg c29] at h
    refine lv_iconst (v := (0 : Int32)) hx hb dX10_denied_16 (by decide) ?_
    exact wX10_denied_j17 E h kr hw (lv_sub hl [0, 1] rfl)
  · rw [if_pos c29] at h
    refine lv_iconst (v := (1 : Int32)) hx hb dX10_denied_12 (by decide) ?_
    refine lv_goto (tgt := 17) hx hb dX10_denied_13 (by decide) ?_
    exact wX10_denied_j17 E h kr hw (lv_sub hl [0, 1] rfl)
/-! ===== AllSawItModel.ask()I ===== -/
theorem dX10_ask_0 : decode cX10_ask 0 = .ok (.aload_n 0, 1) := by decide +kernel
theorem dX10_ask_1 : decode cX10_ask 1 = .ok (.invokevirtual 222, 3) := by decide +kernel
theorem dX10_ask_4 : decode cX10_ask 4 = .ok (.aload_n 0, 1) := by decide +kernel
theorem dX10_ask_5 : decode cX10_ask 5 = .ok (.aload_n 0, 1) := by decide +kernel
theorem dX10_ask_6 : decode cX10_ask 6 = .ok (.invokevirtual 413, 3) := by decide +kernel
theorem dX10_ask_9 : decode cX10_ask 9 = .ok (.ifCond .ne 7, 3) := by decide +kernel
theorem dX10_ask_12 : decode cX10_ask 12 = .ok (.iconst 1, 1) := by decide +kernel
theorem dX10_ask_13 : decode cX10_ask 13 = .ok (.goto 4, 3) := by decide +kernel
theorem dX10_ask_16 : decode cX10_ask 16 = .ok (.iconst 0, 1) := by decide +kernel
theorem dX10_ask_17 : decode cX10_ask 17 = .ok (.iconst 1, 1) := by decide +kernel
theorem dX10_ask_18 : decode cX10_ask 18 = .ok (.invokevirtual 233, 3) := by decide +kernel
theorem dX10_ask_21 : decode cX10_ask 21 = .ok (.ifCond .eq 5, 3) := by decide +kernel
theorem dX10_ask_24 : decode cX10_ask 24 = .ok (.iconst 0, 1) := by decide +kernel
theorem dX10_ask_25 : decode cX10_ask 25 = .ok (.ireturn, 1) := by decide +kernel
theorem dX10_ask_26 : decode cX10_ask 26 = .ok (.iconst (-1), 1) := by decide +kernel
theorem dX10_ask_27 : decode cX10_ask 27 = .ok (.istore_n 1, 1) := by decide +kernel
theorem dX10_ask_28 : decode cX10_ask 28 = .ok (.ldc_w 336, 3) := by decide +kernel
theorem dX10_ask_31 : decode cX10_ask 31 = .ok (.istore_n 2, 1) := by decide +kernel
theorem dX10_ask_32 : decode cX10_ask 32 = .ok (.iconst 0, 1) := by decide +kernel
theorem dX10_ask_33 : decode cX10_ask 33 = .ok (.istore_n 3, 1) := by decide +kernel
theorem dX10_ask_34 : decode cX10_ask 34 = .ok (.iload_n 3, 1) := by decide +kernel
theorem dX10_ask_35 : decode cX10_ask 35 = .ok (.aload_n 0, 1) := by decide +kernel
theorem dX10_ask_36 : decode cX10_ask 36 = .ok (.invokevirtual 62, 3) := by decide +kernel
theorem dX10_ask_39 : decode cX10_ask 39 = .ok (.if_icmp .ge 91, 3) := by decide +kernel
theorem dX10_ask_42 : decode cX10_ask 42 = .ok (.iconst 0, 1) := by decide +kernel
theorem dX10_ask_43 : decode cX10_ask 43 = .ok (.istore 4, 2) := by decide +kernel
theorem dX10_ask_45 : decode cX10_ask 45 = .ok (.iconst 0, 1) := by decide +kernel
theorem dX10_ask_46 : decode cX10_ask 46 = .ok (.istore 5, 2) := by decide +kernel
theorem dX10_ask_48 : decode cX10_ask 48 = .ok (.iconst 0, 1) := by decide +kernel
theorem dX10_ask_49 : decode cX10_ask 49 = .ok (.istore 6, 2) := by decide +kernel
theorem dX10_ask_51 : decode cX10_ask 51 = .ok (.iload 6, 2) := by decide +kernel
theorem dX10_ask_53 : decode cX10_ask 53 = .ok (.aload_n 0, 1) := by decide +kernel
theorem dX10_ask_54 : decode cX10_ask 54 = .ok (.invokevirtual 321, 3) := by decide +kernel
theorem dX10_ask_57 : decode cX10_ask 57 = .ok (.if_icmp .gt 35, 3) := by decide +kernel
theorem dX10_ask_60 : decode cX10_ask 60 = .ok (.aload_n 0, 1) := by decide +kernel
theorem dX10_ask_61 : decode cX10_ask 61 = .ok (.iload 6, 2) := by decide +kernel
theorem dX10_ask_63 : decode cX10_ask 63 = .ok (.invokevirtual 416, 3) := by decide +kernel
theorem dX10_ask_66 : decode cX10_ask 66 = .ok (.ifCond .ne 6, 3) := by decide +kernel
theorem dX10_ask_69 : decode cX10_ask 69 = .ok (.goto 17, 3) := by decide +kernel
theorem dX10_ask_72 : decode cX10_ask 72 = .ok (.iinc 5 1, 3) := by decide +kernel
theorem dX10_ask_75 : decode cX10_ask 75 = .ok (.iload 4, 2) := by decide +kernel
theorem dX10_ask_77 : decode cX10_ask 77 = .ok (.iload 6, 2) := by decide +kernel
theorem dX10_ask_79 : decode cX10_ask 79 = .ok (.iload_n 3, 1) := by decide +kernel
theorem dX10_ask_80 : decode cX10_ask 80 = .ok (.ishr, 1) := by decide +kernel
theorem dX10_ask_81 : decode cX10_ask 81 = .ok (.iconst 1, 1) := by decide +kernel
theorem dX10_ask_82 : decode cX10_ask 82 = .ok (.iand, 1) := by decide +kernel
theorem dX10_ask_83 : decode cX10_ask 83 = .ok (.iadd, 1) := by decide +kernel
theorem dX10_ask_84 : decode cX10_ask 84 = .ok (.istore 4, 2) := by decide +kernel
theorem dX10_ask_86 : decode cX10_ask 86 = .ok (.iinc 6 1, 3) := by decide +kernel
theorem dX10_ask_89 : decode cX10_ask 89 = .ok (.goto (-38), 3) := by decide +kernel
theorem dX10_ask_92 : decode cX10_ask 92 = .ok (.iload 4, 2) := by decide +kernel
theorem dX10_ask_94 : decode cX10_ask 94 = .ok (.iload 5, 2) := by decide +kernel
theorem dX10_ask_96 : decode cX10_ask 96 = .ok (.iload 4, 2) := by decide +kernel
theorem dX10_ask_98 : decode cX10_ask 98 = .ok (.isub, 1) := by decide +kernel
theorem dX10_ask_99 : decode cX10_ask 99 = .ok (.invokestatic 239, 3) := by decide +kernel
theorem dX10_ask_102 : decode cX10_ask 102 = .ok (.istore 6, 2) := by decide +kernel
theorem dX10_ask_104 : decode cX10_ask 104 = .ok (.iload 5, 2) := by decide +kernel
theorem dX10_ask_106 : decode cX10_ask 106 = .ok (.iconst 2, 1) := by decide +kernel
theorem dX10_ask_107 : decode cX10_ask 107 = .ok (.if_icmp .lt 17, 3) := by decide +kernel
theorem dX10_ask_110 : decode cX10_ask 110 = .ok (.iload 6, 2) := by decide +kernel
theorem dX10_ask_112 : decode cX10_ask 112 = .ok (.iload_n 2, 1) := by decide +kernel
theorem dX10_ask_113 : decode cX10_ask 113 = .ok (.if_icmp .lt 6, 3) := by decide +kernel
theorem dX10_ask_116 : decode cX10_ask 116 = .ok (.goto 8, 3) := by decide +kernel
theorem dX10_ask_119 : decode cX10_ask 119 = .ok (.iload_n 3, 1) := by decide +kernel
theorem dX10_ask_120 : decode cX10_ask 120 = .ok (.istore_n 1, 1) := by decide +kernel
theorem dX10_ask_121 : decode cX10_ask 121 = .ok (.iload 6, 2) := by decide +kernel
theorem dX10_ask_123 : decode cX10_ask 123 = .ok (.istore_n 2, 1) := by decide +kernel
theorem dX10_ask_124 : decode cX10_ask 124 = .ok (.iinc 3 1, 3) := by decide +kernel
theorem dX10_ask_127 : decode cX10_ask 127 = .ok (.goto (-93), 3) := by decide +kernel
theorem dX10_ask_130 : decode cX10_ask 130 = .ok (.iload_n 1, 1) := by decide +kernel
theorem dX10_ask_131 : decode cX10_ask 131 = .ok (.ireturn, 1) := by decide +kernel
noncomputable def fX10_ask_L51 (V : VT) (u1 : Int32) (u2 : Int32) (u3 : Int32) (u4 : Int32) (u5 : Int32) (u6 : Int32) : Option ((VT × Int32 × Int32 × Int32 × Int32 × Int32 × Int32) ⊕ (VT × Int32 × Int32 × Int32 × Int32 × Int32)) := ob_R (fX10_allHouses V ) fun y11 => if y11 < u6 then (some (.inr ((V, u1, u2, u3, u4, u5)))) else (ob_R (fX10_fits V u6) fun y13 => if y13 = 0 then (lt_ (u6 + (1 : Int32)) fun y17 => some (.inl (V, u1, u2, u3, u4, u5, y17))) else (lt_ (u5 + (1 : Int32)) fun y14 => lt_ (u4 + ((u6 >>> (u3 &&& 31)) &&& (1 : Int32))) fun y15 => lt_ (u6 + (1 : Int32)) fun y16 => some (.inl (V, u1, u2, u3, y15, y14, y16))))
noncomputable def iX10_ask_L51 : (VT × Int32 × Int32 × Int32 × Int32 × Int32 × Int32) → Option ((VT × Int32 × Int32 × Int32 × Int32 × Int32 × Int32) ⊕ (VT × Int32 × Int32 × Int32 × Int32 × Int32)) := fun q => fX10_ask_L51 (q.1) (q.2.1) (q.2.2.1) (q.2.2.2.1) (q.2.2.2.2.1) (q.2.2.2.2.2.1) (q.2.2.2.2.2.2)
noncomputable def fX10_ask_L34 (V : VT) (u1 : Int32) (u2 : Int32) (u3 : Int32) : Option ((VT × Int32 × Int32 × Int32) ⊕ (Int32 × VT)) := ob_R (fX10_houses V ) fun y9 => if y9 ≤ u3 then (some (.inr ((u1, V)))) else (ob_R (it_ (iX10_ask_L51) FV (V, u1, u2, u3, (0 : Int32), (0 : Int32), (0 : Int32))) fun x21 => (dt6_ x21 fun V27 y22 y23 y24 y25 y26 => lt_ (if y25 < (y26 - y25) then (y26 - y25) else y25) fun y28 => if y26 < (2 : Int32) then (lt_ (y24 + (1 : Int32)) fun y29 => some (.inl (V27, y22, y23, y29))) else (if y28 < y23 then (lt_ (y24 + (1 : Int32)) fun y30 => some (.inl (V27, y24, y28, y30))) else (lt_ (y24 + (1 : Int32)) fun y31 => some (.inl (V27, y22, y23, y31))))))
noncomputable def iX10_ask_L34 : (VT × Int32 × Int32 × Int32) → Option ((VT × Int32 × Int32 × Int32) ⊕ (Int32 × VT)) := fun q => fX10_ask_L34 (q.1) (q.2.1) (q.2.2.1) (q.2.2.2)
noncomputable def fX10_ask_j17 (V : VT) (t0 : Int32) : Option (Int32 × VT) := ob_I (fX10_throwsIf V t0 (1 : Int32)) fun y6 V7 => if y6 = 0 then (ob_R (it_ (iX10_ask_L34) FV (V7, (-1 : Int32), (1000000 : Int32), (0 : Int32))) fun x36 => some x36) else (some ((0 : Int32), V7))
noncomputable def fX10_ask (V : VT) : Option (Int32 × VT) := ob_R (fX10_uses V ) fun V2 => ob_R (fX10_isTold V2 ) fun y4 => if y4 = 0 then (fX10_ask_j17 V2 (1 : Int32)) else (fX10_ask_j17 V2 (0 : Int32))
set_option maxHeartbeats 4000000 in
set_option maxRecDepth 100000 in
theorem wX10_ask_L51 {p : Program} {l : Launch} {e : Env} {s : State} {m : MethodId} {args : Array Value} {below : List Frame} {meth : Method} {c : Code} {G : GT} {B : BGt} {Q : State → Prop} (E : En p s m args c meth cX10_ask 7 RX10 (some .int) G B) {x : (VT × Int32 × Int32 × Int32 × Int32 × Int32)} (ke : ∀ q : (VT × Int32 × Int32 × Int32 × Int32 × Int32), x = q → ∀ (H : Heap) (locs : List Loc) (ls : Array Slot), HW G s.heap (q.1) H locs → lv_has ls 7 [(0, .ref (G.2.2 22)), (1, .int (q.2.1)), (2, .int (q.2.2.1)), (3, .int (q.2.2.2.1)), (4, .int (q.2.2.2.2.1)), (5, .int (q.2.2.2.2.2))] → W p l e (rmD 5) s m args below meth c H locs 0 0 Q (F0 m 92 ls [])) : ∀ (n : Nat) (q : (VT × Int32 × Int32 × Int32 × Int32 × Int32 × Int32)), it_ (iX10_ask_L51) n q = some x → ∀ (H : Heap) (locs : List Loc) (ls : Array Slot), HW G s.heap (q.1) H locs → lv_has ls 7 [(0, .ref (G.2.2 22)), (1, .int (q.2.1)), (2, .int (q.2.2.1)), (3, .int (q.2.2.2.1)), (4, .int (q.2.2.2.2.1)), (5, .int (q.2.2.2.2.2.1)), (6, .int (q.2.2.2.2.2.2))] → W p l e (rmD 5) s m args below meth c H locs 0 0 Q (F0 m 51 ls []) := by
  have hx := en_x E
  have hb := en_b E
  have hB := en_B E
  refine it_W (fun q : (VT × Int32 × Int32 × Int32 × Int32 × Int32 × Int32) => ∀ (H : Heap) (locs : List Loc) (ls : Array Slot), HW G s.heap (q.1) H locs → lv_has ls 7 [(0, .ref (G.2.2 22)), (1, .int (q.2.1)), (2, .int (q.2.2.1)), (3, .int (q.2.2.2.1)), (4, .int (q.2.2.2.2.1)), (5, .int (q.2.2.2.2.2.1)), (6, .int (q.2.2.2.2.2.2))] → W p l e (rmD 5) s m args below meth c H locs 0 0 Q (F0 m 51 ls [])) x ?_
  intro q r h kc kx
  obtain ⟨V, u1, u2, u3, u4, u5, u6⟩ := q
  intro H locs ls hw hl
  have h : fX10_ask_L51 V u1 u2 u3 u4 u5 u6 = some r := h
  have hw : HW G s.heap V H locs := hw
  have hl : lv_has ls 7 [(0, .ref (G.2.2 22)), (1, .int u1), (2, .int u2), (3, .int u3), (4, .int u4), (5, .int u5), (6, .int u6)] := hl
  have ke : ∀ q : (VT × Int32 × Int32 × Int32 × Int32 × Int32), r = .inr (q) → ∀ (H : Heap) (locs : List Loc) (ls : Array Slot), HW G s.heap (q.1) H locs → lv_has ls 7 [(0, .ref (G.2.2 22)), (1, .int (q.2.1)), (2, .int (q.2.2.1)), (3, .int (q.2.2.2.1)), (4, .int (q.2.2.2.2.1)), (5, .int (q.2.2.2.2.2))] → W p l e (rmD 5) s m args below meth c H locs 0 0 Q (F0 m 92 ls []) := fun q e => ke q (kx _ e).symm
  unfold fX10_ask_L51 at h
  refine lv_iload hx hb dX10_ask_51 (lv_at hl 6 rfl) ?_
  refine lv_aload_n hx hb dX10_ask_53 rfl (lv_at hl 0 rfl) ?_
  obtain ⟨y11, h10, h⟩ := ob_R_some h
  refine c_VI E hw (kX10_allHouses (l := l) (G := G) hB  h10) yy_X10_allHouses lm_RX10_321 rfl (by decide) rfl rfl hl.1 (by decide) (by decide) rfl (Nat.le_of_ble_eq_true rfl) dX10_ask_54 (fun H locs hw => ?_)
  refine lv_icmp_gt (tgt := 92) hx hb dX10_ask_57 (by decide) (fun c19 => ?_) (fun c19 => ?_)
  · rw [if_pos c19] at h
    exact ke (V, u1, u2, u3, u4, u5) (Option.some.inj h).symm H locs ls hw (lv_sub hl [0, 1, 2, 3, 4, 5] rfl)
  · rw [if_neg c19] at h
    refine lv_aload_n hx hb dX10_ask_60 rfl (lv_at hl 0 rfl) ?_
    refine lv_iload hx hb dX10_ask_61 (lv_at hl 6 rfl) ?_
    obtain ⟨y13, h12, h⟩ := ob_R_some h
    refine c_VI E hw (kX10_fits (l := l) (G := G) hB  h12) yy_X10_fits lm_RX10_416 rfl (by decide) rfl rfl hl.1 (by decide) (by decide) rfl (Nat.le_of_ble_eq_true rfl) dX10_ask_63 (fun H locs hw => ?_)
    refine lv_if_ne (tgt := 72) hx hb dX10_ask_66 (by decide) (fun c18 => ?_) (fun c18 => ?_)
    · rw [if_neg c18] at h
      obtain ⟨y14, ey14, h⟩ := lt_some h
      refine lv_iinc (v := y14) (lv' := [(5, .int y14), (0, .ref (G.2.2 22)), (1, .int u1), (2, .int u2), (3, .int u3), (4, .int u4), (6, .int u6)]) hx hb dX10_ask_72 hl (k := 5) rfl (by rw [ey14]; rfl) (by decide) rfl (fun ls hl => ?_)
      refine lv_iload hx hb dX10_ask_75 (lv_at hl 5 rfl) ?_
      refine lv_iload hx hb dX10_ask_77 (lv_at hl 6 rfl) ?_
      refine lv_iload_n hx hb dX10_ask_79 rfl (lv_at hl 4 rfl) ?_
      refine lv_ishr hx hb dX10_ask_80 ?_
      refine lv_iconst (v := (1 : Int32)) hx hb dX10_ask_81 (by decide) ?_
      refine lv_iand hx hb dX10_ask_82 ?_
      refine lv_iadd hx hb dX10_ask_83 ?_
      obtain ⟨y15, ey15, h⟩ := lt_some h
      refine lv_eqi ey15 ?_
      refine lv_istore (lv' := [(4, .int y15), (5, .int y14), (0, .ref (G.2.2 22)), (1, .int u1), (2, .int u2), (3, .int u3), (6, .int u6)]) hx hb dX10_ask_84 hl (by decide) rfl (fun ls hl => ?_)
      obtain ⟨y16, ey16, h⟩ := lt_some h
      refine lv_iinc (v := y16) (lv' := [(6, .int y16), (4, .int y15), (5, .int y14), (0, .ref (G.2.2 22)), (1, .int u1), (2, .int u2), (3, .int u3)]) hx hb dX10_ask_86 hl (k := 6) rfl (by rw [ey16]; rfl) (by decide) rfl (fun ls hl => ?_)
      refine lv_goto (tgt := 51) hx hb dX10_ask_89 (by decide) ?_
      exact kc (V, u1, u2, u3, y15, y14, y16) (Option.some.inj h).symm H locs ls hw (lv_sub hl [3, 4, 5, 6, 1, 2, 0] rfl)
    · rw [if_pos c18] at h
      refine lv_goto (tgt := 86) hx hb dX10_ask_69 (by decide) ?_
      obtain ⟨y17, ey17, h⟩ := lt_some h
      refine lv_iinc (v := y17) (lv' := [(6, .int y17), (0, .ref (G.2.2 22)), (1, .int u1), (2, .int u2), (3, .int u3), (4, .int u4), (5, .int u5)]) hx hb dX10_ask_86 hl (k := 6) rfl (by rw [ey17]; rfl) (by decide) rfl (fun ls hl => ?_)
      refine lv_goto (tgt := 51) hx hb dX10_ask_89 (by decide) ?_
      exact kc (V, u1, u2, u3, u4, u5, y17) (Option.some.inj h).symm H locs ls hw (lv_sub hl [1, 2, 3, 4, 5, 6, 0] rfl)
set_option maxHeartbeats 4000000 in
set_option maxRecDepth 100000 in
theorem wX10_ask_L34 {p : Program} {l : Launch} {e : Env} {s : State} {m : MethodId} {args : Array Value} {below : List Frame} {meth : Method} {c : Code} {G : GT} {B : BGt} {Q : State → Prop} (E : En p s m args c meth cX10_ask 7 RX10 (some .int) G B) {x : (Int32 × VT)} (kr : ∀ q : (Int32 × VT), x = q → Q = MQ below (QI G s.heap.size q.1 q.2) args s 0 0 (gA G s.heap.size)) : ∀ (n : Nat) (q : (VT × Int32 × Int32 × Int32)), it_ (iX10_ask_L34) n q = some x → ∀ (H : Heap) (locs : List Loc) (ls : Array Slot), HW G s.heap (q.1) H locs → lv_has ls 7 [(0, .ref (G.2.2 22)), (1, .int (q.2.1)), (2, .int (q.2.2.1)), (3, .int (q.2.2.2))] → W p l e (rmD 5) s m args below meth c H locs 0 0 Q (F0 m 34 ls []) := by
  have hx := en_x E
  have hb := en_b E
  have hB := en_B E
  refine it_W (fun q : (VT × Int32 × Int32 × Int32) => ∀ (H : Heap) (locs : List Loc) (ls : Array Slot), HW G s.heap (q.1) H locs → lv_has ls 7 [(0, .ref (G.2.2 22)), (1, .int (q.2.1)), (2, .int (q.2.2.1)), (3, .int (q.2.2.2))] → W p l e (rmD 5) s m args below meth c H locs 0 0 Q (F0 m 34 ls [])) x ?_
  intro q r h kc kx
  obtain ⟨V, u1, u2, u3⟩ := q
  intro H locs ls hw hl
  have h : fX10_ask_L34 V u1 u2 u3 = some r := h
  have hw : HW G s.heap V H locs := hw
  have hl : lv_has ls 7 [(0, .ref (G.2.2 22)), (1, .int u1), (2, .int u2), (3, .int u3)] := hl
  have kr : ∀ q : (Int32 × VT), r = .inr (q) → Q = MQ below (QI G s.heap.size q.1 q.2) args s 0 0 (gA G s.heap.size) := fun q e => kr q (kx _ e).symm
  unfold fX10_ask_L34 at h
  refine lv_iload_n hx hb dX10_ask_34 rfl (lv_at hl 3 rfl) ?_
  refine lv_aload_n hx hb dX10_ask_35 rfl (lv_at hl 0 rfl) ?_
  obtain ⟨y9, h8, h⟩ := ob_R_some h
  refine c_VI E hw (kX10_houses (l := l) (G := G) hB  h8) yy_X10_houses lm_RX10_62 rfl (by decide) rfl rfl hl.1 (by decide) (by decide) rfl (Nat.le_of_ble_eq_true rfl) dX10_ask_36 (fun H locs hw => ?_)
  refine lv_icmp_ge (tgt := 130) hx hb dX10_ask_39 (by decide) (fun c34 => ?_) (fun c34 => ?_)
  · rw [if_pos c34] at h
    refine lv_iload_n hx hb dX10_ask_130 rfl (lv_at hl 1 rfl) ?_
    rw [kr (u1, V) (Option.some.inj h).symm]
    exact r_ri E hw dX10_ask_131
  · rw [if_neg c34] at h
    refine lv_iconst (v := (0 : Int32)) hx hb dX10_ask_42 (by decide) ?_
    refine lv_istore (lv' := [(4, .int (0 : Int32)), (0, .ref (G.2.2 22)), (1, .int u1), (2, .int u2), (3, .int u3)]) hx hb dX10_ask_43 hl (by decide) rfl (fun ls hl => ?_)
    refine lv_iconst (v := (0 : Int32)) hx hb dX10_ask_45 (by decide) ?_
    refine lv_istore (lv' := [(5, .int (0 : Int32)), (4, .int (0 : Int32)), (0, .ref (G.2.2 22)), (1, .int u1), (2, .int u2), (3, .int u3)]) hx hb dX10_ask_46 hl (by decide) rfl (fun ls hl => ?_)
    refine lv_iconst (v := (0 : Int32)) hx hb dX10_ask_48 (by decide) ?_
    refine lv_istore (lv' := [(6, .int (0 : Int32)), (5, .int (0 : Int32)), (4, .int (0 : Int32)), (0, .ref (G.2.2 22)), (1, .int u1), (2, .int u2), (3, .int u3)]) hx hb dX10_ask_49 hl (by decide) rfl (fun ls hl => ?_)
    obtain ⟨x21, h20, h⟩ := ob_R_some h
    obtain ⟨V27, y22, y23, y24, y25, y26⟩ := x21
    refine wX10_ask_L51 E (fun q e H locs ls hw hl => ?_) FV (V, u1, u2, u3, (0 : Int32), (0 : Int32), (0 : Int32)) h20 H locs ls hw (lv_sub hl [3, 4, 5, 6, 2, 1, 0] rfl)
    subst e
    have hw : HW G s.heap V27 H locs := hw
    have hl : lv_has ls 7 [(0, .ref (G.2.2 22)), (1, .int y22), (2, .int y23), (3, .int y24), (4, .int y25), (5, .int y26)] := hl
    have h := dt6_eq h
    refine lv_iload hx hb dX10_ask_92 (lv_at hl 4 rfl) ?_
    refine lv_iload hx hb dX10_ask_94 (lv_at hl 5 rfl) ?_
    refine lv_iload hx hb dX10_ask_96 (lv_at hl 4 rfl) ?_
    refine lv_isub hx hb dX10_ask_98 ?_
    refine r_max E hl.1 lm_RX10_239 (by decide) (Nat.le_of_ble_eq_true rfl) dX10_ask_99 ?_
    obtain ⟨y28, ey28, h⟩ := lt_some h
    refine lv_eqi ey28 ?_
    refine lv_istore (lv' := [(6, .int y28), (0, .ref (G.2.2 22)), (1, .int y22), (2, .int y23), (3, .int y24), (4, .int y25), (5, .int y26)]) hx hb dX10_ask_102 hl (by decide) rfl (fun ls hl => ?_)
    refine lv_iload hx hb dX10_ask_104 (lv_at hl 6 rfl) ?_
    refine lv_iconst (v := (2 : Int32)) hx hb dX10_ask_106 (by decide) ?_
    refine lv_icmp_lt (tgt := 124) hx hb dX10_ask_107 (by decide) (fun c33 => ?_) (fun c33 => ?_)
    · rw [if_pos c33] at h
      obtain ⟨y29, ey29, h⟩ := lt_some h
      refine lv_iinc (v := y29) (lv' := [(3, .int y29), (6, .int y28), (0, .ref (G.2.2 22)), (1, .int y22), (2, .int y23), (4, .int y25), (5, .int y26)]) hx hb dX10_ask_124 hl (k := 4) rfl (by rw [ey29]; rfl) (by decide) rfl (fun ls hl => ?_)
      refine lv_goto (tgt := 34) hx hb dX10_ask_127 (by decide) ?_
      exact kc (V27, y22, y23, y29) (Option.some.inj h).symm H locs ls hw (lv_sub hl [2, 3, 4, 0] rfl)
    · rw [if_neg c33] at h
      refine lv_iload hx hb dX10_ask_110 (lv_at hl 0 rfl) ?_
      refine lv_iload_n hx hb dX10_ask_112 rfl (lv_at hl 3 rfl) ?_
      refine lv_icmp_lt (tgt := 119) hx hb dX10_ask_113 (by decide) (fun c32 => ?_) (fun c32 => ?_)
      · rw [if_pos c32] at h
        refine lv_iload_n hx hb dX10_ask_119 rfl (lv_at hl 4 rfl) ?_
        refine lv_istore_n (lv' := [(1, .int y24), (6, .int y28), (0, .ref (G.2.2 22)), (2, .int y23), (3, .int y24), (4, .int y25), (5, .int y26)]) hx hb dX10_ask_120 rfl hl (by decide) rfl (fun ls hl => ?_)
        refine lv_iload hx hb dX10_ask_121 (lv_at hl 1 rfl) ?_
        refine lv_istore_n (lv' := [(2, .int y28), (1, .int y24), (6, .int y28), (0, .ref (G.2.2 22)), (3, .int y24), (4, .int y25), (5, .int y26)]) hx hb dX10_ask_123 rfl hl (by decide) rfl (fun ls hl => ?_)
        obtain ⟨y30, ey30, h⟩ := lt_some h
        refine lv_iinc (v := y30) (lv' := [(3, .int y30), (2, .int y28), (1, .int y24), (6, .int y28), (0, .ref (G.2.2 22)), (4, .int y25), (5, .int y26)]) hx hb dX10_ask_124 hl (k := 4) rfl (by rw [ey30]; rfl) (by decide) rfl (fun ls hl => ?_)
        refine lv_goto (tgt := 34) hx hb dX10_ask_127 (by decide) ?_
        exact kc (V27, y24, y28, y30) (Option.some.inj h).symm H locs ls hw (lv_sub hl [4, 2, 1, 0] rfl)
      · rw [if_neg c32] at h
        refine lv_goto (tgt := 124) hx hb dX10_ask_116 (by decide) ?_
        obtain ⟨y31, ey31, h⟩ := lt_some h
        refine lv_iinc (v := y31) (lv' := [(3, .int y31), (6, .int y28), (0, .ref (G.2.2 22)), (1, .int y22), (2, .int y23), (4, .int y25), (5, .int y26)]) hx hb dX10_ask_124 hl (k := 4) rfl (by rw [ey31]; rfl) (by decide) rfl (fun ls hl => ?_)
        refine lv_goto (tgt := 34) hx hb dX10_ask_127 (by decide) ?_
        exact kc (V27, y22, y23, y31) (Option.some.inj h).symm H locs ls hw (lv_sub hl [2, 3, 4, 0] rfl)
set_option maxHeartbeats 4000000 in
set_option maxRecDepth 100000 in
theorem wX10_ask_j17 {p : Program} {l : Launch} {e : Env} {s : State} {m : MethodId} {args : Array Value} {below : List Frame} {meth : Method} {c : Code} {G : GT} {B : BGt} {Q : State → Prop} (E : En p s m args c meth cX10_ask 7 RX10 (some .int) G B) {V : VT} {t0 : Int32} {r : (Int32 × VT)} (h : fX10_ask_j17 V t0 = some r) (kr : Q = MQ below (QI G s.heap.size r.1 r.2) args s 0 0 (gA G s.heap.size)) {H : Heap} {locs : List Loc} {ls : Array Slot} (hw : HW G s.heap V H locs) (hl : lv_has ls 7 [(0, .ref (G.2.2 22))]) : W p l e (rmD 5) s m args below meth c H locs 0 0 Q (F0 m 17 ls [.int t0, .ref (G.2.2 22)]) := by
  have hx := en_x E
  have hb := en_b E
  have hB := en_B E
  unfold fX10_ask_j17 at h
  refine lv_iconst (v := (1 : Int32)) hx hb dX10_ask_17 (by decide) ?_
  obtain ⟨y6, V7, h5, h⟩ := ob_I_some h
  refine c_VI E hw (kX10_throwsIf (l := l) (G := G) hB  h5) yy_X10_throwsIf lm_RX10_233 rfl (by decide) rfl rfl hl.1 (by decide) (by decide) rfl (Nat.le_of_ble_eq_true rfl) dX10_ask_18 (fun H locs hw => ?_)
  refine lv_if_eq (tgt := 26) hx hb dX10_ask_21 (by decide) (fun c37 => ?_) (fun c37 => ?_)
  · rw [if_pos c37] at h
    refine lv_iconst (v := (-1 : Int32)) hx hb dX10_ask_26 (by decide) ?_
    refine lv_istore_n (lv' := [(1, .int (-1 : Int32)), (0, .ref (G.2.2 22))]) hx hb dX10_ask_27 rfl hl (by decide) rfl (fun ls hl => ?_)
    refine lv_ldcw (own := RX10) (v := (1000000 : Int32)) hx hb E.2.2.2.1 (en_w E kn_RX10_336 rfl) dX10_ask_28 ?_
    refine lv_istore_n (lv' := [(2, .int (1000000 : Int32)), (1, .int (-1 : Int32)), (0, .ref (G.2.2 22))]) hx hb dX10_ask_31 rfl hl (by decide) rfl (fun ls hl => ?_)
    refine lv_iconst (v := (0 : Int32)) hx hb dX10_ask_32 (by decide) ?_
    refine lv_istore_n (lv' := [(3, .int (0 : Int32)), (2, .int (1000000 : Int32)), (1, .int (-1 : Int32)), (0, .ref (G.2.2 22))]) hx hb dX10_ask_33 rfl hl (by decide) rfl (fun ls hl => ?_)
    obtain ⟨x36, h35, h⟩ := ob_R_some h
    have h := Option.some.inj h
    subst h
    exact wX10_ask_L34 E (fun q e => by subst e; exact kr) FV (V7, (-1 : Int32), (1000000 : Int32), (0 : Int32)) h35 H locs ls hw (lv_sub hl [3, 2, 1, 0] rfl)
  · rw [if_neg c37] at h
    refine lv_iconst (v := (0 : Int32)) hx hb dX10_ask_24 (by decide) ?_
    have h := Option.some.inj h
    subst h
    rw [kr]
    exact r_ri E hw dX10_ask_25
set_option maxHeartbeats 4000000 in
set_option maxRecDepth 100000 in
theorem kX10_ask {l : Launch} {G : GT} {B : BGt} (hB : BGok B) {V : VT} {r : (Int32 × VT)} (h : fX10_ask V = some r) : CI l G B yX10_ask (.code yX10_ask cX10_ask 7 (some .int)) 5 [.ref (G.2.2 22)] V r.1 r.2 := by
  intro sz
  refine met_of (Qs := fun sz => QI G sz (r.1) (r.2)) hB (by decide) (Nat.le_of_ble_eq_true rfl) ?_ sz
  intro p e s m args below meth c ls E hw hl
  have hx := en_x E
  have hb := en_b E
  generalize hQ : MQ _ _ _ _ _ _ _ = Q
  have kr : Q = MQ below (QI G s.heap.size r.1 r.2) args s 0 0 (gA G s.heap.size) := hQ.symm
  have hl : lv_has ls 7 [(0, .ref (G.2.2 22))] := hl
  obtain ⟨H, eH⟩ : ∃ H, H = s.heap := ⟨_, rfl⟩
  obtain ⟨locs, elocs⟩ : ∃ z : List Loc, z = [] := ⟨_, rfl⟩
  have hw : HW G s.heap V H locs := by rw [eH, elocs]; exact hw
  show W p l e _ s m args below meth c s.heap [] 0 0 Q (F0 m 0 ls [])
  rw [← eH, ← elocs]
  unfold fX10_ask at h
  refine lv_aload_n hx hb dX10_ask_0 rfl (lv_at hl 0 rfl) ?_
  obtain ⟨V2, h1, h⟩ := ob_R_some h
  refine c_VV E hw (kX10_uses (l := l) (G := G) hB  h1) yy_X10_uses lm_RX10_222 rfl (by decide) rfl rfl hl.1 (by decide) (by decide) rfl (Nat.le_of_ble_eq_true rfl) dX10_ask_1 (fun H locs hw => ?_)
  refine lv_aload_n hx hb dX10_ask_4 rfl (lv_at hl 0 rfl) ?_
  refine lv_aload_n hx hb dX10_ask_5 rfl (lv_at hl 0 rfl) ?_
  obtain ⟨y4, h3, h⟩ := ob_R_some h
  refine c_VI E hw (kX10_isTold (l := l) (G := G) hB  h3) yy_X10_isTold lm_RX10_413 rfl (by decide) rfl rfl hl.1 (by decide) (by decide) rfl (Nat.le_of_ble_eq_true rfl) dX10_ask_6 (fun H locs hw => ?_)
  refine lv_if_ne (tgt := 16) hx hb dX10_ask_9 (by decide) (fun c38 => ?_) (fun c38 => ?_)
  · rw [if_neg c38] at h
    refine lv_iconst (v := (0 : Int32)) hx hb dX10_ask_16 (by decide) ?_
    exact wX10_ask_j17 E h kr hw (lv_sub hl [0] rfl)
  · rw [if_pos c38] at h
    refine lv_iconst (v := (1 : Int32)) hx hb dX10_ask_12 (by decide) ?_
    refine lv_goto (tgt := 17) hx hb dX10_ask_13 (by decide) ?_
    exact wX10_ask_j17 E h kr hw (lv_sub hl [0] rfl)
