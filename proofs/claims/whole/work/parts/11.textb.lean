/-! ===== AllSawIt$StreetText.readDeed(LAllSawIt$Tape;LAllSawIt$State;)Z ===== -/
theorem dX7_readDeed_0 : decode cX7_readDeed 0 = .ok (.aload_n 1, 1) := by decide +kernel
theorem dX7_readDeed_1 : decode cX7_readDeed 1 = .ok (.aload_n 1, 1) := by decide +kernel
theorem dX7_readDeed_2 : decode cX7_readDeed 2 = .ok (.getfield 45, 3) := by decide +kernel
theorem dX7_readDeed_5 : decode cX7_readDeed 5 = .ok (.iconst 2, 1) := by decide +kernel
theorem dX7_readDeed_6 : decode cX7_readDeed 6 = .ok (.iconst (-1), 1) := by decide +kernel
theorem dX7_readDeed_7 : decode cX7_readDeed 7 = .ok (.invokevirtual 96, 3) := by decide +kernel
theorem dX7_readDeed_10 : decode cX7_readDeed 10 = .ok (.aload_n 1, 1) := by decide +kernel
theorem dX7_readDeed_11 : decode cX7_readDeed 11 = .ok (.aload_n 1, 1) := by decide +kernel
theorem dX7_readDeed_12 : decode cX7_readDeed 12 = .ok (.getfield 45, 3) := by decide +kernel
theorem dX7_readDeed_15 : decode cX7_readDeed 15 = .ok (.iconst 3, 1) := by decide +kernel
theorem dX7_readDeed_16 : decode cX7_readDeed 16 = .ok (.iconst 0, 1) := by decide +kernel
theorem dX7_readDeed_17 : decode cX7_readDeed 17 = .ok (.invokevirtual 96, 3) := by decide +kernel
theorem dX7_readDeed_20 : decode cX7_readDeed 20 = .ok (.aload_n 1, 1) := by decide +kernel
theorem dX7_readDeed_21 : decode cX7_readDeed 21 = .ok (.aload_n 1, 1) := by decide +kernel
theorem dX7_readDeed_22 : decode cX7_readDeed 22 = .ok (.getfield 45, 3) := by decide +kernel
theorem dX7_readDeed_25 : decode cX7_readDeed 25 = .ok (.iconst 4, 1) := by decide +kernel
theorem dX7_readDeed_26 : decode cX7_readDeed 26 = .ok (.iconst 0, 1) := by decide +kernel
theorem dX7_readDeed_27 : decode cX7_readDeed 27 = .ok (.invokevirtual 96, 3) := by decide +kernel
theorem dX7_readDeed_30 : decode cX7_readDeed 30 = .ok (.aload_n 0, 1) := by decide +kernel
theorem dX7_readDeed_31 : decode cX7_readDeed 31 = .ok (.aload_n 1, 1) := by decide +kernel
theorem dX7_readDeed_32 : decode cX7_readDeed 32 = .ok (.ldc 43, 2) := by decide +kernel
theorem dX7_readDeed_34 : decode cX7_readDeed 34 = .ok (.iconst 0, 1) := by decide +kernel
theorem dX7_readDeed_35 : decode cX7_readDeed 35 = .ok (.bipush 23, 2) := by decide +kernel
theorem dX7_readDeed_37 : decode cX7_readDeed 37 = .ok (.invokestatic 99, 3) := by decide +kernel
theorem dX7_readDeed_40 : decode cX7_readDeed 40 = .ok (.ifCond .eq 20, 3) := by decide +kernel
theorem dX7_readDeed_43 : decode cX7_readDeed 43 = .ok (.aload_n 0, 1) := by decide +kernel
theorem dX7_readDeed_44 : decode cX7_readDeed 44 = .ok (.aload_n 1, 1) := by decide +kernel
theorem dX7_readDeed_45 : decode cX7_readDeed 45 = .ok (.ldc 103, 2) := by decide +kernel
theorem dX7_readDeed_47 : decode cX7_readDeed 47 = .ok (.iconst 1, 1) := by decide +kernel
theorem dX7_readDeed_48 : decode cX7_readDeed 48 = .ok (.bipush 23, 2) := by decide +kernel
theorem dX7_readDeed_50 : decode cX7_readDeed 50 = .ok (.invokestatic 99, 3) := by decide +kernel
theorem dX7_readDeed_53 : decode cX7_readDeed 53 = .ok (.ifCond .eq 7, 3) := by decide +kernel
theorem dX7_readDeed_56 : decode cX7_readDeed 56 = .ok (.iconst 1, 1) := by decide +kernel
theorem dX7_readDeed_57 : decode cX7_readDeed 57 = .ok (.goto 4, 3) := by decide +kernel
theorem dX7_readDeed_60 : decode cX7_readDeed 60 = .ok (.iconst 0, 1) := by decide +kernel
theorem dX7_readDeed_61 : decode cX7_readDeed 61 = .ok (.istore_n 2, 1) := by decide +kernel
theorem dX7_readDeed_62 : decode cX7_readDeed 62 = .ok (.iload_n 2, 1) := by decide +kernel
theorem dX7_readDeed_63 : decode cX7_readDeed 63 = .ok (.ifCond .eq 27, 3) := by decide +kernel
theorem dX7_readDeed_66 : decode cX7_readDeed 66 = .ok (.aload_n 0, 1) := by decide +kernel
theorem dX7_readDeed_67 : decode cX7_readDeed 67 = .ok (.ldc 105, 2) := by decide +kernel
theorem dX7_readDeed_69 : decode cX7_readDeed 69 = .ok (.invokevirtual 30, 3) := by decide +kernel
theorem dX7_readDeed_72 : decode cX7_readDeed 72 = .ok (.ifCond .eq 18, 3) := by decide +kernel
theorem dX7_readDeed_75 : decode cX7_readDeed 75 = .ok (.aload_n 0, 1) := by decide +kernel
theorem dX7_readDeed_76 : decode cX7_readDeed 76 = .ok (.aload_n 1, 1) := by decide +kernel
theorem dX7_readDeed_77 : decode cX7_readDeed 77 = .ok (.ldc 105, 2) := by decide +kernel
theorem dX7_readDeed_79 : decode cX7_readDeed 79 = .ok (.iconst 2, 1) := by decide +kernel
theorem dX7_readDeed_80 : decode cX7_readDeed 80 = .ok (.aload_n 1, 1) := by decide +kernel
theorem dX7_readDeed_81 : decode cX7_readDeed 81 = .ok (.getfield 45, 3) := by decide +kernel
theorem dX7_readDeed_84 : decode cX7_readDeed 84 = .ok (.iconst 1, 1) := by decide +kernel
theorem dX7_readDeed_85 : decode cX7_readDeed 85 = .ok (.isub, 1) := by decide +kernel
theorem dX7_readDeed_86 : decode cX7_readDeed 86 = .ok (.invokestatic 99, 3) := by decide +kernel
theorem dX7_readDeed_89 : decode cX7_readDeed 89 = .ok (.istore_n 2, 1) := by decide +kernel
theorem dX7_readDeed_90 : decode cX7_readDeed 90 = .ok (.aload_n 1, 1) := by decide +kernel
theorem dX7_readDeed_91 : decode cX7_readDeed 91 = .ok (.dup, 1) := by decide +kernel
theorem dX7_readDeed_92 : decode cX7_readDeed 92 = .ok (.getfield 45, 3) := by decide +kernel
theorem dX7_readDeed_95 : decode cX7_readDeed 95 = .ok (.iconst 1, 1) := by decide +kernel
theorem dX7_readDeed_96 : decode cX7_readDeed 96 = .ok (.iadd, 1) := by decide +kernel
theorem dX7_readDeed_97 : decode cX7_readDeed 97 = .ok (.putfield 45, 3) := by decide +kernel
theorem dX7_readDeed_100 : decode cX7_readDeed 100 = .ok (.iload_n 2, 1) := by decide +kernel
theorem dX7_readDeed_101 : decode cX7_readDeed 101 = .ok (.ireturn, 1) := by decide +kernel
noncomputable def fX7_readDeed_j61 (V : VT) (i : Nat) (t0 : Int32) : Option (Int32 × VT) := if t0 = 0 then (lt_ (va_up V i (upd (V i) 4 ((V i 4) + (1 : Int32)))) fun V10 => zo_ t0 (some (t0, V10))) else (ob_R (fX8_isWord V 41) fun y13 => if y13 = 0 then (lt_ (va_up V i (upd (V i) 4 ((V i 4) + (1 : Int32)))) fun V14 => zo_ t0 (some (t0, V14))) else (ob_I (fX7_deedNumber V i 41 (2 : Int32) ((V i 4) - (1 : Int32))) fun y17 V18 => lt_ (va_up V18 i (upd (V18 i) 4 ((V18 i 4) + (1 : Int32)))) fun V19 => zo_ y17 (some (y17, V19))))
noncomputable def fX7_readDeed_j60 (V : VT) (i : Nat) : Option (Int32 × VT) := fX7_readDeed_j61 V i (0 : Int32)
noncomputable def fX7_readDeed (V : VT) (i : Nat) : Option (Int32 × VT) := ob_R (fX6_setDeed V i (V i 4) (2 : Int32) (-1 : Int32)) fun V2 => ob_R (fX6_setDeed V2 i (V2 i 4) (3 : Int32) (0 : Int32)) fun V4 => ob_R (fX6_setDeed V4 i (V4 i 4) (4 : Int32) (0 : Int32)) fun V6 => ob_I (fX7_deedNumber V6 i 32 (0 : Int32) (23 : Int32)) fun y8 V9 => if y8 = 0 then (fX7_readDeed_j60 V9 i) else (ob_I (fX7_deedNumber V9 i 40 (1 : Int32) (23 : Int32)) fun y24 V25 => if y24 = 0 then (fX7_readDeed_j60 V25 i) else (fX7_readDeed_j61 V25 i (1 : Int32)))
set_option maxHeartbeats 4000000 in
set_option maxRecDepth 100000 in
theorem wX7_readDeed_j61 {p : Program} {l : Launch} {e : Env} {s : State} {m : MethodId} {args : Array Value} {below : List Frame} {meth : Method} {c : Code} {G : GT} {Z : Nat → Nat × Nat} {Q : State → Prop} (E : En p s m args c meth cX7_readDeed 3 RX7 (some .boolean) G (SG Z)) {i : Nat} (hs_i : isSt i) {V : VT} {t0 : Int32} {r : (Int32 × VT)} (h : fX7_readDeed_j61 V i t0 = some r) (kr : Q = MQ below (QI G s.heap.size r.1 r.2) args s 0 0 (gA G s.heap.size)) {H : Heap} {locs : List Loc} {ls : Array Slot} (hw : HW G s.heap V H locs) (hl : lv_has ls 3 [(0, .ref (G.2.2 1)), (1, .ref (G.2.2 i))]) : W p l e (rmD 8) s m args below meth c H locs 0 0 Q (F0 m 61 ls [.int t0]) := by
  have hx := en_x E
  have hb := en_b E
  have hB := en_B E
  unfold fX7_readDeed_j61 at h
  refine lv_istore_n (lv' := [(2, .int t0), (0, .ref (G.2.2 1)), (1, .ref (G.2.2 i))]) hx hb dX7_readDeed_61 rfl hl (by decide) rfl (fun ls hl => ?_)
  refine lv_iload_n hx hb dX7_readDeed_62 rfl (lv_at hl 0 rfl) ?_
  refine lv_if_eq (tgt := 90) hx hb dX7_readDeed_63 (by decide) (fun c22 => ?_) (fun c22 => ?_)
  · rw [if_pos c22] at h
    refine lv_aload_n hx hb dX7_readDeed_90 rfl (lv_at hl 2 rfl) ?_
    refine lv_dup hx hb dX7_readDeed_91 rfl ?_
    refine r_giN E hw i 4 (N := 13) (C := RX6) (T := TX6) (st_lt hs_i) (st_c hs_i) (st_N hs_i) (by decide) (st_n hs_i (k := 4) (by decide)) iw_6 rfl lf_RX7_45 dX7_readDeed_92 ?_
    refine lv_iconst (v := (1 : Int32)) hx hb dX7_readDeed_95 (by decide) ?_
    refine lv_iadd hx hb dX7_readDeed_96 ?_
    obtain ⟨V10, eV10, h⟩ := lt_some h
    refine r_piN E hw i 4 (N := 13) (C := RX6) (T := TX6) (ty0 := tyX6) (ty := .int) (st_lt hs_i) (st_c hs_i) (st_N hs_i) (by decide) (st_n hs_i (k := 4) (by decide)) iw_6 rfl tyX6_ok nmX6 rfl rfl (vp_nar_int _) rfl lf_RX7_45 eV10 dX7_readDeed_97 (fun H locs hw => ?_)
    refine lv_iload_n hx hb dX7_readDeed_100 rfl (lv_at hl 0 rfl) ?_
    obtain ⟨z11, h⟩ := zo_some h
    have h := Option.some.inj h
    subst h
    rw [kr]
    exact r_rz E hw z11 dX7_readDeed_101
  · rw [if_neg c22] at h
    refine lv_aload_n hx hb dX7_readDeed_66 rfl (lv_at hl 1 rfl) ?_
    refine r_ls (w := 41) E (by decide) rfl rfl dX7_readDeed_67 ?_
    obtain ⟨y13, h12, h⟩ := ob_R_some h
    refine c_VI E hw (kX8_isWord (l := l) (G := G) (Z := Z) (by decide) h12) yy_X8_isWord lm_RX7_30 rfl (by decide) rfl rfl hl.1 (by decide) (by decide) rfl (Nat.le_of_ble_eq_true rfl) dX7_readDeed_69 (fun H locs hw => ?_)
    refine lv_if_eq (tgt := 90) hx hb dX7_readDeed_72 (by decide) (fun c21 => ?_) (fun c21 => ?_)
    · rw [if_pos c21] at h
      refine lv_aload_n hx hb dX7_readDeed_90 rfl (lv_at hl 2 rfl) ?_
      refine lv_dup hx hb dX7_readDeed_91 rfl ?_
      refine r_giN E hw i 4 (N := 13) (C := RX6) (T := TX6) (st_lt hs_i) (st_c hs_i) (st_N hs_i) (by decide) (st_n hs_i (k := 4) (by decide)) iw_6 rfl lf_RX7_45 dX7_readDeed_92 ?_
      refine lv_iconst (v := (1 : Int32)) hx hb dX7_readDeed_95 (by decide) ?_
      refine lv_iadd hx hb dX7_readDeed_96 ?_
      obtain ⟨V14, eV14, h⟩ := lt_some h
      refine r_piN E hw i 4 (N := 13) (C := RX6) (T := TX6) (ty0 := tyX6) (ty := .int) (st_lt hs_i) (st_c hs_i) (st_N hs_i) (by decide) (st_n hs_i (k := 4) (by decide)) iw_6 rfl tyX6_ok nmX6 rfl rfl (vp_nar_int _) rfl lf_RX7_45 eV14 dX7_readDeed_97 (fun H locs hw => ?_)
      refine lv_iload_n hx hb dX7_readDeed_100 rfl (lv_at hl 0 rfl) ?_
      obtain ⟨z15, h⟩ := zo_some h
      have h := Option.some.inj h
      subst h
      rw [kr]
      exact r_rz E hw z15 dX7_readDeed_101
    · rw [if_neg c21] at h
      refine lv_aload_n hx hb dX7_readDeed_75 rfl (lv_at hl 1 rfl) ?_
      refine lv_aload_n hx hb dX7_readDeed_76 rfl (lv_at hl 2 rfl) ?_
      refine r_ls (w := 41) E (by decide) rfl rfl dX7_readDeed_77 ?_
      refine lv_iconst (v := (2 : Int32)) hx hb dX7_readDeed_79 (by decide) ?_
      refine lv_aload_n hx hb dX7_readDeed_80 rfl (lv_at hl 2 rfl) ?_
      refine r_giN E hw i 4 (N := 13) (C := RX6) (T := TX6) (st_lt hs_i) (st_c hs_i) (st_N hs_i) (by decide) (st_n hs_i (k := 4) (by decide)) iw_6 rfl lf_RX7_45 dX7_readDeed_81 ?_
      refine lv_iconst (v := (1 : Int32)) hx hb dX7_readDeed_84 (by decide) ?_
      refine lv_isub hx hb dX7_readDeed_85 ?_
      obtain ⟨y17, V18, h16, h⟩ := ob_I_some h
      refine c_SI E hw (kX7_deedNumber (l := l) (G := G) (Z := Z) hs_i (by decide) h16) yy_X7_deedNumber lm_RX7_99 rfl hl.1 (by decide) (by decide) rfl (Nat.le_of_ble_eq_true rfl) dX7_readDeed_86 (fun H locs hw => ?_)
      refine lv_istore_n (lv' := [(2, .int y17), (0, .ref (G.2.2 1)), (1, .ref (G.2.2 i))]) hx hb dX7_readDeed_89 rfl hl (by decide) rfl (fun ls hl => ?_)
      refine lv_aload_n hx hb dX7_readDeed_90 rfl (lv_at hl 2 rfl) ?_
      refine lv_dup hx hb dX7_readDeed_91 rfl ?_
      refine r_giN E hw i 4 (N := 13) (C := RX6) (T := TX6) (st_lt hs_i) (st_c hs_i) (st_N hs_i) (by decide) (st_n hs_i (k := 4) (by decide)) iw_6 rfl lf_RX7_45 dX7_readDeed_92 ?_
      refine lv_iconst (v := (1 : Int32)) hx hb dX7_readDeed_95 (by decide) ?_
      refine lv_iadd hx hb dX7_readDeed_96 ?_
      obtain ⟨V19, eV19, h⟩ := lt_some h
      refine r_piN E hw i 4 (N := 13) (C := RX6) (T := TX6) (ty0 := tyX6) (ty := .int) (st_lt hs_i) (st_c hs_i) (st_N hs_i) (by decide) (st_n hs_i (k := 4) (by decide)) iw_6 rfl tyX6_ok nmX6 rfl rfl (vp_nar_int _) rfl lf_RX7_45 eV19 dX7_readDeed_97 (fun H locs hw => ?_)
      refine lv_iload_n hx hb dX7_readDeed_100 rfl (lv_at hl 0 rfl) ?_
      obtain ⟨z20, h⟩ := zo_some h
      have h := Option.some.inj h
      subst h
      rw [kr]
      exact r_rz E hw z20 dX7_readDeed_101
set_option maxHeartbeats 4000000 in
set_option maxRecDepth 100000 in
theorem wX7_readDeed_j60 {p : Program} {l : Launch} {e : Env} {s : State} {m : MethodId} {args : Array Value} {below : List Frame} {meth : Method} {c : Code} {G : GT} {Z : Nat → Nat × Nat} {Q : State → Prop} (E : En p s m args c meth cX7_readDeed 3 RX7 (some .boolean) G (SG Z)) {i : Nat} (hs_i : isSt i) {V : VT} {r : (Int32 × VT)} (h : fX7_readDeed_j60 V i = some r) (kr : Q = MQ below (QI G s.heap.size r.1 r.2) args s 0 0 (gA G s.heap.size)) {H : Heap} {locs : List Loc} {ls : Array Slot} (hw : HW G s.heap V H locs) (hl : lv_has ls 3 [(0, .ref (G.2.2 1)), (1, .ref (G.2.2 i))]) : W p l e (rmD 8) s m args below meth c H locs 0 0 Q (F0 m 60 ls []) := by
  have hx := en_x E
  have hb := en_b E
  have hB := en_B E
  unfold fX7_readDeed_j60 at h
  refine lv_iconst (v := (0 : Int32)) hx hb dX7_readDeed_60 (by decide) ?_
  exact wX7_readDeed_j61 E hs_i h kr hw (lv_sub hl [0, 1] rfl)
set_option maxHeartbeats 4000000 in
set_option maxRecDepth 100000 in
theorem kX7_readDeed {l : Launch} {G : GT} {Z : Nat → Nat × Nat} {V : VT} {i : Nat} (hs_i : isSt i) {r : (Int32 × VT)} (h : fX7_readDeed V i = some r) : CI l G (SG Z) yX7_readDeed (.code yX7_readDeed cX7_readDeed 3 (some .boolean)) 8 [.ref (G.2.2 1), .ref (G.2.2 i)] V r.1 r.2 := by
  intro sz
  refine met_of (Qs := fun sz => QI G sz (r.1) (r.2)) (SG_ok Z) (by decide) (Nat.le_of_ble_eq_true rfl) ?_ sz
  intro p e s m args below meth c ls E hw hl
  have hx := en_x E
  have hb := en_b E
  have hB := en_B E
  generalize hQ : MQ _ _ _ _ _ _ _ = Q
  have kr : Q = MQ below (QI G s.heap.size r.1 r.2) args s 0 0 (gA G s.heap.size) := hQ.symm
  have hl : lv_has ls 3 [(0, .ref (G.2.2 1)), (1, .ref (G.2.2 i))] := hl
  obtain ⟨H, eH⟩ : ∃ H, H = s.heap := ⟨_, rfl⟩
  obtain ⟨locs, elocs⟩ : ∃ z : List Loc, z = [] := ⟨_, rfl⟩
  have hw : HW G s.heap V H locs := by rw [eH, elocs]; exact hw
  show W p l e _ s m args below meth c s.heap [] 0 0 Q (F0 m 0 ls [])
  rw [← eH, ← elocs]
  unfold fX7_readDeed at h
  refine lv_aload_n hx hb dX7_readDeed_0 rfl (lv_at hl 1 rfl) ?_
  refine lv_aload_n hx hb dX7_readDeed_1 rfl (lv_at hl 1 rfl) ?_
  refine r_giN E hw i 4 (N := 13) (C := RX6) (T := TX6) (st_lt hs_i) (st_c hs_i) (st_N hs_i) (by decide) (st_n hs_i (k := 4) (by decide)) iw_6 rfl lf_RX7_45 dX7_readDeed_2 ?_
  refine lv_iconst (v := (2 : Int32)) hx hb dX7_readDeed_5 (by decide) ?_
  refine lv_iconst (v := (-1 : Int32)) hx hb dX7_readDeed_6 (by decide) ?_
  obtain ⟨V2, h1, h⟩ := ob_R_some h
  refine c_VV E hw (kX6_setDeed (l := l) (G := G) hB hs_i h1) yy_X6_setDeed lm_RX7_96 rfl (st_lt hs_i) (st_c hs_i) rfl hl.1 (by decide) (by decide) rfl (Nat.le_of_ble_eq_true rfl) dX7_readDeed_7 (fun H locs hw => ?_)
  refine lv_aload_n hx hb dX7_readDeed_10 rfl (lv_at hl 1 rfl) ?_
  refine lv_aload_n hx hb dX7_readDeed_11 rfl (lv_at hl 1 rfl) ?_
  refine r_giN E hw i 4 (N := 13) (C := RX6) (T := TX6) (st_lt hs_i) (st_c hs_i) (st_N hs_i) (by decide) (st_n hs_i (k := 4) (by decide)) iw_6 rfl lf_RX7_45 dX7_readDeed_12 ?_
  refine lv_iconst (v := (3 : Int32)) hx hb dX7_readDeed_15 (by decide) ?_
  refine lv_iconst (v := (0 : Int32)) hx hb dX7_readDeed_16 (by decide) ?_
  obtain ⟨V4, h3, h⟩ := ob_R_some h
  refine c_VV E hw (kX6_setDeed (l := l) (G := G) hB hs_i h3) yy_X6_setDeed lm_RX7_96 rfl (st_lt hs_i) (st_c hs_i) rfl hl.1 (by decide) (by decide) rfl (Nat.le_of_ble_eq_true rfl) dX7_readDeed_17 (fun H locs hw => ?_)
  refine lv_aload_n hx hb dX7_readDeed_20 rfl (lv_at hl 1 rfl) ?_
  refine lv_aload_n hx hb dX7_readDeed_21 rfl (lv_at hl 1 rfl) ?_
  refine r_giN E hw i 4 (N := 13) (C := RX6) (T := TX6) (st_lt hs_i) (st_c hs_i) (st_N hs_i) (by decide) (st_n hs_i (k := 4) (by decide)) iw_6 rfl lf_RX7_45 dX7_readDeed_22 ?_
  refine lv_iconst (v := (4 : Int32)) hx hb dX7_readDeed_25 (by decide) ?_
  refine lv_iconst (v := (0 : Int32)) hx hb dX7_readDeed_26 (by decide) ?_
  obtain ⟨V6, h5, h⟩ := ob_R_some h
  refine c_VV E hw (kX6_setDeed (l := l) (G := G) hB hs_i h5) yy_X6_setDeed lm_RX7_96 rfl (st_lt hs_i) (st_c hs_i) rfl hl.1 (by decide) (by decide) rfl (Nat.le_of_ble_eq_true rfl) dX7_readDeed_27 (fun H locs hw => ?_)
  refine lv_aload_n hx hb dX7_readDeed_30 rfl (lv_at hl 0 rfl) ?_
  refine lv_aload_n hx hb dX7_readDeed_31 rfl (lv_at hl 1 rfl) ?_
  refine r_ls (w := 32) E (by decide) rfl rfl dX7_readDeed_32 ?_
  refine lv_iconst (v := (0 : Int32)) hx hb dX7_readDeed_34 (by decide) ?_
  refine lv_bipush (v := (23 : Int32)) hx hb dX7_readDeed_35 (by decide) ?_
  obtain ⟨y8, V9, h7, h⟩ := ob_I_some h
  refine c_SI E hw (kX7_deedNumber (l := l) (G := G) (Z := Z) hs_i (by decide) h7) yy_X7_deedNumber lm_RX7_99 rfl hl.1 (by decide) (by decide) rfl (Nat.le_of_ble_eq_true rfl) dX7_readDeed_37 (fun H locs hw => ?_)
  refine lv_if_eq (tgt := 60) hx hb dX7_readDeed_40 (by decide) (fun c27 => ?_) (fun c27 => ?_)
  · rw [if_pos c27] at h
    exact wX7_readDeed_j60 E hs_i h kr hw (lv_sub hl [0, 1] rfl)
  · rw [if_neg c27] at h
    refine lv_aload_n hx hb dX7_readDeed_43 rfl (lv_at hl 0 rfl) ?_
    refine lv_aload_n hx hb dX7_readDeed_44 rfl (lv_at hl 1 rfl) ?_
    refine r_ls (w := 40) E (by decide) rfl rfl dX7_readDeed_45 ?_
    refine lv_iconst (v := (1 : Int32)) hx hb dX7_readDeed_47 (by decide) ?_
    refine lv_bipush (v := (23 : Int32)) hx hb dX7_readDeed_48 (by decide) ?_
    obtain ⟨y24, V25, h23, h⟩ := ob_I_some h
    refine c_SI E hw (kX7_deedNumber (l := l) (G := G) (Z := Z) hs_i (by decide) h23) yy_X7_deedNumber lm_RX7_99 rfl hl.1 (by decide) (by decide) rfl (Nat.le_of_ble_eq_true rfl) dX7_readDeed_50 (fun H locs hw => ?_)
    refine lv_if_eq (tgt := 60) hx hb dX7_readDeed_53 (by decide) (fun c26 => ?_) (fun c26 => ?_)
    · rw [if_pos c26] at h
      exact wX7_readDeed_j60 E hs_i h kr hw (lv_sub hl [0, 1] rfl)
    · rw [if_neg c26] at h
      refine lv_iconst (v := (1 : Int32)) hx hb dX7_readDeed_56 (by decide) ?_
      refine lv_goto (tgt := 61) hx hb dX7_readDeed_57 (by decide) ?_
      exact wX7_readDeed_j61 E hs_i h kr hw (lv_sub hl [0, 1] rfl)
/-! ===== AllSawIt$LawText.readComparison(LAllSawIt$Tape;LAllSawIt$Law;)Z ===== -/
theorem dX4_readComparison_0 : decode cX4_readComparison 0 = .ok (.aload_n 0, 1) := by decide +kernel
theorem dX4_readComparison_1 : decode cX4_readComparison 1 = .ok (.aload_n 1, 1) := by decide +kernel
theorem dX4_readComparison_2 : decode cX4_readComparison 2 = .ok (.invokestatic 83, 3) := by decide +kernel
theorem dX4_readComparison_5 : decode cX4_readComparison 5 = .ok (.ifCond .ne 5, 3) := by decide +kernel
theorem dX4_readComparison_8 : decode cX4_readComparison 8 = .ok (.iconst 0, 1) := by decide +kernel
theorem dX4_readComparison_9 : decode cX4_readComparison 9 = .ok (.ireturn, 1) := by decide +kernel
theorem dX4_readComparison_10 : decode cX4_readComparison 10 = .ok (.aload_n 0, 1) := by decide +kernel
theorem dX4_readComparison_11 : decode cX4_readComparison 11 = .ok (.bipush 60, 2) := by decide +kernel
theorem dX4_readComparison_13 : decode cX4_readComparison 13 = .ok (.invokevirtual 66, 3) := by decide +kernel
theorem dX4_readComparison_16 : decode cX4_readComparison 16 = .ok (.istore_n 2, 1) := by decide +kernel
theorem dX4_readComparison_17 : decode cX4_readComparison 17 = .ok (.iload_n 2, 1) := by decide +kernel
theorem dX4_readComparison_18 : decode cX4_readComparison 18 = .ok (.ifCond .ne 14, 3) := by decide +kernel
theorem dX4_readComparison_21 : decode cX4_readComparison 21 = .ok (.aload_n 0, 1) := by decide +kernel
theorem dX4_readComparison_22 : decode cX4_readComparison 22 = .ok (.bipush 62, 2) := by decide +kernel
theorem dX4_readComparison_24 : decode cX4_readComparison 24 = .ok (.invokevirtual 66, 3) := by decide +kernel
theorem dX4_readComparison_27 : decode cX4_readComparison 27 = .ok (.ifCond .ne 5, 3) := by decide +kernel
theorem dX4_readComparison_30 : decode cX4_readComparison 30 = .ok (.iconst 0, 1) := by decide +kernel
theorem dX4_readComparison_31 : decode cX4_readComparison 31 = .ok (.ireturn, 1) := by decide +kernel
theorem dX4_readComparison_32 : decode cX4_readComparison 32 = .ok (.aload_n 0, 1) := by decide +kernel
theorem dX4_readComparison_33 : decode cX4_readComparison 33 = .ok (.invokevirtual 33, 3) := by decide +kernel
theorem dX4_readComparison_36 : decode cX4_readComparison 36 = .ok (.aload_n 1, 1) := by decide +kernel
theorem dX4_readComparison_37 : decode cX4_readComparison 37 = .ok (.bipush 7, 2) := by decide +kernel
theorem dX4_readComparison_39 : decode cX4_readComparison 39 = .ok (.invokevirtual 41, 3) := by decide +kernel
theorem dX4_readComparison_42 : decode cX4_readComparison 42 = .ok (.aload_n 0, 1) := by decide +kernel
theorem dX4_readComparison_43 : decode cX4_readComparison 43 = .ok (.aload_n 1, 1) := by decide +kernel
theorem dX4_readComparison_44 : decode cX4_readComparison 44 = .ok (.invokestatic 83, 3) := by decide +kernel
theorem dX4_readComparison_47 : decode cX4_readComparison 47 = .ok (.ifCond .ne 5, 3) := by decide +kernel
theorem dX4_readComparison_50 : decode cX4_readComparison 50 = .ok (.iconst 0, 1) := by decide +kernel
theorem dX4_readComparison_51 : decode cX4_readComparison 51 = .ok (.ireturn, 1) := by decide +kernel
theorem dX4_readComparison_52 : decode cX4_readComparison 52 = .ok (.aload_n 1, 1) := by decide +kernel
theorem dX4_readComparison_53 : decode cX4_readComparison 53 = .ok (.iload_n 2, 1) := by decide +kernel
theorem dX4_readComparison_54 : decode cX4_readComparison 54 = .ok (.ifCond .eq 8, 3) := by decide +kernel
theorem dX4_readComparison_57 : decode cX4_readComparison 57 = .ok (.bipush 8, 2) := by decide +kernel
theorem dX4_readComparison_59 : decode cX4_readComparison 59 = .ok (.goto 5, 3) := by decide +kernel
theorem dX4_readComparison_62 : decode cX4_readComparison 62 = .ok (.bipush 9, 2) := by decide +kernel
theorem dX4_readComparison_64 : decode cX4_readComparison 64 = .ok (.invokevirtual 41, 3) := by decide +kernel
theorem dX4_readComparison_67 : decode cX4_readComparison 67 = .ok (.iconst 1, 1) := by decide +kernel
theorem dX4_readComparison_68 : decode cX4_readComparison 68 = .ok (.ireturn, 1) := by decide +kernel
noncomputable def fX4_readComparison_j32 (V : VT) (u2 : Int32) : Option (Int32 × VT) := ob_R (fX8_step V ) fun V7 => ob_R (fX3_put V7 (7 : Int32)) fun V9 => ob_I (fX4_readSum V9 ) fun y11 V12 => if y11 = 0 then (zo_ (0 : Int32) (some ((0 : Int32), V12))) else (if u2 = 0 then (ob_R (fX3_put V12 (9 : Int32)) fun V14 => zo_ (1 : Int32) (some ((1 : Int32), V14))) else (ob_R (fX3_put V12 (8 : Int32)) fun V17 => zo_ (1 : Int32) (some ((1 : Int32), V17))))
noncomputable def fX4_readComparison (V : VT) : Option (Int32 × VT) := ob_I (fX4_readSum V ) fun y2 V3 => if y2 = 0 then (zo_ (0 : Int32) (some ((0 : Int32), V3))) else (ob_R (fX8_isSign V3 (60 : Int32)) fun y5 => if y5 = 0 then (ob_R (fX8_isSign V3 (62 : Int32)) fun y23 => if y23 = 0 then (zo_ (0 : Int32) (some ((0 : Int32), V3))) else (fX4_readComparison_j32 V3 y5)) else (fX4_readComparison_j32 V3 y5))
set_option maxHeartbeats 4000000 in
set_option maxRecDepth 100000 in
theorem wX4_readComparison_j32 {p : Program} {l : Launch} {e : Env} {s : State} {m : MethodId} {args : Array Value} {below : List Frame} {meth : Method} {c : Code} {G : GT} {Z : Nat → Nat × Nat} {Q : State → Prop} (E : En p s m args c meth cX4_readComparison 3 RX4 (some .boolean) G (SG Z)) {V : VT} {u2 : Int32} {r : (Int32 × VT)} (h : fX4_readComparison_j32 V u2 = some r) (kr : Q = MQ below (QI G s.heap.size r.1 r.2) args s 0 0 (gA G s.heap.size)) {H : Heap} {locs : List Loc} {ls : Array Slot} (hw : HW G s.heap V H locs) (hl : lv_has ls 3 [(0, .ref (G.2.2 1)), (1, .ref (G.2.2 18)), (2, .int u2)]) : W p l e (rmD 8) s m args below meth c H locs 0 0 Q (F0 m 32 ls []) := by
  have hx := en_x E
  have hb := en_b E
  have hB := en_B E
  unfold fX4_readComparison_j32 at h
  refine lv_aload_n hx hb dX4_readComparison_32 rfl (lv_at hl 0 rfl) ?_
  obtain ⟨V7, h6, h⟩ := ob_R_some h
  refine c_VV E hw (kX8_step (l := l) (G := G) hB  h6) yy_X8_step lm_RX4_33 rfl (by decide) rfl rfl hl.1 (by decide) (by decide) rfl (Nat.le_of_ble_eq_true rfl) dX4_readComparison_33 (fun H locs hw => ?_)
  refine lv_aload_n hx hb dX4_readComparison_36 rfl (lv_at hl 1 rfl) ?_
  refine lv_bipush (v := (7 : Int32)) hx hb dX4_readComparison_37 (by decide) ?_
  obtain ⟨V9, h8, h⟩ := ob_R_some h
  refine c_VV E hw (kX3_put (l := l) (G := G) hB  h8) yy_X3_put lm_RX4_41 rfl (by decide) rfl rfl hl.1 (by decide) (by decide) rfl (Nat.le_of_ble_eq_true rfl) dX4_readComparison_39 (fun H locs hw => ?_)
  refine lv_aload_n hx hb dX4_readComparison_42 rfl (lv_at hl 0 rfl) ?_
  refine lv_aload_n hx hb dX4_readComparison_43 rfl (lv_at hl 1 rfl) ?_
  obtain ⟨y11, V12, h10, h⟩ := ob_I_some h
  refine c_SI E hw (kX4_readSum (l := l) (G := G) (Z := Z)  h10) yy_X4_readSum lm_RX4_83 rfl hl.1 (by decide) (by decide) rfl (Nat.le_of_ble_eq_true rfl) dX4_readComparison_44 (fun H locs hw => ?_)
  refine lv_if_ne (tgt := 52) hx hb dX4_readComparison_47 (by decide) (fun c21 => ?_) (fun c21 => ?_)
  · rw [if_neg c21] at h
    refine lv_aload_n hx hb dX4_readComparison_52 rfl (lv_at hl 1 rfl) ?_
    refine lv_iload_n hx hb dX4_readComparison_53 rfl (lv_at hl 2 rfl) ?_
    refine lv_if_eq (tgt := 62) hx hb dX4_readComparison_54 (by decide) (fun c19 => ?_) (fun c19 => ?_)
    · rw [if_pos c19] at h
      refine lv_bipush (v := (9 : Int32)) hx hb dX4_readComparison_62 (by decide) ?_
      obtain ⟨V14, h13, h⟩ := ob_R_some h
      refine c_VV E hw (kX3_put (l := l) (G := G) hB  h13) yy_X3_put lm_RX4_41 rfl (by decide) rfl rfl hl.1 (by decide) (by decide) rfl (Nat.le_of_ble_eq_true rfl) dX4_readComparison_64 (fun H locs hw => ?_)
      refine lv_iconst (v := (1 : Int32)) hx hb dX4_readComparison_67 (by decide) ?_
      obtain ⟨z15, h⟩ := zo_some h
      have h := Option.some.inj h
      subst h
      rw [kr]
      exact r_rz E hw z15 dX4_readComparison_68
    · rw [if_neg c19] at h
      refine lv_bipush (v := (8 : Int32)) hx hb dX4_readComparison_57 (by decide) ?_
      refine lv_goto (tgt := 64) hx hb dX4_readComparison_59 (by decide) ?_
      obtain ⟨V17, h16, h⟩ := ob_R_some h
      refine c_VV E hw (kX3_put (l := l) (G := G) hB  h16) yy_X3_put lm_RX4_41 rfl (by decide) rfl rfl hl.1 (by decide) (by decide) rfl (Nat.le_of_ble_eq_true rfl) dX4_readComparison_64 (fun H locs hw => ?_)
      refine lv_iconst (v := (1 : Int32)) hx hb dX4_readComparison_67 (by decide) ?_
      obtain ⟨z18, h⟩ := zo_some h
      have h := Option.some.inj h
      subst h
      rw [kr]
      exact r_rz E hw z18 dX4_readComparison_68
  · rw [if_pos c21] at h
    refine lv_iconst (v := (0 : Int32)) hx hb dX4_readComparison_50 (by decide) ?_
    obtain ⟨z20, h⟩ := zo_some h
    have h := Option.some.inj h
    subst h
    rw [kr]
    exact r_rz E hw z20 dX4_readComparison_51
set_option maxHeartbeats 4000000 in
set_option maxRecDepth 100000 in
theorem kX4_readComparison {l : Launch} {G : GT} {Z : Nat → Nat × Nat} {V : VT} {r : (Int32 × VT)} (h : fX4_readComparison V = some r) : CI l G (SG Z) yX4_readComparison (.code yX4_readComparison cX4_readComparison 3 (some .boolean)) 8 [.ref (G.2.2 1), .ref (G.2.2 18)] V r.1 r.2 := by
  intro sz
  refine met_of (Qs := fun sz => QI G sz (r.1) (r.2)) (SG_ok Z) (by decide) (Nat.le_of_ble_eq_true rfl) ?_ sz
  intro p e s m args below meth c ls E hw hl
  have hx := en_x E
  have hb := en_b E
  have hB := en_B E
  generalize hQ : MQ _ _ _ _ _ _ _ = Q
  have kr : Q = MQ below (QI G s.heap.size r.1 r.2) args s 0 0 (gA G s.heap.size) := hQ.symm
  have hl : lv_has ls 3 [(0, .ref (G.2.2 1)), (1, .ref (G.2.2 18))] := hl
  obtain ⟨H, eH⟩ : ∃ H, H = s.heap := ⟨_, rfl⟩
  obtain ⟨locs, elocs⟩ : ∃ z : List Loc, z = [] := ⟨_, rfl⟩
  have hw : HW G s.heap V H locs := by rw [eH, elocs]; exact hw
  show W p l e _ s m args below meth c s.heap [] 0 0 Q (F0 m 0 ls [])
  rw [← eH, ← elocs]
  unfold fX4_readComparison at h
  refine lv_aload_n hx hb dX4_readComparison_0 rfl (lv_at hl 0 rfl) ?_
  refine lv_aload_n hx hb dX4_readComparison_1 rfl (lv_at hl 1 rfl) ?_
  obtain ⟨y2, V3, h1, h⟩ := ob_I_some h
  refine c_SI E hw (kX4_readSum (l := l) (G := G) (Z := Z)  h1) yy_X4_readSum lm_RX4_83 rfl hl.1 (by decide) (by decide) rfl (Nat.le_of_ble_eq_true rfl) dX4_readComparison_2 (fun H locs hw => ?_)
  refine lv_if_ne (tgt := 10) hx hb dX4_readComparison_5 (by decide) (fun c28 => ?_) (fun c28 => ?_)
  · rw [if_neg c28] at h
    refine lv_aload_n hx hb dX4_readComparison_10 rfl (lv_at hl 0 rfl) ?_
    refine lv_bipush (v := (60 : Int32)) hx hb dX4_readComparison_11 (by decide) ?_
    obtain ⟨y5, h4, h⟩ := ob_R_some h
    refine c_VI E hw (kX8_isSign (l := l) (G := G) hB  h4) yy_X8_isSign lm_RX4_66 rfl (by decide) rfl rfl hl.1 (by decide) (by decide) rfl (Nat.le_of_ble_eq_true rfl) dX4_readComparison_13 (fun H locs hw => ?_)
    refine lv_istore_n (lv' := [(2, .int y5), (0, .ref (G.2.2 1)), (1, .ref (G.2.2 18))]) hx hb dX4_readComparison_16 rfl hl (by decide) rfl (fun ls hl => ?_)
    refine lv_iload_n hx hb dX4_readComparison_17 rfl (lv_at hl 0 rfl) ?_
    refine lv_if_ne (tgt := 32) hx hb dX4_readComparison_18 (by decide) (fun c26 => ?_) (fun c26 => ?_)
    · rw [if_neg c26] at h
      exact wX4_readComparison_j32 E h kr hw (lv_sub hl [1, 2, 0] rfl)
    · rw [if_pos c26] at h
      refine lv_aload_n hx hb dX4_readComparison_21 rfl (lv_at hl 1 rfl) ?_
      refine lv_bipush (v := (62 : Int32)) hx hb dX4_readComparison_22 (by decide) ?_
      obtain ⟨y23, h22, h⟩ := ob_R_some h
      refine c_VI E hw (kX8_isSign (l := l) (G := G) hB  h22) yy_X8_isSign lm_RX4_66 rfl (by decide) rfl rfl hl.1 (by decide) (by decide) rfl (Nat.le_of_ble_eq_true rfl) dX4_readComparison_24 (fun H locs hw => ?_)
      refine lv_if_ne (tgt := 32) hx hb dX4_readComparison_27 (by decide) (fun c25 => ?_) (fun c25 => ?_)
      · rw [if_neg c25] at h
        exact wX4_readComparison_j32 E h kr hw (lv_sub hl [1, 2, 0] rfl)
      · rw [if_pos c25] at h
        refine lv_iconst (v := (0 : Int32)) hx hb dX4_readComparison_30 (by decide) ?_
        obtain ⟨z24, h⟩ := zo_some h
        have h := Option.some.inj h
        subst h
        rw [kr]
        exact r_rz E hw z24 dX4_readComparison_31
  · rw [if_pos c28] at h
    refine lv_iconst (v := (0 : Int32)) hx hb dX4_readComparison_8 (by decide) ?_
    obtain ⟨z27, h⟩ := zo_some h
    have h := Option.some.inj h
    subst h
    rw [kr]
    exact r_rz E hw z27 dX4_readComparison_9
/-! ===== AllSawIt$StreetText.readLine(LAllSawIt$Tape;LAllSawIt$State;)Z ===== -/
theorem dX7_readLine_0 : decode cX7_readLine 0 = .ok (.aload_n 0, 1) := by decide +kernel
theorem dX7_readLine_1 : decode cX7_readLine 1 = .ok (.ldc 28, 2) := by decide +kernel
theorem dX7_readLine_3 : decode cX7_readLine 3 = .ok (.invokevirtual 30, 3) := by decide +kernel
theorem dX7_readLine_6 : decode cX7_readLine 6 = .ok (.ifCond .eq 26, 3) := by decide +kernel
theorem dX7_readLine_9 : decode cX7_readLine 9 = .ok (.aload_n 1, 1) := by decide +kernel
theorem dX7_readLine_10 : decode cX7_readLine 10 = .ok (.getfield 34, 3) := by decide +kernel
theorem dX7_readLine_13 : decode cX7_readLine 13 = .ok (.bipush 8, 2) := by decide +kernel
theorem dX7_readLine_15 : decode cX7_readLine 15 = .ok (.if_icmp .ge 15, 3) := by decide +kernel
theorem dX7_readLine_18 : decode cX7_readLine 18 = .ok (.aload_n 0, 1) := by decide +kernel
theorem dX7_readLine_19 : decode cX7_readLine 19 = .ok (.aload_n 1, 1) := by decide +kernel
theorem dX7_readLine_20 : decode cX7_readLine 20 = .ok (.invokestatic 40, 3) := by decide +kernel
theorem dX7_readLine_23 : decode cX7_readLine 23 = .ok (.ifCond .eq 7, 3) := by decide +kernel
theorem dX7_readLine_26 : decode cX7_readLine 26 = .ok (.iconst 1, 1) := by decide +kernel
theorem dX7_readLine_27 : decode cX7_readLine 27 = .ok (.goto 4, 3) := by decide +kernel
theorem dX7_readLine_30 : decode cX7_readLine 30 = .ok (.iconst 0, 1) := by decide +kernel
theorem dX7_readLine_31 : decode cX7_readLine 31 = .ok (.ireturn, 1) := by decide +kernel
theorem dX7_readLine_32 : decode cX7_readLine 32 = .ok (.aload_n 0, 1) := by decide +kernel
theorem dX7_readLine_33 : decode cX7_readLine 33 = .ok (.ldc 43, 2) := by decide +kernel
theorem dX7_readLine_35 : decode cX7_readLine 35 = .ok (.invokevirtual 30, 3) := by decide +kernel
theorem dX7_readLine_38 : decode cX7_readLine 38 = .ok (.ifCond .eq 26, 3) := by decide +kernel
theorem dX7_readLine_41 : decode cX7_readLine 41 = .ok (.aload_n 1, 1) := by decide +kernel
theorem dX7_readLine_42 : decode cX7_readLine 42 = .ok (.getfield 45, 3) := by decide +kernel
theorem dX7_readLine_45 : decode cX7_readLine 45 = .ok (.bipush 10, 2) := by decide +kernel
theorem dX7_readLine_47 : decode cX7_readLine 47 = .ok (.if_icmp .ge 15, 3) := by decide +kernel
theorem dX7_readLine_50 : decode cX7_readLine 50 = .ok (.aload_n 0, 1) := by decide +kernel
theorem dX7_readLine_51 : decode cX7_readLine 51 = .ok (.aload_n 1, 1) := by decide +kernel
theorem dX7_readLine_52 : decode cX7_readLine 52 = .ok (.invokestatic 48, 3) := by decide +kernel
theorem dX7_readLine_55 : decode cX7_readLine 55 = .ok (.ifCond .eq 7, 3) := by decide +kernel
theorem dX7_readLine_58 : decode cX7_readLine 58 = .ok (.iconst 1, 1) := by decide +kernel
theorem dX7_readLine_59 : decode cX7_readLine 59 = .ok (.goto 4, 3) := by decide +kernel
theorem dX7_readLine_62 : decode cX7_readLine 62 = .ok (.iconst 0, 1) := by decide +kernel
theorem dX7_readLine_63 : decode cX7_readLine 63 = .ok (.ireturn, 1) := by decide +kernel
theorem dX7_readLine_64 : decode cX7_readLine 64 = .ok (.aload_n 0, 1) := by decide +kernel
theorem dX7_readLine_65 : decode cX7_readLine 65 = .ok (.ldc 51, 2) := by decide +kernel
theorem dX7_readLine_67 : decode cX7_readLine 67 = .ok (.invokevirtual 53, 3) := by decide +kernel
theorem dX7_readLine_70 : decode cX7_readLine 70 = .ok (.ifCond .eq 9, 3) := by decide +kernel
theorem dX7_readLine_73 : decode cX7_readLine 73 = .ok (.aload_n 0, 1) := by decide +kernel
theorem dX7_readLine_74 : decode cX7_readLine 74 = .ok (.aload_n 1, 1) := by decide +kernel
theorem dX7_readLine_75 : decode cX7_readLine 75 = .ok (.invokestatic 56, 3) := by decide +kernel
theorem dX7_readLine_78 : decode cX7_readLine 78 = .ok (.ireturn, 1) := by decide +kernel
theorem dX7_readLine_79 : decode cX7_readLine 79 = .ok (.aload_n 0, 1) := by decide +kernel
theorem dX7_readLine_80 : decode cX7_readLine 80 = .ok (.ldc 59, 2) := by decide +kernel
theorem dX7_readLine_82 : decode cX7_readLine 82 = .ok (.invokevirtual 53, 3) := by decide +kernel
theorem dX7_readLine_85 : decode cX7_readLine 85 = .ok (.ifCond .eq 15, 3) := by decide +kernel
theorem dX7_readLine_88 : decode cX7_readLine 88 = .ok (.aload_n 0, 1) := by decide +kernel
theorem dX7_readLine_89 : decode cX7_readLine 89 = .ok (.aload_n 1, 1) := by decide +kernel
theorem dX7_readLine_90 : decode cX7_readLine 90 = .ok (.invokestatic 61, 3) := by decide +kernel
theorem dX7_readLine_93 : decode cX7_readLine 93 = .ok (.ifCond .eq 7, 3) := by decide +kernel
theorem dX7_readLine_96 : decode cX7_readLine 96 = .ok (.iconst 1, 1) := by decide +kernel
theorem dX7_readLine_97 : decode cX7_readLine 97 = .ok (.goto 4, 3) := by decide +kernel
theorem dX7_readLine_100 : decode cX7_readLine 100 = .ok (.iconst 0, 1) := by decide +kernel
theorem dX7_readLine_101 : decode cX7_readLine 101 = .ok (.ireturn, 1) := by decide +kernel
noncomputable def fX7_readLine (V : VT) (i : Nat) : Option (Int32 × VT) := ob_R (fX8_isWord V 31) fun y2 => if y2 = 0 then (ob_R (fX8_isWord V 32) fun y4 => if y4 = 0 then (ob_I (fX8_takeWord V 33) fun y6 V7 => if y6 = 0 then (ob_I (fX8_takeWord V7 34) fun y9 V10 => if y9 = 0 then (zo_ (0 : Int32) (some ((0 : Int32), V10))) else (ob_I (fX7_readAway V10 i) fun y13 V14 => if y13 = 0 then (zo_ (0 : Int32) (some ((0 : Int32), V14))) else (zo_ (1 : Int32) (some ((1 : Int32), V14))))) else (ob_I (fX7_readMists V7 i) fun y20 V21 => zo_ y20 (some (y20, V21)))) else (if (10 : Int32) ≤ (V i 4) then (zo_ (0 : Int32) (some ((0 : Int32), V))) else (ob_I (fX7_readDeed V i) fun y26 V27 => if y26 = 0 then (zo_ (0 : Int32) (some ((0 : Int32), V27))) else (zo_ (1 : Int32) (some ((1 : Int32), V27)))))) else (if (8 : Int32) ≤ (V i 3) then (zo_ (0 : Int32) (some ((0 : Int32), V))) else (ob_I (fX7_readHouse V i) fun y35 V36 => if y35 = 0 then (zo_ (0 : Int32) (some ((0 : Int32), V36))) else (zo_ (1 : Int32) (some ((1 : Int32), V36)))))
set_option maxHeartbeats 4000000 in
set_option maxRecDepth 100000 in
theorem kX7_readLine {l : Launch} {G : GT} {Z : Nat → Nat × Nat} {V : VT} {i : Nat} (hs_i : isSt i) {r : (Int32 × VT)} (h : fX7_readLine V i = some r) : CI l G (SG Z) yX7_readLine (.code yX7_readLine cX7_readLine 2 (some .boolean)) 9 [.ref (G.2.2 1), .ref (G.2.2 i)] V r.1 r.2 := by
  intro sz
  refine met_of (Qs := fun sz => QI G sz (r.1) (r.2)) (SG_ok Z) (by decide) (Nat.le_of_ble_eq_true rfl) ?_ sz
  intro p e s m args below meth c ls E hw hl
  have hx := en_x E
  have hb := en_b E
  have hB := en_B E
  generalize hQ : MQ _ _ _ _ _ _ _ = Q
  have kr : Q = MQ below (QI G s.heap.size r.1 r.2) args s 0 0 (gA G s.heap.size) := hQ.symm
  have hl : lv_has ls 2 [(0, .ref (G.2.2 1)), (1, .ref (G.2.2 i))] := hl
  obtain ⟨H, eH⟩ : ∃ H, H = s.heap := ⟨_, rfl⟩
  obtain ⟨locs, elocs⟩ : ∃ z : List Loc, z = [] := ⟨_, rfl⟩
  have hw : HW G s.heap V H locs := by rw [eH, elocs]; exact hw
  show W p l e _ s m args below meth c s.heap [] 0 0 Q (F0 m 0 ls [])
  rw [← eH, ← elocs]
  unfold fX7_readLine at h
  refine lv_aload_n hx hb dX7_readLine_0 rfl (lv_at hl 0 rfl) ?_
  refine r_ls (w := 31) E (by decide) rfl rfl dX7_readLine_1 ?_
  obtain ⟨y2, h1, h⟩ := ob_R_some h
  refine c_VI E hw (kX8_isWord (l := l) (G := G) (Z := Z) (by decide) h1) yy_X8_isWord lm_RX7_30 rfl (by decide) rfl rfl hl.1 (by decide) (by decide) rfl (Nat.le_of_ble_eq_true rfl) dX7_readLine_3 (fun H locs hw => ?_)
  refine lv_if_eq (tgt := 32) hx hb dX7_readLine_6 (by decide) (fun c41 => ?_) (fun c41 => ?_)
  · rw [if_pos c41] at h
    refine lv_aload_n hx hb dX7_readLine_32 rfl (lv_at hl 0 rfl) ?_
    refine r_ls (w := 32) E (by decide) rfl rfl dX7_readLine_33 ?_
    obtain ⟨y4, h3, h⟩ := ob_R_some h
    refine c_VI E hw (kX8_isWord (l := l) (G := G) (Z := Z) (by decide) h3) yy_X8_isWord lm_RX7_30 rfl (by decide) rfl rfl hl.1 (by decide) (by decide) rfl (Nat.le_of_ble_eq_true rfl) dX7_readLine_35 (fun H locs hw => ?_)
    refine lv_if_eq (tgt := 64) hx hb dX7_readLine_38 (by decide) (fun c32 => ?_) (fun c32 => ?_)
    · rw [if_pos c32] at h
      refine lv_aload_n hx hb dX7_readLine_64 rfl (lv_at hl 0 rfl) ?_
      refine r_ls (w := 33) E (by decide) rfl rfl dX7_readLine_65 ?_
      obtain ⟨y6, V7, h5, h⟩ := ob_I_some h
      refine c_VI E hw (kX8_takeWord (l := l) (G := G) (Z := Z) (by decide) h5) yy_X8_takeWord lm_RX7_53 rfl (by decide) rfl rfl hl.1 (by decide) (by decide) rfl (Nat.le_of_ble_eq_true rfl) dX7_readLine_67 (fun H locs hw => ?_)
      refine lv_if_eq (tgt := 79) hx hb dX7_readLine_70 (by decide) (fun c23 => ?_) (fun c23 => ?_)
      · rw [if_pos c23] at h
        refine lv_aload_n hx hb dX7_readLine_79 rfl (lv_at hl 0 rfl) ?_
        refine r_ls (w := 34) E (by decide) rfl rfl dX7_readLine_80 ?_
        obtain ⟨y9, V10, h8, h⟩ := ob_I_some h
        refine c_VI E hw (kX8_takeWord (l := l) (G := G) (Z := Z) (by decide) h8) yy_X8_takeWord lm_RX7_53 rfl (by decide) rfl rfl hl.1 (by decide) (by decide) rfl (Nat.le_of_ble_eq_true rfl) dX7_readLine_82 (fun H locs hw => ?_)
        refine lv_if_eq (tgt := 100) hx hb dX7_readLine_85 (by decide) (fun c18 => ?_) (fun c18 => ?_)
        · rw [if_pos c18] at h
          refine lv_iconst (v := (0 : Int32)) hx hb dX7_readLine_100 (by decide) ?_
          obtain ⟨z11, h⟩ := zo_some h
          have h := Option.some.inj h
          subst h
          rw [kr]
          exact r_rz E hw z11 dX7_readLine_101
        · rw [if_neg c18] at h
          refine lv_aload_n hx hb dX7_readLine_88 rfl (lv_at hl 0 rfl) ?_
          refine lv_aload_n hx hb dX7_readLine_89 rfl (lv_at hl 1 rfl) ?_
          obtain ⟨y13, V14, h12, h⟩ := ob_I_some h
          refine c_SI E hw (kX7_readAway (l := l) (G := G) hB hs_i h12) yy_X7_readAway lm_RX7_61 rfl hl.1 (by decide) (by decide) rfl (Nat.le_of_ble_eq_true rfl) dX7_readLine_90 (fun H locs hw => ?_)
          refine lv_if_eq (tgt := 100) hx hb dX7_readLine_93 (by decide) (fun c17 => ?_) (fun c17 => ?_)
          · rw [if_pos c17] at h
            refine lv_iconst (v := (0 : Int32)) hx hb dX7_readLine_100 (by decide) ?_
            obtain ⟨z15, h⟩ := zo_some h
            have h := Option.some.inj h
            subst h
            rw [kr]
            exact r_rz E hw z15 dX7_readLine_101
          · rw [if_neg c17] at h
            refine lv_iconst (v := (1 : Int32)) hx hb dX7_readLine_96 (by decide) ?_
            refine lv_goto (tgt := 101) hx hb dX7_readLine_97 (by decide) ?_
            obtain ⟨z16, h⟩ := zo_some h
            have h := Option.some.inj h
            subst h
            rw [kr]
            exact r_rz E hw z16 dX7_readLine_101
      · rw [if_neg c23] at h
        refine lv_aload_n hx hb dX7_readLine_73 rfl (lv_at hl 0 rfl) ?_
        refine lv_aload_n hx hb dX7_readLine_74 rfl (lv_at hl 1 rfl) ?_
        obtain ⟨y20, V21, h19, h⟩ := ob_I_some h
        refine c_SI E hw (kX7_readMists (l := l) (G := G) hB hs_i h19) yy_X7_readMists lm_RX7_56 rfl hl.1 (by decide) (by decide) rfl (Nat.le_of_ble_eq_true rfl) dX7_readLine_75 (fun H locs hw => ?_)
        obtain ⟨z22, h⟩ := zo_some h
        have h := Option.some.inj h
        subst h
        rw [kr]
        exact r_rz E hw z22 dX7_readLine_78
    · rw [if_neg c32] at h
      refine lv_aload_n hx hb dX7_readLine_41 rfl (lv_at hl 1 rfl) ?_
      refine r_giN E hw i 4 (N := 13) (C := RX6) (T := TX6) (st_lt hs_i) (st_c hs_i) (st_N hs_i) (by decide) (st_n hs_i (k := 4) (by decide)) iw_6 rfl lf_RX7_45 dX7_readLine_42 ?_
      refine lv_bipush (v := (10 : Int32)) hx hb dX7_readLine_45 (by decide) ?_
      refine lv_icmp_ge (tgt := 62) hx hb dX7_readLine_47 (by decide) (fun c31 => ?_) (fun c31 => ?_)
      · rw [if_pos c31] at h
        refine lv_iconst (v := (0 : Int32)) hx hb dX7_readLine_62 (by decide) ?_
        obtain ⟨z24, h⟩ := zo_some h
        have h := Option.some.inj h
        subst h
        rw [kr]
        exact r_rz E hw z24 dX7_readLine_63
      · rw [if_neg c31] at h
        refine lv_aload_n hx hb dX7_readLine_50 rfl (lv_at hl 0 rfl) ?_
        refine lv_aload_n hx hb dX7_readLine_51 rfl (lv_at hl 1 rfl) ?_
        obtain ⟨y26, V27, h25, h⟩ := ob_I_some h
        refine c_SI E hw (kX7_readDeed (l := l) (G := G) (Z := Z) hs_i h25) yy_X7_readDeed lm_RX7_48 rfl hl.1 (by decide) (by decide) rfl (Nat.le_of_ble_eq_true rfl) dX7_readLine_52 (fun H locs hw => ?_)
        refine lv_if_eq (tgt := 62) hx hb dX7_readLine_55 (by decide) (fun c30 => ?_) (fun c30 => ?_)
        · rw [if_pos c30] at h
          refine lv_iconst (v := (0 : Int32)) hx hb dX7_readLine_62 (by decide) ?_
          obtain ⟨z28, h⟩ := zo_some h
          have h := Option.some.inj h
          subst h
          rw [kr]
          exact r_rz E hw z28 dX7_readLine_63
        · rw [if_neg c30] at h
          refine lv_iconst (v := (1 : Int32)) hx hb dX7_readLine_58 (by decide) ?_
          refine lv_goto (tgt := 63) hx hb dX7_readLine_59 (by decide) ?_
          obtain ⟨z29, h⟩ := zo_some h
          have h := Option.some.inj h
          subst h
          rw [kr]
          exact r_rz E hw z29 dX7_readLine_63
  · rw [if_neg c41] at h
    refine lv_aload_n hx hb dX7_readLine_9 rfl (lv_at hl 1 rfl) ?_
    refine r_giN E hw i 3 (N := 13) (C := RX6) (T := TX6) (st_lt hs_i) (st_c hs_i) (st_N hs_i) (by decide) (st_n hs_i (k := 3) (by decide)) iw_6 rfl lf_RX7_34 dX7_readLine_10 ?_
    refine lv_bipush (v := (8 : Int32)) hx hb dX7_readLine_13 (by decide) ?_
    refine lv_icmp_ge (tgt := 30) hx hb dX7_readLine_15 (by decide) (fun c40 => ?_) (fun c40 => ?_)
    · rw [if_pos c40] at h
      refine lv_iconst (v := (0 : Int32)) hx hb dX7_readLine_30 (by decide) ?_
      obtain ⟨z33, h⟩ := zo_some h
      have h := Option.some.inj h
      subst h
      rw [kr]
      exact r_rz E hw z33 dX7_readLine_31
    · rw [if_neg c40] at h
      refine lv_aload_n hx hb dX7_readLine_18 rfl (lv_at hl 0 rfl) ?_
      refine lv_aload_n hx hb dX7_readLine_19 rfl (lv_at hl 1 rfl) ?_
      obtain ⟨y35, V36, h34, h⟩ := ob_I_some h
      refine c_SI E hw (kX7_readHouse (l := l) (G := G) (Z := Z) hs_i h34) yy_X7_readHouse lm_RX7_40 rfl hl.1 (by decide) (by decide) rfl (Nat.le_of_ble_eq_true rfl) dX7_readLine_20 (fun H locs hw => ?_)
      refine lv_if_eq (tgt := 30) hx hb dX7_readLine_23 (by decide) (fun c39 => ?_) (fun c39 => ?_)
      · rw [if_pos c39] at h
        refine lv_iconst (v := (0 : Int32)) hx hb dX7_readLine_30 (by decide) ?_
        obtain ⟨z37, h⟩ := zo_some h
        have h := Option.some.inj h
        subst h
        rw [kr]
        exact r_rz E hw z37 dX7_readLine_31
      · rw [if_neg c39] at h
        refine lv_iconst (v := (1 : Int32)) hx hb dX7_readLine_26 (by decide) ?_
        refine lv_goto (tgt := 31) hx hb dX7_readLine_27 (by decide) ?_
        obtain ⟨z38, h⟩ := zo_some h
        have h := Option.some.inj h
        subst h
        rw [kr]
        exact r_rz E hw z38 dX7_readLine_31
/-! ===== AllSawIt$StreetText.read(LAllSawIt$Tape;LAllSawIt$State;)Z ===== -/
theorem dX7_read_0 : decode cX7_read 0 = .ok (.aload_n 0, 1) := by decide +kernel
theorem dX7_read_1 : decode cX7_read 1 = .ok (.invokevirtual 9, 3) := by decide +kernel
theorem dX7_read_4 : decode cX7_read 4 = .ok (.aload_n 0, 1) := by decide +kernel
theorem dX7_read_5 : decode cX7_read 5 = .ok (.invokevirtual 14, 3) := by decide +kernel
theorem dX7_read_8 : decode cX7_read 8 = .ok (.ifCond .eq 5, 3) := by decide +kernel
theorem dX7_read_11 : decode cX7_read 11 = .ok (.iconst 1, 1) := by decide +kernel
theorem dX7_read_12 : decode cX7_read 12 = .ok (.ireturn, 1) := by decide +kernel
theorem dX7_read_13 : decode cX7_read 13 = .ok (.iconst 0, 1) := by decide +kernel
theorem dX7_read_14 : decode cX7_read 14 = .ok (.istore_n 2, 1) := by decide +kernel
theorem dX7_read_15 : decode cX7_read 15 = .ok (.iload_n 2, 1) := by decide +kernel
theorem dX7_read_16 : decode cX7_read 16 = .ok (.bipush 14, 2) := by decide +kernel
theorem dX7_read_18 : decode cX7_read 18 = .ok (.if_icmp .ge 39, 3) := by decide +kernel
theorem dX7_read_21 : decode cX7_read 21 = .ok (.aload_n 0, 1) := by decide +kernel
theorem dX7_read_22 : decode cX7_read 22 = .ok (.aload_n 1, 1) := by decide +kernel
theorem dX7_read_23 : decode cX7_read 23 = .ok (.invokestatic 20, 3) := by decide +kernel
theorem dX7_read_26 : decode cX7_read 26 = .ok (.ifCond .ne 5, 3) := by decide +kernel
theorem dX7_read_29 : decode cX7_read 29 = .ok (.iconst 0, 1) := by decide +kernel
theorem dX7_read_30 : decode cX7_read 30 = .ok (.ireturn, 1) := by decide +kernel
theorem dX7_read_31 : decode cX7_read 31 = .ok (.aload_n 0, 1) := by decide +kernel
theorem dX7_read_32 : decode cX7_read 32 = .ok (.invokevirtual 14, 3) := by decide +kernel
theorem dX7_read_35 : decode cX7_read 35 = .ok (.ifCond .eq 5, 3) := by decide +kernel
theorem dX7_read_38 : decode cX7_read 38 = .ok (.iconst 1, 1) := by decide +kernel
theorem dX7_read_39 : decode cX7_read 39 = .ok (.ireturn, 1) := by decide +kernel
theorem dX7_read_40 : decode cX7_read 40 = .ok (.aload_n 0, 1) := by decide +kernel
theorem dX7_read_41 : decode cX7_read 41 = .ok (.bipush 59, 2) := by decide +kernel
theorem dX7_read_43 : decode cX7_read 43 = .ok (.invokevirtual 24, 3) := by decide +kernel
theorem dX7_read_46 : decode cX7_read 46 = .ok (.ifCond .ne 5, 3) := by decide +kernel
theorem dX7_read_49 : decode cX7_read 49 = .ok (.iconst 0, 1) := by decide +kernel
theorem dX7_read_50 : decode cX7_read 50 = .ok (.ireturn, 1) := by decide +kernel
theorem dX7_read_51 : decode cX7_read 51 = .ok (.iinc 2 1, 3) := by decide +kernel
theorem dX7_read_54 : decode cX7_read 54 = .ok (.goto (-39), 3) := by decide +kernel
theorem dX7_read_57 : decode cX7_read 57 = .ok (.iconst 0, 1) := by decide +kernel
theorem dX7_read_58 : decode cX7_read 58 = .ok (.ireturn, 1) := by decide +kernel
noncomputable def fX7_read_L15 (V : VT) (i : Nat) (u2 : Int32) : Option ((VT × Int32) ⊕ (Int32 × VT)) := if (14 : Int32) ≤ u2 then (zo_ (0 : Int32) (some (.inr (((0 : Int32), V))))) else (ob_I (fX7_readLine V i) fun y7 V8 => if y7 = 0 then (zo_ (0 : Int32) (some (.inr (((0 : Int32), V8))))) else (ob_R (fX8_isEnd V8 ) fun y10 => if y10 = 0 then (ob_I (fX8_takeSign V8 (59 : Int32)) fun y12 V13 => if y12 = 0 then (zo_ (0 : Int32) (some (.inr (((0 : Int32), V13))))) else (lt_ (u2 + (1 : Int32)) fun y14 => some (.inl (V13, y14)))) else (zo_ (1 : Int32) (some (.inr (((1 : Int32), V8)))))))
noncomputable def iX7_read_L15 (i : Nat) : (VT × Int32) → Option ((VT × Int32) ⊕ (Int32 × VT)) := fun q => fX7_read_L15 (q.1) i (q.2)
noncomputable def fX7_read (V : VT) (i : Nat) : Option (Int32 × VT) := ob_R (fX8_rewind V ) fun V2 => ob_R (fX8_isEnd V2 ) fun y4 => if y4 = 0 then (ob_R (it_ (iX7_read_L15 i) FV (V2, (0 : Int32))) fun x23 => some x23) else (zo_ (1 : Int32) (some ((1 : Int32), V2)))
set_option maxHeartbeats 4000000 in
set_option maxRecDepth 100000 in
theorem wX7_read_L15 {p : Program} {l : Launch} {e : Env} {s : State} {m : MethodId} {args : Array Value} {below : List Frame} {meth : Method} {c : Code} {G : GT} {Z : Nat → Nat × Nat} {Q : State → Prop} (E : En p s m args c meth cX7_read 3 RX7 (some .boolean) G (SG Z)) {i : Nat} (hs_i : isSt i) {x : (Int32 × VT)} (kr : ∀ q : (Int32 × VT), x = q → Q = MQ below (QI G s.heap.size q.1 q.2) args s 0 0 (gA G s.heap.size)) : ∀ (n : Nat) (q : (VT × Int32)), it_ (iX7_read_L15 i) n q = some x → ∀ (H : Heap) (locs : List Loc) (ls : Array Slot), HW G s.heap (q.1) H locs → lv_has ls 3 [(0, .ref (G.2.2 1)), (1, .ref (G.2.2 i)), (2, .int (q.2))] → W p l e (rmD 10) s m args below meth c H locs 0 0 Q (F0 m 15 ls []) := by
  have hx := en_x E
  have hb := en_b E
  have hB := en_B E
  refine it_W (fun q : (VT × Int32) => ∀ (H : Heap) (locs : List Loc) (ls : Array Slot), HW G s.heap (q.1) H locs → lv_has ls 3 [(0, .ref (G.2.2 1)), (1, .ref (G.2.2 i)), (2, .int (q.2))] → W p l e (rmD 10) s m args below meth c H locs 0 0 Q (F0 m 15 ls [])) x ?_
  intro q r h kc kx
  obtain ⟨V, u2⟩ := q
  intro H locs ls hw hl
  have h : fX7_read_L15 V i u2 = some r := h
  have hw : HW G s.heap V H locs := hw
  have hl : lv_has ls 3 [(0, .ref (G.2.2 1)), (1, .ref (G.2.2 i)), (2, .int u2)] := hl
  have kr : ∀ q : (Int32 × VT), r = .inr (q) → Q = MQ below (QI G s.heap.size q.1 q.2) args s 0 0 (gA G s.heap.size) := fun q e => kr q (kx _ e).symm
  unfold fX7_read_L15 at h
  refine lv_iload_n hx hb dX7_read_15 rfl (lv_at hl 2 rfl) ?_
  refine lv_bipush (v := (14 : Int32)) hx hb dX7_read_16 (by decide) ?_
  refine lv_icmp_ge (tgt := 57) hx hb dX7_read_18 (by decide) (fun c21 => ?_) (fun c21 => ?_)
  · rw [if_pos c21] at h
    refine lv_iconst (v := (0 : Int32)) hx hb dX7_read_57 (by decide) ?_
    obtain ⟨z5, h⟩ := zo_some h
    rw [kr ((0 : Int32), V) (Option.some.inj h).symm]
    exact r_rz E hw z5 dX7_read_58
  · rw [if_neg c21] at h
    refine lv_aload_n hx hb dX7_read_21 rfl (lv_at hl 0 rfl) ?_
    refine lv_aload_n hx hb dX7_read_22 rfl (lv_at hl 1 rfl) ?_
    obtain ⟨y7, V8, h6, h⟩ := ob_I_some h
    refine c_SI E hw (kX7_readLine (l := l) (G := G) (Z := Z) hs_i h6) yy_X7_readLine lm_RX7_20 rfl hl.1 (by decide) (by decide) rfl (Nat.le_of_ble_eq_true rfl) dX7_read_23 (fun H locs hw => ?_)
    refine lv_if_ne (tgt := 31) hx hb dX7_read_26 (by decide) (fun c20 => ?_) (fun c20 => ?_)
    · rw [if_neg c20] at h
      refine lv_aload_n hx hb dX7_read_31 rfl (lv_at hl 0 rfl) ?_
      obtain ⟨y10, h9, h⟩ := ob_R_some h
      refine c_VI E hw (kX8_isEnd (l := l) (G := G) hB  h9) yy_X8_isEnd lm_RX7_14 rfl (by decide) rfl rfl hl.1 (by decide) (by decide) rfl (Nat.le_of_ble_eq_true rfl) dX7_read_32 (fun H locs hw => ?_)
      refine lv_if_eq (tgt := 40) hx hb dX7_read_35 (by decide) (fun c18 => ?_) (fun c18 => ?_)
      · rw [if_pos c18] at h
        refine lv_aload_n hx hb dX7_read_40 rfl (lv_at hl 0 rfl) ?_
        refine lv_bipush (v := (59 : Int32)) hx hb dX7_read_41 (by decide) ?_
        obtain ⟨y12, V13, h11, h⟩ := ob_I_some h
        refine c_VI E hw (kX8_takeSign (l := l) (G := G) hB  h11) yy_X8_takeSign lm_RX7_24 rfl (by decide) rfl rfl hl.1 (by decide) (by decide) rfl (Nat.le_of_ble_eq_true rfl) dX7_read_43 (fun H locs hw => ?_)
        refine lv_if_ne (tgt := 51) hx hb dX7_read_46 (by decide) (fun c16 => ?_) (fun c16 => ?_)
        · rw [if_neg c16] at h
          obtain ⟨y14, ey14, h⟩ := lt_some h
          refine lv_iinc (v := y14) (lv' := [(2, .int y14), (0, .ref (G.2.2 1)), (1, .ref (G.2.2 i))]) hx hb dX7_read_51 hl (k := 2) rfl (by rw [ey14]; rfl) (by decide) rfl (fun ls hl => ?_)
          refine lv_goto (tgt := 15) hx hb dX7_read_54 (by decide) ?_
          exact kc (V13, y14) (Option.some.inj h).symm H locs ls hw (lv_sub hl [1, 2, 0] rfl)
        · rw [if_pos c16] at h
          refine lv_iconst (v := (0 : Int32)) hx hb dX7_read_49 (by decide) ?_
          obtain ⟨z15, h⟩ := zo_some h
          rw [kr ((0 : Int32), V13) (Option.some.inj h).symm]
          exact r_rz E hw z15 dX7_read_50
      · rw [if_neg c18] at h
        refine lv_iconst (v := (1 : Int32)) hx hb dX7_read_38 (by decide) ?_
        obtain ⟨z17, h⟩ := zo_some h
        rw [kr ((1 : Int32), V8) (Option.some.inj h).symm]
        exact r_rz E hw z17 dX7_read_39
    · rw [if_pos c20] at h
      refine lv_iconst (v := (0 : Int32)) hx hb dX7_read_29 (by decide) ?_
      obtain ⟨z19, h⟩ := zo_some h
      rw [kr ((0 : Int32), V8) (Option.some.inj h).symm]
      exact r_rz E hw z19 dX7_read_30
set_option maxHeartbeats 4000000 in
set_option maxRecDepth 100000 in
theorem kX7_read {l : Launch} {G : GT} {Z : Nat → Nat × Nat} {V : VT} {i : Nat} (hs_i : isSt i) {r : (Int32 × VT)} (h : fX7_read V i = some r) : CI l G (SG Z) yX7_read (.code yX7_read cX7_read 3 (some .boolean)) 10 [.ref (G.2.2 1), .ref (G.2.2 i)] V r.1 r.2 := by
  intro sz
  refine met_of (Qs := fun sz => QI G sz (r.1) (r.2)) (SG_ok Z) (by decide) (Nat.le_of_ble_eq_true rfl) ?_ sz
  intro p e s m args below meth c ls E hw hl
  have hx := en_x E
  have hb := en_b E
  have hB := en_B E
  generalize hQ : MQ _ _ _ _ _ _ _ = Q
  have kr : Q = MQ below (QI G s.heap.size r.1 r.2) args s 0 0 (gA G s.heap.size) := hQ.symm
  have hl : lv_has ls 3 [(0, .ref (G.2.2 1)), (1, .ref (G.2.2 i))] := hl
  obtain ⟨H, eH⟩ : ∃ H, H = s.heap := ⟨_, rfl⟩
  obtain ⟨locs, elocs⟩ : ∃ z : List Loc, z = [] := ⟨_, rfl⟩
  have hw : HW G s.heap V H locs := by rw [eH, elocs]; exact hw
  show W p l e _ s m args below meth c s.heap [] 0 0 Q (F0 m 0 ls [])
  rw [← eH, ← elocs]
  unfold fX7_read at h
  refine lv_aload_n hx hb dX7_read_0 rfl (lv_at hl 0 rfl) ?_
  obtain ⟨V2, h1, h⟩ := ob_R_some h
  refine c_VV E hw (kX8_rewind (l := l) (G := G) hB  h1) yy_X8_rewind lm_RX7_9 rfl (by decide) rfl rfl hl.1 (by decide) (by decide) rfl (Nat.le_of_ble_eq_true rfl) dX7_read_1 (fun H locs hw => ?_)
  refine lv_aload_n hx hb dX7_read_4 rfl (lv_at hl 0 rfl) ?_
  obtain ⟨y4, h3, h⟩ := ob_R_some h
  refine c_VI E hw (kX8_isEnd (l := l) (G := G) hB  h3) yy_X8_isEnd lm_RX7_14 rfl (by decide) rfl rfl hl.1 (by decide) (by decide) rfl (Nat.le_of_ble_eq_true rfl) dX7_read_5 (fun H locs hw => ?_)
  refine lv_if_eq (tgt := 13) hx hb dX7_read_8 (by decide) (fun c25 => ?_) (fun c25 => ?_)
  · rw [if_pos c25] at h
    refine lv_iconst (v := (0 : Int32)) hx hb dX7_read_13 (by decide) ?_
    refine lv_istore_n (lv' := [(2, .int (0 : Int32)), (0, .ref (G.2.2 1)), (1, .ref (G.2.2 i))]) hx hb dX7_read_14 rfl hl (by decide) rfl (fun ls hl => ?_)
    obtain ⟨x23, h22, h⟩ := ob_R_some h
    have h := Option.some.inj h
    subst h
    exact wX7_read_L15 E hs_i (fun q e => by subst e; exact kr) FV (V2, (0 : Int32)) h22 H locs ls hw (lv_sub hl [1, 2, 0] rfl)
  · rw [if_neg c25] at h
    refine lv_iconst (v := (1 : Int32)) hx hb dX7_read_11 (by decide) ?_
    obtain ⟨z24, h⟩ := zo_some h
    have h := Option.some.inj h
    subst h
    rw [kr]
    exact r_rz E hw z24 dX7_read_12
