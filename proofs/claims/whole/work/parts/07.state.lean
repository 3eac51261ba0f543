/-! ===== AllSawIt$State.copyFrom(LAllSawIt$State;)V ===== -/
theorem dX6_copyFrom_0 : decode cX6_copyFrom 0 = .ok (.aload_n 1, 1) := by decide +kernel
theorem dX6_copyFrom_1 : decode cX6_copyFrom 1 = .ok (.getfield 11, 3) := by decide +kernel
theorem dX6_copyFrom_4 : decode cX6_copyFrom 4 = .ok (.iconst 0, 1) := by decide +kernel
theorem dX6_copyFrom_5 : decode cX6_copyFrom 5 = .ok (.aload_n 0, 1) := by decide +kernel
theorem dX6_copyFrom_6 : decode cX6_copyFrom 6 = .ok (.getfield 11, 3) := by decide +kernel
theorem dX6_copyFrom_9 : decode cX6_copyFrom 9 = .ok (.iconst 0, 1) := by decide +kernel
theorem dX6_copyFrom_10 : decode cX6_copyFrom 10 = .ok (.aload_n 0, 1) := by decide +kernel
theorem dX6_copyFrom_11 : decode cX6_copyFrom 11 = .ok (.getfield 11, 3) := by decide +kernel
theorem dX6_copyFrom_14 : decode cX6_copyFrom 14 = .ok (.arraylength, 1) := by decide +kernel
theorem dX6_copyFrom_15 : decode cX6_copyFrom 15 = .ok (.aload_n 1, 1) := by decide +kernel
theorem dX6_copyFrom_16 : decode cX6_copyFrom 16 = .ok (.getfield 11, 3) := by decide +kernel
theorem dX6_copyFrom_19 : decode cX6_copyFrom 19 = .ok (.arraylength, 1) := by decide +kernel
theorem dX6_copyFrom_20 : decode cX6_copyFrom 20 = .ok (.invokestatic 52, 3) := by decide +kernel
theorem dX6_copyFrom_23 : decode cX6_copyFrom 23 = .ok (.invokestatic 58, 3) := by decide +kernel
theorem dX6_copyFrom_26 : decode cX6_copyFrom 26 = .ok (.aload_n 1, 1) := by decide +kernel
theorem dX6_copyFrom_27 : decode cX6_copyFrom 27 = .ok (.getfield 15, 3) := by decide +kernel
theorem dX6_copyFrom_30 : decode cX6_copyFrom 30 = .ok (.iconst 0, 1) := by decide +kernel
theorem dX6_copyFrom_31 : decode cX6_copyFrom 31 = .ok (.aload_n 0, 1) := by decide +kernel
theorem dX6_copyFrom_32 : decode cX6_copyFrom 32 = .ok (.getfield 15, 3) := by decide +kernel
theorem dX6_copyFrom_35 : decode cX6_copyFrom 35 = .ok (.iconst 0, 1) := by decide +kernel
theorem dX6_copyFrom_36 : decode cX6_copyFrom 36 = .ok (.aload_n 0, 1) := by decide +kernel
theorem dX6_copyFrom_37 : decode cX6_copyFrom 37 = .ok (.getfield 15, 3) := by decide +kernel
theorem dX6_copyFrom_40 : decode cX6_copyFrom 40 = .ok (.arraylength, 1) := by decide +kernel
theorem dX6_copyFrom_41 : decode cX6_copyFrom 41 = .ok (.aload_n 1, 1) := by decide +kernel
theorem dX6_copyFrom_42 : decode cX6_copyFrom 42 = .ok (.getfield 15, 3) := by decide +kernel
theorem dX6_copyFrom_45 : decode cX6_copyFrom 45 = .ok (.arraylength, 1) := by decide +kernel
theorem dX6_copyFrom_46 : decode cX6_copyFrom 46 = .ok (.invokestatic 52, 3) := by decide +kernel
theorem dX6_copyFrom_49 : decode cX6_copyFrom 49 = .ok (.invokestatic 58, 3) := by decide +kernel
theorem dX6_copyFrom_52 : decode cX6_copyFrom 52 = .ok (.aload_n 1, 1) := by decide +kernel
theorem dX6_copyFrom_53 : decode cX6_copyFrom 53 = .ok (.getfield 18, 3) := by decide +kernel
theorem dX6_copyFrom_56 : decode cX6_copyFrom 56 = .ok (.iconst 0, 1) := by decide +kernel
theorem dX6_copyFrom_57 : decode cX6_copyFrom 57 = .ok (.aload_n 0, 1) := by decide +kernel
theorem dX6_copyFrom_58 : decode cX6_copyFrom 58 = .ok (.getfield 18, 3) := by decide +kernel
theorem dX6_copyFrom_61 : decode cX6_copyFrom 61 = .ok (.iconst 0, 1) := by decide +kernel
theorem dX6_copyFrom_62 : decode cX6_copyFrom 62 = .ok (.aload_n 0, 1) := by decide +kernel
theorem dX6_copyFrom_63 : decode cX6_copyFrom 63 = .ok (.getfield 18, 3) := by decide +kernel
theorem dX6_copyFrom_66 : decode cX6_copyFrom 66 = .ok (.arraylength, 1) := by decide +kernel
theorem dX6_copyFrom_67 : decode cX6_copyFrom 67 = .ok (.aload_n 1, 1) := by decide +kernel
theorem dX6_copyFrom_68 : decode cX6_copyFrom 68 = .ok (.getfield 18, 3) := by decide +kernel
theorem dX6_copyFrom_71 : decode cX6_copyFrom 71 = .ok (.arraylength, 1) := by decide +kernel
theorem dX6_copyFrom_72 : decode cX6_copyFrom 72 = .ok (.invokestatic 52, 3) := by decide +kernel
theorem dX6_copyFrom_75 : decode cX6_copyFrom 75 = .ok (.invokestatic 58, 3) := by decide +kernel
theorem dX6_copyFrom_78 : decode cX6_copyFrom 78 = .ok (.aload_n 0, 1) := by decide +kernel
theorem dX6_copyFrom_79 : decode cX6_copyFrom 79 = .ok (.aload_n 1, 1) := by decide +kernel
theorem dX6_copyFrom_80 : decode cX6_copyFrom 80 = .ok (.getfield 21, 3) := by decide +kernel
theorem dX6_copyFrom_83 : decode cX6_copyFrom 83 = .ok (.putfield 21, 3) := by decide +kernel
theorem dX6_copyFrom_86 : decode cX6_copyFrom 86 = .ok (.aload_n 0, 1) := by decide +kernel
theorem dX6_copyFrom_87 : decode cX6_copyFrom 87 = .ok (.aload_n 1, 1) := by decide +kernel
theorem dX6_copyFrom_88 : decode cX6_copyFrom 88 = .ok (.getfield 25, 3) := by decide +kernel
theorem dX6_copyFrom_91 : decode cX6_copyFrom 91 = .ok (.putfield 25, 3) := by decide +kernel
theorem dX6_copyFrom_94 : decode cX6_copyFrom 94 = .ok (.aload_n 0, 1) := by decide +kernel
theorem dX6_copyFrom_95 : decode cX6_copyFrom 95 = .ok (.aload_n 1, 1) := by decide +kernel
theorem dX6_copyFrom_96 : decode cX6_copyFrom 96 = .ok (.getfield 28, 3) := by decide +kernel
theorem dX6_copyFrom_99 : decode cX6_copyFrom 99 = .ok (.putfield 28, 3) := by decide +kernel
theorem dX6_copyFrom_102 : decode cX6_copyFrom 102 = .ok (.aload_n 0, 1) := by decide +kernel
theorem dX6_copyFrom_103 : decode cX6_copyFrom 103 = .ok (.aload_n 1, 1) := by decide +kernel
theorem dX6_copyFrom_104 : decode cX6_copyFrom 104 = .ok (.getfield 31, 3) := by decide +kernel
theorem dX6_copyFrom_107 : decode cX6_copyFrom 107 = .ok (.putfield 31, 3) := by decide +kernel
theorem dX6_copyFrom_110 : decode cX6_copyFrom 110 = .ok (.aload_n 0, 1) := by decide +kernel
theorem dX6_copyFrom_111 : decode cX6_copyFrom 111 = .ok (.aload_n 1, 1) := by decide +kernel
theorem dX6_copyFrom_112 : decode cX6_copyFrom 112 = .ok (.getfield 34, 3) := by decide +kernel
theorem dX6_copyFrom_115 : decode cX6_copyFrom 115 = .ok (.putfield 34, 3) := by decide +kernel
theorem dX6_copyFrom_118 : decode cX6_copyFrom 118 = .ok (.aload_n 0, 1) := by decide +kernel
theorem dX6_copyFrom_119 : decode cX6_copyFrom 119 = .ok (.aload_n 1, 1) := by decide +kernel
theorem dX6_copyFrom_120 : decode cX6_copyFrom 120 = .ok (.getfield 37, 3) := by decide +kernel
theorem dX6_copyFrom_123 : decode cX6_copyFrom 123 = .ok (.putfield 37, 3) := by decide +kernel
theorem dX6_copyFrom_126 : decode cX6_copyFrom 126 = .ok (.aload_n 0, 1) := by decide +kernel
theorem dX6_copyFrom_127 : decode cX6_copyFrom 127 = .ok (.aload_n 1, 1) := by decide +kernel
theorem dX6_copyFrom_128 : decode cX6_copyFrom 128 = .ok (.getfield 40, 3) := by decide +kernel
theorem dX6_copyFrom_131 : decode cX6_copyFrom 131 = .ok (.putfield 40, 3) := by decide +kernel
theorem dX6_copyFrom_134 : decode cX6_copyFrom 134 = .ok (.aload_n 0, 1) := by decide +kernel
theorem dX6_copyFrom_135 : decode cX6_copyFrom 135 = .ok (.aload_n 1, 1) := by decide +kernel
theorem dX6_copyFrom_136 : decode cX6_copyFrom 136 = .ok (.getfield 43, 3) := by decide +kernel
theorem dX6_copyFrom_139 : decode cX6_copyFrom 139 = .ok (.putfield 43, 3) := by decide +kernel
theorem dX6_copyFrom_142 : decode cX6_copyFrom 142 = .ok (.aload_n 0, 1) := by decide +kernel
theorem dX6_copyFrom_143 : decode cX6_copyFrom 143 = .ok (.aload_n 1, 1) := by decide +kernel
theorem dX6_copyFrom_144 : decode cX6_copyFrom 144 = .ok (.getfield 46, 3) := by decide +kernel
theorem dX6_copyFrom_147 : decode cX6_copyFrom 147 = .ok (.putfield 46, 3) := by decide +kernel
theorem dX6_copyFrom_150 : decode cX6_copyFrom 150 = .ok (.aload_n 0, 1) := by decide +kernel
theorem dX6_copyFrom_151 : decode cX6_copyFrom 151 = .ok (.aload_n 1, 1) := by decide +kernel
theorem dX6_copyFrom_152 : decode cX6_copyFrom 152 = .ok (.getfield 49, 3) := by decide +kernel
theorem dX6_copyFrom_155 : decode cX6_copyFrom 155 = .ok (.putfield 49, 3) := by decide +kernel
theorem dX6_copyFrom_158 : decode cX6_copyFrom 158 = .ok (.return_, 1) := by decide +kernel
noncomputable def fX6_copyFrom (V : VT) (i : Nat) (j : Nat) : Option VT := cp_ (0 : Int32) (0 : Int32) (if (nI 56) < (nI 56) then (nI 56) else (nI 56)) 56 56 (lt_ (va_up V (18 + 3 * i + 0) (va_cpy (V (18 + 3 * j + 0)) (V (18 + 3 * i + 0)) (0 : Int32).toNatClampNeg (0 : Int32).toNatClampNeg (if (nI 56) < (nI 56) then (nI 56) else (nI 56)).toNatClampNeg)) fun V1 => cp_ (0 : Int32) (0 : Int32) (if (nI 50) < (nI 50) then (nI 50) else (nI 50)) 50 50 (lt_ (va_up V1 (18 + 3 * i + 1) (va_cpy (V1 (18 + 3 * j + 1)) (V1 (18 + 3 * i + 1)) (0 : Int32).toNatClampNeg (0 : Int32).toNatClampNeg (if (nI 50) < (nI 50) then (nI 50) else (nI 50)).toNatClampNeg)) fun V3 => cp_ (0 : Int32) (0 : Int32) (if (nI 60) < (nI 60) then (nI 60) else (nI 60)) 60 60 (lt_ (va_up V3 (18 + 3 * i + 2) (va_cpy (V3 (18 + 3 * j + 2)) (V3 (18 + 3 * i + 2)) (0 : Int32).toNatClampNeg (0 : Int32).toNatClampNeg (if (nI 60) < (nI 60) then (nI 60) else (nI 60)).toNatClampNeg)) fun V5 => lt_ (va_up V5 i (upd (V5 i) 3 (V5 j 3))) fun V7 => lt_ (va_up V7 i (upd (V7 i) 4 (V7 j 4))) fun V8 => lt_ (va_up V8 i (upd (V8 i) 5 (V8 j 5))) fun V9 => lt_ (va_up V9 i (upd (V9 i) 6 (V9 j 6))) fun V10 => lt_ (va_up V10 i (upd (V10 i) 7 (V10 j 7))) fun V11 => lt_ (va_up V11 i (upd (V11 i) 8 (V11 j 8))) fun V12 => lt_ (va_up V12 i (upd (V12 i) 9 (V12 j 9))) fun V13 => lt_ (va_up V13 i (upd (V13 i) 10 (V13 j 10))) fun V14 => lt_ (va_up V14 i (upd (V14 i) 11 (V14 j 11))) fun V15 => lt_ (va_up V15 i (upd (V15 i) 12 (V15 j 12))) fun V16 => some V16)))
set_option maxHeartbeats 4000000 in
set_option maxRecDepth 100000 in
theorem kX6_copyFrom {l : Launch} {G : GT} {B : BGt} (hB : BGok B) {V : VT} {i : Nat} (hs_i : isSt i) {j : Nat} (hs_j : isSt j) {r : VT} (h : fX6_copyFrom V i j = some r) : CV l G B yX6_copyFrom (.code yX6_copyFrom cX6_copyFrom 2 none) 2 [.ref (G.2.2 i), .ref (G.2.2 j)] V r := by
  intro sz
  refine met_of (Qs := fun sz => QV G sz r) hB (by decide) (Nat.le_of_ble_eq_true rfl) ?_ sz
  intro p e s m args below meth c ls E hw hl
  have hx := en_x E
  have hb := en_b E
  generalize hQ : MQ _ _ _ _ _ _ _ = Q
  have kr : Q = MQ below (QV G s.heap.size r) args s 0 0 (gA G s.heap.size) := hQ.symm
  have hl : lv_has ls 2 [(0, .ref (G.2.2 i)), (1, .ref (G.2.2 j))] := hl
  obtain ⟨H, eH⟩ : ∃ H, H = s.heap := ⟨_, rfl⟩
  obtain ⟨locs, elocs⟩ : ∃ z : List Loc, z = [] := ⟨_, rfl⟩
  have hw : HW G s.heap V H locs := by rw [eH, elocs]; exact hw
  show W p l e _ s m args below meth c s.heap [] 0 0 Q (F0 m 0 ls [])
  rw [← eH, ← elocs]
  unfold fX6_copyFrom at h
  refine lv_aload_n hx hb dX6_copyFrom_0 rfl (lv_at hl 1 rfl) ?_
  refine r_gr E hw j 0 (18 + 3 * j + 0) (N := 13) (C := RX6) (T := TX6) (st_lt hs_j) (st_c hs_j) (st_N hs_j) (by decide) (st_R hs_j (k := 0) (by decide)) iw_6 rfl lf_RX6_11 dX6_copyFrom_1 ?_
  refine lv_iconst (v := (0 : Int32)) hx hb dX6_copyFrom_4 (by decide) ?_
  refine lv_aload_n hx hb dX6_copyFrom_5 rfl (lv_at hl 0 rfl) ?_
  refine r_gr E hw i 0 (18 + 3 * i + 0) (N := 13) (C := RX6) (T := TX6) (st_lt hs_i) (st_c hs_i) (st_N hs_i) (by decide) (st_R hs_i (k := 0) (by decide)) iw_6 rfl lf_RX6_11 dX6_copyFrom_6 ?_
  refine lv_iconst (v := (0 : Int32)) hx hb dX6_copyFrom_9 (by decide) ?_
  refine lv_aload_n hx hb dX6_copyFrom_10 rfl (lv_at hl 0 rfl) ?_
  refine r_gr E hw i 0 (18 + 3 * i + 0) (N := 13) (C := RX6) (T := TX6) (st_lt hs_i) (st_c hs_i) (st_N hs_i) (by decide) (st_R hs_i (k := 0) (by decide)) iw_6 rfl lf_RX6_11 dX6_copyFrom_11 ?_
  refine r_al E hw (18 + 3 * i + 0) 56 (st_a1 hs_i (by decide)) (st_a2 hs_i (by decide)) (st_a3 hs_i (by decide)) (st_L0 hs_i) dX6_copyFrom_14 ?_
  refine lv_aload_n hx hb dX6_copyFrom_15 rfl (lv_at hl 1 rfl) ?_
  refine r_gr E hw j 0 (18 + 3 * j + 0) (N := 13) (C := RX6) (T := TX6) (st_lt hs_j) (st_c hs_j) (st_N hs_j) (by decide) (st_R hs_j (k := 0) (by decide)) iw_6 rfl lf_RX6_11 dX6_copyFrom_16 ?_
  refine r_al E hw (18 + 3 * j + 0) 56 (st_a1 hs_j (by decide)) (st_a2 hs_j (by decide)) (st_a3 hs_j (by decide)) (st_L0 hs_j) dX6_copyFrom_19 ?_
  refine r_min E hl.1 lm_RX6_52 (by decide) (Nat.le_of_ble_eq_true rfl) dX6_copyFrom_20 ?_
  obtain ⟨b2, h⟩ := cp_some h
  obtain ⟨V1, eV1, h⟩ := lt_some h
  refine r_cp E hw (18 + 3 * j + 0) (18 + 3 * i + 0) 56 56 hl.1 (st_a1 hs_j (by decide)) (st_a2 hs_j (by decide)) (st_a3 hs_j (by decide)) (st_a4 hs_j (by decide)) (st_L0 hs_j) (st_a1 hs_i (by decide)) (st_a2 hs_i (by decide)) (st_a3 hs_i (by decide)) (st_a4 hs_i (by decide)) (st_L0 hs_i) lm_RX6_58 b2 eV1 dX6_copyFrom_23 (by decide) (Nat.le_of_ble_eq_true rfl) (fun H locs hw => ?_)
  refine lv_aload_n hx hb dX6_copyFrom_26 rfl (lv_at hl 1 rfl) ?_
  refine r_gr E hw j 1 (18 + 3 * j + 1) (N := 13) (C := RX6) (T := TX6) (st_lt hs_j) (st_c hs_j) (st_N hs_j) (by decide) (st_R hs_j (k := 1) (by decide)) iw_6 rfl lf_RX6_15 dX6_copyFrom_27 ?_
  refine lv_iconst (v := (0 : Int32)) hx hb dX6_copyFrom_30 (by decide) ?_
  refine lv_aload_n hx hb dX6_copyFrom_31 rfl (lv_at hl 0 rfl) ?_
  refine r_gr E hw i 1 (18 + 3 * i + 1) (N := 13) (C := RX6) (T := TX6) (st_lt hs_i) (st_c hs_i) (st_N hs_i) (by decide) (st_R hs_i (k := 1) (by decide)) iw_6 rfl lf_RX6_15 dX6_copyFrom_32 ?_
  refine lv_iconst (v := (0 : Int32)) hx hb dX6_copyFrom_35 (by decide) ?_
  refine lv_aload_n hx hb dX6_copyFrom_36 rfl (lv_at hl 0 rfl) ?_
  refine r_gr E hw i 1 (18 + 3 * i + 1) (N := 13) (C := RX6) (T := TX6) (st_lt hs_i) (st_c hs_i) (st_N hs_i) (by decide) (st_R hs_i (k := 1) (by decide)) iw_6 rfl lf_RX6_15 dX6_copyFrom_37 ?_
  refine r_al E hw (18 + 3 * i + 1) 50 (st_a1 hs_i (by decide)) (st_a2 hs_i (by decide)) (st_a3 hs_i (by decide)) (st_L1 hs_i) dX6_copyFrom_40 ?_
  refine lv_aload_n hx hb dX6_copyFrom_41 rfl (lv_at hl 1 rfl) ?_
  refine r_gr E hw j 1 (18 + 3 * j + 1) (N := 13) (C := RX6) (T := TX6) (st_lt hs_j) (st_c hs_j) (st_N hs_j) (by decide) (st_R hs_j (k := 1) (by decide)) iw_6 rfl lf_RX6_15 dX6_copyFrom_42 ?_
  refine r_al E hw (18 + 3 * j + 1) 50 (st_a1 hs_j (by decide)) (st_a2 hs_j (by decide)) (st_a3 hs_j (by decide)) (st_L1 hs_j) dX6_copyFrom_45 ?_
  refine r_min E hl.1 lm_RX6_52 (by decide) (Nat.le_of_ble_eq_true rfl) dX6_copyFrom_46 ?_
  obtain ⟨b4, h⟩ := cp_some h
  obtain ⟨V3, eV3, h⟩ := lt_some h
  refine r_cp E hw (18 + 3 * j + 1) (18 + 3 * i + 1) 50 50 hl.1 (st_a1 hs_j (by decide)) (st_a2 hs_j (by decide)) (st_a3 hs_j (by decide)) (st_a4 hs_j (by decide)) (st_L1 hs_j) (st_a1 hs_i (by decide)) (st_a2 hs_i (by decide)) (st_a3 hs_i (by decide)) (st_a4 hs_i (by decide)) (st_L1 hs_i) lm_RX6_58 b4 eV3 dX6_copyFrom_49 (by decide) (Nat.le_of_ble_eq_true rfl) (fun H locs hw => ?_)
  refine lv_aload_n hx hb dX6_copyFrom_52 rfl (lv_at hl 1 rfl) ?_
  refine r_gr E hw j 2 (18 + 3 * j + 2) (N := 13) (C := RX6) (T := TX6) (st_lt hs_j) (st_c hs_j) (st_N hs_j) (by decide) (st_R hs_j (k := 2) (by decide)) iw_6 rfl lf_RX6_18 dX6_copyFrom_53 ?_
  refine lv_iconst (v := (0 : Int32)) hx hb dX6_copyFrom_56 (by decide) ?_
  refine lv_aload_n hx hb dX6_copyFrom_57 rfl (lv_at hl 0 rfl) ?_
  refine r_gr E hw i 2 (18 + 3 * i + 2) (N := 13) (C := RX6) (T := TX6) (st_lt hs_i) (st_c hs_i) (st_N hs_i) (by decide) (st_R hs_i (k := 2) (by decide)) iw_6 rfl lf_RX6_18 dX6_copyFrom_58 ?_
  refine lv_iconst (v := (0 : Int32)) hx hb dX6_copyFrom_61 (by decide) ?_
  refine lv_aload_n hx hb dX6_copyFrom_62 rfl (lv_at hl 0 rfl) ?_
  refine r_gr E hw i 2 (18 + 3 * i + 2) (N := 13) (C := RX6) (T := TX6) (st_lt hs_i) (st_c hs_i) (st_N hs_i) (by decide) (st_R hs_i (k := 2) (by decide)) iw_6 rfl lf_RX6_18 dX6_copyFrom_63 ?_
  refine r_al E hw (18 + 3 * i + 2) 60 (st_a1 hs_i (by decide)) (st_a2 hs_i (by decide)) (st_a3 hs_i (by decide)) (st_L2 hs_i) dX6_copyFrom_66 ?_
  refine lv_aload_n hx hb dX6_copyFrom_67 rfl (lv_at hl 1 rfl) ?_
  refine r_gr E hw j 2 (18 + 3 * j + 2) (N := 13) (C := RX6) (T := TX6) (st_lt hs_j) (st_c hs_j) (st_N hs_j) (by decide) (st_R hs_j (k := 2) (by decide)) iw_6 rfl lf_RX6_18 dX6_copyFrom_68 ?_
  refine r_al E hw (18 + 3 * j + 2) 60 (st_a1 hs_j (by decide)) (st_a2 hs_j (by decide)) (st_a3 hs_j (by decide)) (st_L2 hs_j) dX6_copyFrom_71 ?_
  refine r_min E hl.1 lm_RX6_52 (by decide) (Nat.le_of_ble_eq_true rfl) dX6_copyFrom_72 ?_
  obtain ⟨b6, h⟩ := cp_some h
  obtain ⟨V5, eV5, h⟩ := lt_some h
  refine r_cp E hw (18 + 3 * j + 2) (18 + 3 * i + 2) 60 60 hl.1 (st_a1 hs_j (by decide)) (st_a2 hs_j (by decide)) (st_a3 hs_j (by decide)) (st_a4 hs_j (by decide)) (st_L2 hs_j) (st_a1 hs_i (by decide)) (st_a2 hs_i (by decide)) (st_a3 hs_i (by decide)) (st_a4 hs_i (by decide)) (st_L2 hs_i) lm_RX6_58 b6 eV5 dX6_copyFrom_75 (by decide) (Nat.le_of_ble_eq_true rfl) (fun H locs hw => ?_)
  refine lv_aload_n hx hb dX6_copyFrom_78 rfl (lv_at hl 0 rfl) ?_
  refine lv_aload_n hx hb dX6_copyFrom_79 rfl (lv_at hl 1 rfl) ?_
  refine r_gi E hw j 3 (N := 13) (C := RX6) (T := TX6) (st_lt hs_j) (st_c hs_j) (st_N hs_j) (by decide) (st_n hs_j (k := 3) (by decide)) iw_6 rfl lf_RX6_21 dX6_copyFrom_80 ?_
  obtain ⟨V7, eV7, h⟩ := lt_some h
  refine r_pi E hw i 3 (N := 13) (C := RX6) (T := TX6) (ty0 := tyX6) (ty := .int) (st_lt hs_i) (st_c hs_i) (st_N hs_i) (by decide) (st_n hs_i (k := 3) (by decide)) iw_6 rfl tyX6_ok nmX6 rfl rfl (vp_nar_int _) rfl lf_RX6_21 eV7 dX6_copyFrom_83 (fun H locs hw => ?_)
  refine lv_aload_n hx hb dX6_copyFrom_86 rfl (lv_at hl 0 rfl) ?_
  refine lv_aload_n hx hb dX6_copyFrom_87 rfl (lv_at hl 1 rfl) ?_
  refine r_gi E hw j 4 (N := 13) (C := RX6) (T := TX6) (st_lt hs_j) (st_c hs_j) (st_N hs_j) (by decide) (st_n hs_j (k := 4) (by decide)) iw_6 rfl lf_RX6_25 dX6_copyFrom_88 ?_
  obtain ⟨V8, eV8, h⟩ := lt_some h
  refine r_pi E hw i 4 (N := 13) (C := RX6) (T := TX6) (ty0 := tyX6) (ty := .int) (st_lt hs_i) (st_c hs_i) (st_N hs_i) (by decide) (st_n hs_i (k := 4) (by decide)) iw_6 rfl tyX6_ok nmX6 rfl rfl (vp_nar_int _) rfl lf_RX6_25 eV8 dX6_copyFrom_91 (fun H locs hw => ?_)
  refine lv_aload_n hx hb dX6_copyFrom_94 rfl (lv_at hl 0 rfl) ?_
  refine lv_aload_n hx hb dX6_copyFrom_95 rfl (lv_at hl 1 rfl) ?_
  refine r_gi E hw j 5 (N := 13) (C := RX6) (T := TX6) (st_lt hs_j) (st_c hs_j) (st_N hs_j) (by decide) (st_n hs_j (k := 5) (by decide)) iw_6 rfl lf_RX6_28 dX6_copyFrom_96 ?_
  obtain ⟨V9, eV9, h⟩ := lt_some h
  refine r_pi E hw i 5 (N := 13) (C := RX6) (T := TX6) (ty0 := tyX6) (ty := .int) (st_lt hs_i) (st_c hs_i) (st_N hs_i) (by decide) (st_n hs_i (k := 5) (by decide)) iw_6 rfl tyX6_ok nmX6 rfl rfl (vp_nar_int _) rfl lf_RX6_28 eV9 dX6_copyFrom_99 (fun H locs hw => ?_)
  refine lv_aload_n hx hb dX6_copyFrom_102 rfl (lv_at hl 0 rfl) ?_
  refine lv_aload_n hx hb dX6_copyFrom_103 rfl (lv_at hl 1 rfl) ?_
  refine r_gi E hw j 6 (N := 13) (C := RX6) (T := TX6) (st_lt hs_j) (st_c hs_j) (st_N hs_j) (by decide) (st_n hs_j (k := 6) (by decide)) iw_6 rfl lf_RX6_31 dX6_copyFrom_104 ?_
  obtain ⟨V10, eV10, h⟩ := lt_some h
  refine r_pi E hw i 6 (N := 13) (C := RX6) (T := TX6) (ty0 := tyX6) (ty := .int) (st_lt hs_i) (st_c hs_i) (st_N hs_i) (by decide) (st_n hs_i (k := 6) (by decide)) iw_6 rfl tyX6_ok nmX6 rfl rfl (vp_nar_int _) rfl lf_RX6_31 eV10 dX6_copyFrom_107 (fun H locs hw => ?_)
  refine lv_aload_n hx hb dX6_copyFrom_110 rfl (lv_at hl 0 rfl) ?_
  refine lv_aload_n hx hb dX6_copyFrom_111 rfl (lv_at hl 1 rfl) ?_
  refine r_gi E hw j 7 (N := 13) (C := RX6) (T := TX6) (st_lt hs_j) (st_c hs_j) (st_N hs_j) (by decide) (st_n hs_j (k := 7) (by decide)) iw_6 rfl lf_RX6_34 dX6_copyFrom_112 ?_
  obtain ⟨V11, eV11, h⟩ := lt_some h
  refine r_pi E hw i 7 (N := 13) (C := RX6) (T := TX6) (ty0 := tyX6) (ty := .int) (st_lt hs_i) (st_c hs_i) (st_N hs_i) (by decide) (st_n hs_i (k := 7) (by decide)) iw_6 rfl tyX6_ok nmX6 rfl rfl (vp_nar_int _) rfl lf_RX6_34 eV11 dX6_copyFrom_115 (fun H locs hw => ?_)
  refine lv_aload_n hx hb dX6_copyFrom_118 rfl (lv_at hl 0 rfl) ?_
  refine lv_aload_n hx hb dX6_copyFrom_119 rfl (lv_at hl 1 rfl) ?_
  refine r_gi E hw j 8 (N := 13) (C := RX6) (T := TX6) (st_lt hs_j) (st_c hs_j) (st_N hs_j) (by decide) (st_n hs_j (k := 8) (by decide)) iw_6 rfl lf_RX6_37 dX6_copyFrom_120 ?_
  obtain ⟨V12, eV12, h⟩ := lt_some h
  refine r_pi E hw i 8 (N := 13) (C := RX6) (T := TX6) (ty0 := tyX6) (ty := .int) (st_lt hs_i) (st_c hs_i) (st_N hs_i) (by decide) (st_n hs_i (k := 8) (by decide)) iw_6 rfl tyX6_ok nmX6 rfl rfl (vp_nar_int _) rfl lf_RX6_37 eV12 dX6_copyFrom_123 (fun H locs hw => ?_)
  refine lv_aload_n hx hb dX6_copyFrom_126 rfl (lv_at hl 0 rfl) ?_
  refine lv_aload_n hx hb dX6_copyFrom_127 rfl (lv_at hl 1 rfl) ?_
  refine r_gi E hw j 9 (N := 13) (C := RX6) (T := TX6) (st_lt hs_j) (st_c hs_j) (st_N hs_j) (by decide) (st_n hs_j (k := 9) (by decide)) iw_6 rfl lf_RX6_40 dX6_copyFrom_128 ?_
  obtain ⟨V13, eV13, h⟩ := lt_some h
  refine r_pi E hw i 9 (N := 13) (C := RX6) (T := TX6) (ty0 := tyX6) (ty := .int) (st_lt hs_i) (st_c hs_i) (st_N hs_i) (by decide) (st_n hs_i (k := 9) (by decide)) iw_6 rfl tyX6_ok nmX6 rfl rfl (vp_nar_int _) rfl lf_RX6_40 eV13 dX6_copyFrom_131 (fun H locs hw => ?_)
  refine lv_aload_n hx hb dX6_copyFrom_134 rfl (lv_at hl 0 rfl) ?_
  refine lv_aload_n hx hb dX6_copyFrom_135 rfl (lv_at hl 1 rfl) ?_
  refine r_gi E hw j 10 (N := 13) (C := RX6) (T := TX6) (st_lt hs_j) (st_c hs_j) (st_N hs_j) (by decide) (st_n hs_j (k := 10) (by decide)) iw_6 rfl lf_RX6_43 dX6_copyFrom_136 ?_
  obtain ⟨V14, eV14, h⟩ := lt_some h
  refine r_pi E hw i 10 (N := 13) (C := RX6) (T := TX6) (ty0 := tyX6) (ty := .int) (st_lt hs_i) (st_c hs_i) (st_N hs_i) (by decide) (st_n hs_i (k := 10) (by decide)) iw_6 rfl tyX6_ok nmX6 rfl rfl (vp_nar_int _) rfl lf_RX6_43 eV14 dX6_copyFrom_139 (fun H locs hw => ?_)
  refine lv_aload_n hx hb dX6_copyFrom_142 rfl (lv_at hl 0 rfl) ?_
  refine lv_aload_n hx hb dX6_copyFrom_143 rfl (lv_at hl 1 rfl) ?_
  refine r_gi E hw j 11 (N := 13) (C := RX6) (T := TX6) (st_lt hs_j) (st_c hs_j) (st_N hs_j) (by decide) (st_n hs_j (k := 11) (by decide)) iw_6 rfl lf_RX6_46 dX6_copyFrom_144 ?_
  obtain ⟨V15, eV15, h⟩ := lt_some h
  refine r_pi E hw i 11 (N := 13) (C := RX6) (T := TX6) (ty0 := tyX6) (ty := .int) (st_lt hs_i) (st_c hs_i) (st_N hs_i) (by decide) (st_n hs_i (k := 11) (by decide)) iw_6 rfl tyX6_ok nmX6 rfl rfl (vp_nar_int _) rfl lf_RX6_46 eV15 dX6_copyFrom_147 (fun H locs hw => ?_)
  refine lv_aload_n hx hb dX6_copyFrom_150 rfl (lv_at hl 0 rfl) ?_
  refine lv_aload_n hx hb dX6_copyFrom_151 rfl (lv_at hl 1 rfl) ?_
  refine r_gi E hw j 12 (N := 13) (C := RX6) (T := TX6) (st_lt hs_j) (st_c hs_j) (st_N hs_j) (by decide) (st_n hs_j (k := 12) (by decide)) iw_6 rfl lf_RX6_49 dX6_copyFrom_152 ?_
  obtain ⟨V16, eV16, h⟩ := lt_some h
  refine r_pi E hw i 12 (N := 13) (C := RX6) (T := TX6) (ty0 := tyX6) (ty := .int) (st_lt hs_i) (st_c hs_i) (st_N hs_i) (by decide) (st_n hs_i (k := 12) (by decide)) iw_6 rfl tyX6_ok nmX6 rfl rfl (vp_nar_int _) rfl lf_RX6_49 eV16 dX6_copyFrom_155 (fun H locs hw => ?_)
  have h := Option.some.inj h
  subst h
  rw [kr]
  exact r_rv E hw dX6_copyFrom_158
/-! ===== AllSawIt$State.ofHouse(II)I ===== -/
theorem dX6_ofHouse_0 : decode cX6_ofHouse 0 = .ok (.iload_n 1, 1) := by decide +kernel
theorem dX6_ofHouse_1 : decode cX6_ofHouse 1 = .ok (.bipush 7, 2) := by decide +kernel
theorem dX6_ofHouse_3 : decode cX6_ofHouse 3 = .ok (.imul, 1) := by decide +kernel
theorem dX6_ofHouse_4 : decode cX6_ofHouse 4 = .ok (.iload_n 2, 1) := by decide +kernel
theorem dX6_ofHouse_5 : decode cX6_ofHouse 5 = .ok (.iadd, 1) := by decide +kernel
theorem dX6_ofHouse_6 : decode cX6_ofHouse 6 = .ok (.istore_n 3, 1) := by decide +kernel
theorem dX6_ofHouse_7 : decode cX6_ofHouse 7 = .ok (.iload_n 3, 1) := by decide +kernel
theorem dX6_ofHouse_8 : decode cX6_ofHouse 8 = .ok (.ifCond .lt 21, 3) := by decide +kernel
theorem dX6_ofHouse_11 : decode cX6_ofHouse 11 = .ok (.iload_n 3, 1) := by decide +kernel
theorem dX6_ofHouse_12 : decode cX6_ofHouse 12 = .ok (.aload_n 0, 1) := by decide +kernel
theorem dX6_ofHouse_13 : decode cX6_ofHouse 13 = .ok (.getfield 11, 3) := by decide +kernel
theorem dX6_ofHouse_16 : decode cX6_ofHouse 16 = .ok (.arraylength, 1) := by decide +kernel
theorem dX6_ofHouse_17 : decode cX6_ofHouse 17 = .ok (.if_icmp .ge 12, 3) := by decide +kernel
theorem dX6_ofHouse_20 : decode cX6_ofHouse 20 = .ok (.aload_n 0, 1) := by decide +kernel
theorem dX6_ofHouse_21 : decode cX6_ofHouse 21 = .ok (.getfield 11, 3) := by decide +kernel
theorem dX6_ofHouse_24 : decode cX6_ofHouse 24 = .ok (.iload_n 3, 1) := by decide +kernel
theorem dX6_ofHouse_25 : decode cX6_ofHouse 25 = .ok (.iaload, 1) := by decide +kernel
theorem dX6_ofHouse_26 : decode cX6_ofHouse 26 = .ok (.goto 4, 3) := by decide +kernel
theorem dX6_ofHouse_29 : decode cX6_ofHouse 29 = .ok (.iconst 0, 1) := by decide +kernel
theorem dX6_ofHouse_30 : decode cX6_ofHouse 30 = .ok (.ireturn, 1) := by decide +kernel
noncomputable def fX6_ofHouse (V : VT) (i : Nat) (x1 : Int32) (x2 : Int32) : Option Int32 := lt_ ((x1 * (7 : Int32)) + x2) fun y1 => if y1 < 0 then (some (0 : Int32)) else (if (nI 56) ≤ y1 then (some (0 : Int32)) else (rd_ y1 56 (some (V (18 + 3 * i + 0) y1.toNatClampNeg))))
set_option maxHeartbeats 4000000 in
set_option maxRecDepth 100000 in
theorem kX6_ofHouse {l : Launch} {G : GT} {B : BGt} (hB : BGok B) {V : VT} {i : Nat} (hs_i : isSt i) {x1 : Int32} {x2 : Int32} {r : Int32} (h : fX6_ofHouse V i x1 x2 = some r) : CI l G B yX6_ofHouse (.code yX6_ofHouse cX6_ofHouse 4 (some .int)) 2 [.ref (G.2.2 i), .int x1, .int x2] V r V := by
  intro sz
  refine met_of (Qs := fun sz => QI G sz r V) hB (by decide) (Nat.le_of_ble_eq_true rfl) ?_ sz
  intro p e s m args below meth c ls E hw hl
  have hx := en_x E
  have hb := en_b E
  generalize hQ : MQ _ _ _ _ _ _ _ = Q
  have kr : Q = MQ below (QI G s.heap.size r V) args s 0 0 (gA G s.heap.size) := hQ.symm
  have hl : lv_has ls 4 [(0, .ref (G.2.2 i)), (1, .int x1), (2, .int x2)] := hl
  obtain ⟨H, eH⟩ : ∃ H, H = s.heap := ⟨_, rfl⟩
  obtain ⟨locs, elocs⟩ : ∃ z : List Loc, z = [] := ⟨_, rfl⟩
  have hw : HW G s.heap V H locs := by rw [eH, elocs]; exact hw
  show W p l e _ s m args below meth c s.heap [] 0 0 Q (F0 m 0 ls [])
  rw [← eH, ← elocs]
  unfold fX6_ofHouse at h
  refine lv_iload_n hx hb dX6_ofHouse_0 rfl (lv_at hl 1 rfl) ?_
  refine lv_bipush (v := (7 : Int32)) hx hb dX6_ofHouse_1 (by decide) ?_
  refine lv_imul hx hb dX6_ofHouse_3 ?_
  refine lv_iload_n hx hb dX6_ofHouse_4 rfl (lv_at hl 2 rfl) ?_
  refine lv_iadd hx hb dX6_ofHouse_5 ?_
  obtain ⟨y1, ey1, h⟩ := lt_some h
  refine lv_eqi ey1 ?_
  refine lv_istore_n (lv' := [(3, .int y1), (0, .ref (G.2.2 i)), (1, .int x1), (2, .int x2)]) hx hb dX6_ofHouse_6 rfl hl (by decide) rfl (fun ls hl => ?_)
  refine lv_iload_n hx hb dX6_ofHouse_7 rfl (lv_at hl 0 rfl) ?_
  refine lv_if_lt (tgt := 29) hx hb dX6_ofHouse_8 (by decide) (fun c4 => ?_) (fun c4 => ?_)
  · rw [if_pos c4] at h
    refine lv_iconst (v := (0 : Int32)) hx hb dX6_ofHouse_29 (by decide) ?_
    have h := Option.some.inj h
    subst h
    rw [kr]
    exact r_ri E hw dX6_ofHouse_30
  · rw [if_neg c4] at h
    refine lv_iload_n hx hb dX6_ofHouse_11 rfl (lv_at hl 0 rfl) ?_
    refine lv_aload_n hx hb dX6_ofHouse_12 rfl (lv_at hl 1 rfl) ?_
    refine r_gr E hw i 0 (18 + 3 * i + 0) (N := 13) (C := RX6) (T := TX6) (st_lt hs_i) (st_c hs_i) (st_N hs_i) (by decide) (st_R hs_i (k := 0) (by decide)) iw_6 rfl lf_RX6_11 dX6_ofHouse_13 ?_
    refine r_al E hw (18 + 3 * i + 0) 56 (st_a1 hs_i (by decide)) (st_a2 hs_i (by decide)) (st_a3 hs_i (by decide)) (st_L0 hs_i) dX6_ofHouse_16 ?_
    refine lv_icmp_ge (tgt := 29) hx hb dX6_ofHouse_17 (by decide) (fun c3 => ?_) (fun c3 => ?_)
    · rw [if_pos c3] at h
      refine lv_iconst (v := (0 : Int32)) hx hb dX6_ofHouse_29 (by decide) ?_
      have h := Option.some.inj h
      subst h
      rw [kr]
      exact r_ri E hw dX6_ofHouse_30
    · rw [if_neg c3] at h
      refine lv_aload_n hx hb dX6_ofHouse_20 rfl (lv_at hl 1 rfl) ?_
      refine r_gr E hw i 0 (18 + 3 * i + 0) (N := 13) (C := RX6) (T := TX6) (st_lt hs_i) (st_c hs_i) (st_N hs_i) (by decide) (st_R hs_i (k := 0) (by decide)) iw_6 rfl lf_RX6_11 dX6_ofHouse_21 ?_
      refine lv_iload_n hx hb dX6_ofHouse_24 rfl (lv_at hl 0 rfl) ?_
      obtain ⟨b2, h⟩ := rd_some h
      refine r_ia E hw (18 + 3 * i + 0) 56 (st_a1 hs_i (by decide)) (st_a2 hs_i (by decide)) (st_a3 hs_i (by decide)) (st_a4 hs_i (by decide)) (st_L0 hs_i) b2 dX6_ofHouse_25 ?_
      refine lv_goto (tgt := 30) hx hb dX6_ofHouse_26 (by decide) ?_
      have h := Option.some.inj h
      subst h
      rw [kr]
      exact r_ri E hw dX6_ofHouse_30
/-! ===== AllSawIt$State.setHouse(III)V ===== -/
theorem dX6_setHouse_0 : decode cX6_setHouse 0 = .ok (.iload_n 1, 1) := by decide +kernel
theorem dX6_setHouse_1 : decode cX6_setHouse 1 = .ok (.bipush 7, 2) := by decide +kernel
theorem dX6_setHouse_3 : decode cX6_setHouse 3 = .ok (.imul, 1) := by decide +kernel
theorem dX6_setHouse_4 : decode cX6_setHouse 4 = .ok (.iload_n 2, 1) := by decide +kernel
theorem dX6_setHouse_5 : decode cX6_setHouse 5 = .ok (.iadd, 1) := by decide +kernel
theorem dX6_setHouse_6 : decode cX6_setHouse 6 = .ok (.istore 4, 2) := by decide +kernel
theorem dX6_setHouse_8 : decode cX6_setHouse 8 = .ok (.iload 4, 2) := by decide +kernel
theorem dX6_setHouse_10 : decode cX6_setHouse 10 = .ok (.ifCond .lt 21, 3) := by decide +kernel
theorem dX6_setHouse_13 : decode cX6_setHouse 13 = .ok (.iload 4, 2) := by decide +kernel
theorem dX6_setHouse_15 : decode cX6_setHouse 15 = .ok (.aload_n 0, 1) := by decide +kernel
theorem dX6_setHouse_16 : decode cX6_setHouse 16 = .ok (.getfield 11, 3) := by decide +kernel
theorem dX6_setHouse_19 : decode cX6_setHouse 19 = .ok (.arraylength, 1) := by decide +kernel
theorem dX6_setHouse_20 : decode cX6_setHouse 20 = .ok (.if_icmp .ge 11, 3) := by decide +kernel
theorem dX6_setHouse_23 : decode cX6_setHouse 23 = .ok (.aload_n 0, 1) := by decide +kernel
theorem dX6_setHouse_24 : decode cX6_setHouse 24 = .ok (.getfield 11, 3) := by decide +kernel
theorem dX6_setHouse_27 : decode cX6_setHouse 27 = .ok (.iload 4, 2) := by decide +kernel
theorem dX6_setHouse_29 : decode cX6_setHouse 29 = .ok (.iload_n 3, 1) := by decide +kernel
theorem dX6_setHouse_30 : decode cX6_setHouse 30 = .ok (.iastore, 1) := by decide +kernel
theorem dX6_setHouse_31 : decode cX6_setHouse 31 = .ok (.return_, 1) := by decide +kernel
noncomputable def fX6_setHouse (V : VT) (i : Nat) (x1 : Int32) (x2 : Int32) (x3 : Int32) : Option VT := lt_ ((x1 * (7 : Int32)) + x2) fun y1 => if y1 < 0 then (some V) else (if (nI 56) ≤ y1 then (some V) else (rd_ y1 56 (lt_ (va_up V (18 + 3 * i + 0) (upd (V (18 + 3 * i + 0)) y1.toNatClampNeg x3)) fun V3 => some V3)))
set_option maxHeartbeats 4000000 in
set_option maxRecDepth 100000 in
theorem kX6_setHouse {l : Launch} {G : GT} {B : BGt} (hB : BGok B) {V : VT} {i : Nat} (hs_i : isSt i) {x1 : Int32} {x2 : Int32} {x3 : Int32} {r : VT} (h : fX6_setHouse V i x1 x2 x3 = some r) : CV l G B yX6_setHouse (.code yX6_setHouse cX6_setHouse 5 none) 2 [.ref (G.2.2 i), .int x1, .int x2, .int x3] V r := by
  intro sz
  refine met_of (Qs := fun sz => QV G sz r) hB (by decide) (Nat.le_of_ble_eq_true rfl) ?_ sz
  intro p e s m args below meth c ls E hw hl
  have hx := en_x E
  have hb := en_b E
  generalize hQ : MQ _ _ _ _ _ _ _ = Q
  have kr : Q = MQ below (QV G s.heap.size r) args s 0 0 (gA G s.heap.size) := hQ.symm
  have hl : lv_has ls 5 [(0, .ref (G.2.2 i)), (1, .int x1), (2, .int x2), (3, .int x3)] := hl
  obtain ⟨H, eH⟩ : ∃ H, H = s.heap := ⟨_, rfl⟩
  obtain ⟨locs, elocs⟩ : ∃ z : List Loc, z = [] := ⟨_, rfl⟩
  have hw : HW G s.heap V H locs := by rw [eH, elocs]; exact hw
  show W p l e _ s m args below meth c s.heap [] 0 0 Q (F0 m 0 ls [])
  rw [← eH, ← elocs]
  unfold fX6_setHouse at h
  refine lv_iload_n hx hb dX6_setHouse_0 rfl (lv_at hl 1 rfl) ?_
  refine lv_bipush (v := (7 : Int32)) hx hb dX6_setHouse_1 (by decide) ?_
  refine lv_imul hx hb dX6_setHouse_3 ?_
  refine lv_iload_n hx hb dX6_setHouse_4 rfl (lv_at hl 2 rfl) ?_
  refine lv_iadd hx hb dX6_setHouse_5 ?_
  obtain ⟨y1, ey1, h⟩ := lt_some h
  refine lv_eqi ey1 ?_
  refine lv_istore (lv' := [(4, .int y1), (0, .ref (G.2.2 i)), (1, .int x1), (2, .int x2), (3, .int x3)]) hx hb dX6_setHouse_6 hl (by decide) rfl (fun ls hl => ?_)
  refine lv_iload hx hb dX6_setHouse_8 (lv_at hl 0 rfl) ?_
  refine lv_if_lt (tgt := 31) hx hb dX6_setHouse_10 (by decide) (fun c5 => ?_) (fun c5 => ?_)
  · rw [if_pos c5] at h
    have h := Option.some.inj h
    subst h
    rw [kr]
    exact r_rv E hw dX6_setHouse_31
  · rw [if_neg c5] at h
    refine lv_iload hx hb dX6_setHouse_13 (lv_at hl 0 rfl) ?_
    refine lv_aload_n hx hb dX6_setHouse_15 rfl (lv_at hl 1 rfl) ?_
    refine r_gr E hw i 0 (18 + 3 * i + 0) (N := 13) (C := RX6) (T := TX6) (st_lt hs_i) (st_c hs_i) (st_N hs_i) (by decide) (st_R hs_i (k := 0) (by decide)) iw_6 rfl lf_RX6_11 dX6_setHouse_16 ?_
    refine r_al E hw (18 + 3 * i + 0) 56 (st_a1 hs_i (by decide)) (st_a2 hs_i (by decide)) (st_a3 hs_i (by decide)) (st_L0 hs_i) dX6_setHouse_19 ?_
    refine lv_icmp_ge (tgt := 31) hx hb dX6_setHouse_20 (by decide) (fun c4 => ?_) (fun c4 => ?_)
    · rw [if_pos c4] at h
      have h := Option.some.inj h
      subst h
      rw [kr]
      exact r_rv E hw dX6_setHouse_31
    · rw [if_neg c4] at h
      refine lv_aload_n hx hb dX6_setHouse_23 rfl (lv_at hl 1 rfl) ?_
      refine r_gr E hw i 0 (18 + 3 * i + 0) (N := 13) (C := RX6) (T := TX6) (st_lt hs_i) (st_c hs_i) (st_N hs_i) (by decide) (st_R hs_i (k := 0) (by decide)) iw_6 rfl lf_RX6_11 dX6_setHouse_24 ?_
      refine lv_iload hx hb dX6_setHouse_27 (lv_at hl 0 rfl) ?_
      refine lv_iload_n hx hb dX6_setHouse_29 rfl (lv_at hl 4 rfl) ?_
      obtain ⟨b2, h⟩ := rd_some h
      obtain ⟨V3, eV3, h⟩ := lt_some h
      refine r_is E hw (18 + 3 * i + 0) 56 (st_a1 hs_i (by decide)) (st_a2 hs_i (by decide)) (st_a3 hs_i (by decide)) (st_a4 hs_i (by decide)) (st_L0 hs_i) b2 eV3 dX6_setHouse_30 (fun H locs hw => ?_)
      have h := Option.some.inj h
      subst h
      rw [kr]
      exact r_rv E hw dX6_setHouse_31
/-! ===== AllSawIt$State.allHouses()I ===== -/
theorem dX6_allHouses_0 : decode cX6_allHouses 0 = .ok (.iconst 1, 1) := by decide +kernel
theorem dX6_allHouses_1 : decode cX6_allHouses 1 = .ok (.aload_n 0, 1) := by decide +kernel
theorem dX6_allHouses_2 : decode cX6_allHouses 2 = .ok (.getfield 21, 3) := by decide +kernel
theorem dX6_allHouses_5 : decode cX6_allHouses 5 = .ok (.ishl, 1) := by decide +kernel
theorem dX6_allHouses_6 : decode cX6_allHouses 6 = .ok (.iconst 1, 1) := by decide +kernel
theorem dX6_allHouses_7 : decode cX6_allHouses 7 = .ok (.isub, 1) := by decide +kernel
theorem dX6_allHouses_8 : decode cX6_allHouses 8 = .ok (.ireturn, 1) := by decide +kernel
noncomputable def fX6_allHouses (V : VT) (i : Nat) : Option Int32 := some (((1 : Int32) <<< ((V i 3) &&& 31)) - (1 : Int32))
set_option maxHeartbeats 4000000 in
set_option maxRecDepth 100000 in
theorem kX6_allHouses {l : Launch} {G : GT} {B : BGt} (hB : BGok B) {V : VT} {i : Nat} (hs_i : isSt i) {r : Int32} (h : fX6_allHouses V i = some r) : CI l G B yX6_allHouses (.code yX6_allHouses cX6_allHouses 1 (some .int)) 2 [.ref (G.2.2 i)] V r V := by
  intro sz
  refine met_of (Qs := fun sz => QI G sz r V) hB (by decide) (Nat.le_of_ble_eq_true rfl) ?_ sz
  intro p e s m args below meth c ls E hw hl
  have hx := en_x E
  have hb := en_b E
  generalize hQ : MQ _ _ _ _ _ _ _ = Q
  have kr : Q = MQ below (QI G s.heap.size r V) args s 0 0 (gA G s.heap.size) := hQ.symm
  have hl : lv_has ls 1 [(0, .ref (G.2.2 i))] := hl
  obtain ⟨H, eH⟩ : ∃ H, H = s.heap := ⟨_, rfl⟩
  obtain ⟨locs, elocs⟩ : ∃ z : List Loc, z = [] := ⟨_, rfl⟩
  have hw : HW G s.heap V H locs := by rw [eH, elocs]; exact hw
  show W p l e _ s m args below meth c s.heap [] 0 0 Q (F0 m 0 ls [])
  rw [← eH, ← elocs]
  unfold fX6_allHouses at h
  refine lv_iconst (v := (1 : Int32)) hx hb dX6_allHouses_0 (by decide) ?_
  refine lv_aload_n hx hb dX6_allHouses_1 rfl (lv_at hl 0 rfl) ?_
  refine r_gi E hw i 3 (N := 13) (C := RX6) (T := TX6) (st_lt hs_i) (st_c hs_i) (st_N hs_i) (by decide) (st_n hs_i (k := 3) (by decide)) iw_6 rfl lf_RX6_21 dX6_allHouses_2 ?_
  refine lv_ishl hx hb dX6_allHouses_5 ?_
  refine lv_iconst (v := (1 : Int32)) hx hb dX6_allHouses_6 (by decide) ?_
  refine lv_isub hx hb dX6_allHouses_7 ?_
  have h := Option.some.inj h
  subst h
  rw [kr]
  exact r_ri E hw dX6_allHouses_8
/-! ===== AllSawIt$State.total(I)I ===== -/
theorem dX6_total_0 : decode cX6_total 0 = .ok (.iconst 0, 1) := by decide +kernel
theorem dX6_total_1 : decode cX6_total 1 = .ok (.istore_n 2, 1) := by decide +kernel
theorem dX6_total_2 : decode cX6_total 2 = .ok (.iconst 0, 1) := by decide +kernel
theorem dX6_total_3 : decode cX6_total 3 = .ok (.istore_n 3, 1) := by decide +kernel
theorem dX6_total_4 : decode cX6_total 4 = .ok (.iload_n 3, 1) := by decide +kernel
theorem dX6_total_5 : decode cX6_total 5 = .ok (.aload_n 0, 1) := by decide +kernel
theorem dX6_total_6 : decode cX6_total 6 = .ok (.getfield 21, 3) := by decide +kernel
theorem dX6_total_9 : decode cX6_total 9 = .ok (.if_icmp .ge 18, 3) := by decide +kernel
theorem dX6_total_12 : decode cX6_total 12 = .ok (.iload_n 2, 1) := by decide +kernel
theorem dX6_total_13 : decode cX6_total 13 = .ok (.aload_n 0, 1) := by decide +kernel
theorem dX6_total_14 : decode cX6_total 14 = .ok (.iload_n 3, 1) := by decide +kernel
theorem dX6_total_15 : decode cX6_total 15 = .ok (.iload_n 1, 1) := by decide +kernel
theorem dX6_total_16 : decode cX6_total 16 = .ok (.invokevirtual 64, 3) := by decide +kernel
theorem dX6_total_19 : decode cX6_total 19 = .ok (.iadd, 1) := by decide +kernel
theorem dX6_total_20 : decode cX6_total 20 = .ok (.istore_n 2, 1) := by decide +kernel
theorem dX6_total_21 : decode cX6_total 21 = .ok (.iinc 3 1, 3) := by decide +kernel
theorem dX6_total_24 : decode cX6_total 24 = .ok (.goto (-20), 3) := by decide +kernel
theorem dX6_total_27 : decode cX6_total 27 = .ok (.iload_n 2, 1) := by decide +kernel
theorem dX6_total_28 : decode cX6_total 28 = .ok (.ireturn, 1) := by decide +kernel
noncomputable def fX6_total_L4 (V : VT) (i : Nat) (u1 : Int32) (u2 : Int32) (u3 : Int32) : Option ((Int32 × Int32 × Int32) ⊕ Int32) := if (V i 3) ≤ u3 then (some (.inr (u2))) else (ob_R (fX6_ofHouse V i u3 u1) fun y2 => lt_ (u2 + y2) fun y3 => lt_ (u3 + (1 : Int32)) fun y4 => some (.inl (u1, y3, y4)))
noncomputable def iX6_total_L4 (V : VT) (i : Nat) : (Int32 × Int32 × Int32) → Option ((Int32 × Int32 × Int32) ⊕ Int32) := fun q => fX6_total_L4 V i (q.1) (q.2.1) (q.2.2)
noncomputable def fX6_total (V : VT) (i : Nat) (x1 : Int32) : Option Int32 := ob_R (it_ (iX6_total_L4 V i) FV (x1, (0 : Int32), (0 : Int32))) fun x7 => some x7
set_option maxHeartbeats 4000000 in
set_option maxRecDepth 100000 in
theorem wX6_total_L4 {p : Program} {l : Launch} {e : Env} {s : State} {m : MethodId} {args : Array Value} {below : List Frame} {meth : Method} {c : Code} {G : GT} {B : BGt} {Q : State → Prop} (E : En p s m args c meth cX6_total 4 RX6 (some .int) G B) {i : Nat} (hs_i : isSt i) {V : VT} {x : Int32} (kr : ∀ q : Int32, x = q → Q = MQ below (QI G s.heap.size q V) args s 0 0 (gA G s.heap.size)) : ∀ (n : Nat) (q : (Int32 × Int32 × Int32)), it_ (iX6_total_L4 V i) n q = some x → ∀ (H : Heap) (locs : List Loc) (ls : Array Slot), HW G s.heap V H locs → lv_has ls 4 [(0, .ref (G.2.2 i)), (1, .int (q.1)), (2, .int (q.2.1)), (3, .int (q.2.2))] → W p l e (rmD 3) s m args below meth c H locs 0 0 Q (F0 m 4 ls []) := by
  have hx := en_x E
  have hb := en_b E
  have hB := en_B E
  refine it_W (fun q : (Int32 × Int32 × Int32) => ∀ (H : Heap) (locs : List Loc) (ls : Array Slot), HW G s.heap V H locs → lv_has ls 4 [(0, .ref (G.2.2 i)), (1, .int (q.1)), (2, .int (q.2.1)), (3, .int (q.2.2))] → W p l e (rmD 3) s m args below meth c H locs 0 0 Q (F0 m 4 ls [])) x ?_
  intro q r h kc kx
  obtain ⟨u1, u2, u3⟩ := q
  intro H locs ls hw hl
  have h : fX6_total_L4 V i u1 u2 u3 = some r := h
  have hw : HW G s.heap V H locs := hw
  have hl : lv_has ls 4 [(0, .ref (G.2.2 i)), (1, .int u1), (2, .int u2), (3, .int u3)] := hl
  have kr : ∀ q : Int32, r = .inr (q) → Q = MQ below (QI G s.heap.size q V) args s 0 0 (gA G s.heap.size) := fun q e => kr q (kx _ e).symm
  unfold fX6_total_L4 at h
  refine lv_iload_n hx hb dX6_total_4 rfl (lv_at hl 3 rfl) ?_
  refine lv_aload_n hx hb dX6_total_5 rfl (lv_at hl 0 rfl) ?_
  refine r_gi E hw i 3 (N := 13) (C := RX6) (T := TX6) (st_lt hs_i) (st_c hs_i) (st_N hs_i) (by decide) (st_n hs_i (k := 3) (by decide)) iw_6 rfl lf_RX6_21 dX6_total_6 ?_
  refine lv_icmp_ge (tgt := 27) hx hb dX6_total_9 (by decide) (fun c5 => ?_) (fun c5 => ?_)
  · rw [if_pos c5] at h
    refine lv_iload_n hx hb dX6_total_27 rfl (lv_at hl 2 rfl) ?_
    rw [kr u2 (Option.some.inj h).symm]
    exact r_ri E hw dX6_total_28
  · rw [if_neg c5] at h
    refine lv_iload_n hx hb dX6_total_12 rfl (lv_at hl 2 rfl) ?_
    refine lv_aload_n hx hb dX6_total_13 rfl (lv_at hl 0 rfl) ?_
    refine lv_iload_n hx hb dX6_total_14 rfl (lv_at hl 3 rfl) ?_
    refine lv_iload_n hx hb dX6_total_15 rfl (lv_at hl 1 rfl) ?_
    obtain ⟨y2, h1, h⟩ := ob_R_some h
    refine c_VI E hw (kX6_ofHouse (l := l) (G := G) hB hs_i h1) yy_X6_ofHouse lm_RX6_64 rfl (st_lt hs_i) (st_c hs_i) rfl hl.1 (by decide) (by decide) rfl (Nat.le_of_ble_eq_true rfl) dX6_total_16 (fun H locs hw => ?_)
    refine lv_iadd hx hb dX6_total_19 ?_
    obtain ⟨y3, ey3, h⟩ := lt_some h
    refine lv_eqi ey3 ?_
    refine lv_istore_n (lv' := [(2, .int y3), (0, .ref (G.2.2 i)), (1, .int u1), (3, .int u3)]) hx hb dX6_total_20 rfl hl (by decide) rfl (fun ls hl => ?_)
    obtain ⟨y4, ey4, h⟩ := lt_some h
    refine lv_iinc (v := y4) (lv' := [(3, .int y4), (2, .int y3), (0, .ref (G.2.2 i)), (1, .int u1)]) hx hb dX6_total_21 hl (k := 3) rfl (by rw [ey4]; rfl) (by decide) rfl (fun ls hl => ?_)
    refine lv_goto (tgt := 4) hx hb dX6_total_24 (by decide) ?_
    exact kc (u1, y3, y4) (Option.some.inj h).symm H locs ls hw (lv_sub hl [2, 3, 1, 0] rfl)
set_option maxHeartbeats 4000000 in
set_option maxRecDepth 100000 in
theorem kX6_total {l : Launch} {G : GT} {B : BGt} (hB : BGok B) {V : VT} {i : Nat} (hs_i : isSt i) {x1 : Int32} {r : Int32} (h : fX6_total V i x1 = some r) : CI l G B yX6_total (.code yX6_total cX6_total 4 (some .int)) 3 [.ref (G.2.2 i), .int x1] V r V := by
  intro sz
  refine met_of (Qs := fun sz => QI G sz r V) hB (by decide) (Nat.le_of_ble_eq_true rfl) ?_ sz
  intro p e s m args below meth c ls E hw hl
  have hx := en_x E
  have hb := en_b E
  generalize hQ : MQ _ _ _ _ _ _ _ = Q
  have kr : Q = MQ below (QI G s.heap.size r V) args s 0 0 (gA G s.heap.size) := hQ.symm
  have hl : lv_has ls 4 [(0, .ref (G.2.2 i)), (1, .int x1)] := hl
  obtain ⟨H, eH⟩ : ∃ H, H = s.heap := ⟨_, rfl⟩
  obtain ⟨locs, elocs⟩ : ∃ z : List Loc, z = [] := ⟨_, rfl⟩
  have hw : HW G s.heap V H locs := by rw [eH, elocs]; exact hw
  show W p l e _ s m args below meth c s.heap [] 0 0 Q (F0 m 0 ls [])
  rw [← eH, ← elocs]
  unfold fX6_total at h
  refine lv_iconst (v := (0 : Int32)) hx hb dX6_total_0 (by decide) ?_
  refine lv_istore_n (lv' := [(2, .int (0 : Int32)), (0, .ref (G.2.2 i)), (1, .int x1)]) hx hb dX6_total_1 rfl hl (by decide) rfl (fun ls hl => ?_)
  refine lv_iconst (v := (0 : Int32)) hx hb dX6_total_2 (by decide) ?_
  refine lv_istore_n (lv' := [(3, .int (0 : Int32)), (2, .int (0 : Int32)), (0, .ref (G.2.2 i)), (1, .int x1)]) hx hb dX6_total_3 rfl hl (by decide) rfl (fun ls hl => ?_)
  obtain ⟨x7, h6, h⟩ := ob_R_some h
  have h := Option.some.inj h
  subst h
  exact wX6_total_L4 E hs_i (fun q e => by subst e; exact kr) FV (x1, (0 : Int32), (0 : Int32)) h6 H locs ls hw (lv_sub hl [2, 3, 1, 0] rfl)
/-! ===== AllSawIt$State.leftEnd(I)I ===== -/
theorem dX6_leftEnd_0 : decode cX6_leftEnd 0 = .ok (.iconst 0, 1) := by decide +kernel
theorem dX6_leftEnd_1 : decode cX6_leftEnd 1 = .ok (.aload_n 0, 1) := by decide +kernel
theorem dX6_leftEnd_2 : decode cX6_leftEnd 2 = .ok (.iload_n 1, 1) := by decide +kernel
theorem dX6_leftEnd_3 : decode cX6_leftEnd 3 = .ok (.iconst 1, 1) := by decide +kernel
theorem dX6_leftEnd_4 : decode cX6_leftEnd 4 = .ok (.invokevirtual 64, 3) := by decide +kernel
theorem dX6_leftEnd_7 : decode cX6_leftEnd 7 = .ok (.aload_n 0, 1) := by decide +kernel
theorem dX6_leftEnd_8 : decode cX6_leftEnd 8 = .ok (.iload_n 1, 1) := by decide +kernel
theorem dX6_leftEnd_9 : decode cX6_leftEnd 9 = .ok (.bipush 6, 2) := by decide +kernel
theorem dX6_leftEnd_11 : decode cX6_leftEnd 11 = .ok (.invokevirtual 64, 3) := by decide +kernel
theorem dX6_leftEnd_14 : decode cX6_leftEnd 14 = .ok (.isub, 1) := by decide +kernel
theorem dX6_leftEnd_15 : decode cX6_leftEnd 15 = .ok (.invokestatic 67, 3) := by decide +kernel
theorem dX6_leftEnd_18 : decode cX6_leftEnd 18 = .ok (.ireturn, 1) := by decide +kernel
noncomputable def fX6_leftEnd (V : VT) (i : Nat) (x1 : Int32) : Option Int32 := ob_R (fX6_ofHouse V i x1 (1 : Int32)) fun y2 => ob_R (fX6_ofHouse V i x1 (6 : Int32)) fun y4 => some (if (0 : Int32) < (y2 - y4) then (y2 - y4) else (0 : Int32))
set_option maxHeartbeats 4000000 in
set_option maxRecDepth 100000 in
theorem kX6_leftEnd {l : Launch} {G : GT} {B : BGt} (hB : BGok B) {V : VT} {i : Nat} (hs_i : isSt i) {x1 : Int32} {r : Int32} (h : fX6_leftEnd V i x1 = some r) : CI l G B yX6_leftEnd (.code yX6_leftEnd cX6_leftEnd 2 (some .int)) 3 [.ref (G.2.2 i), .int x1] V r V := by
  intro sz
  refine met_of (Qs := fun sz => QI G sz r V) hB (by decide) (Nat.le_of_ble_eq_true rfl) ?_ sz
  intro p e s m args below meth c ls E hw hl
  have hx := en_x E
  have hb := en_b E
  generalize hQ : MQ _ _ _ _ _ _ _ = Q
  have kr : Q = MQ below (QI G s.heap.size r V) args s 0 0 (gA G s.heap.size) := hQ.symm
  have hl : lv_has ls 2 [(0, .ref (G.2.2 i)), (1, .int x1)] := hl
  obtain ⟨H, eH⟩ : ∃ H, H = s.heap := ⟨_, rfl⟩
  obtain ⟨locs, elocs⟩ : ∃ z : List Loc, z = [] := ⟨_, rfl⟩
  have hw : HW G s.heap V H locs := by rw [eH, elocs]; exact hw
  show W p l e _ s m args below meth c s.heap [] 0 0 Q (F0 m 0 ls [])
  rw [← eH, ← elocs]
  unfold fX6_leftEnd at h
  refine lv_iconst (v := (0 : Int32)) hx hb dX6_leftEnd_0 (by decide) ?_
  refine lv_aload_n hx hb dX6_leftEnd_1 rfl (lv_at hl 0 rfl) ?_
  refine lv_iload_n hx hb dX6_leftEnd_2 rfl (lv_at hl 1 rfl) ?_
  refine lv_iconst (v := (1 : Int32)) hx hb dX6_leftEnd_3 (by decide) ?_
  obtain ⟨y2, h1, h⟩ := ob_R_some h
  refine c_VI E hw (kX6_ofHouse (l := l) (G := G) hB hs_i h1) yy_X6_ofHouse lm_RX6_64 rfl (st_lt hs_i) (st_c hs_i) rfl hl.1 (by decide) (by decide) rfl (Nat.le_of_ble_eq_true rfl) dX6_leftEnd_4 (fun H locs hw => ?_)
  refine lv_aload_n hx hb dX6_leftEnd_7 rfl (lv_at hl 0 rfl) ?_
  refine lv_iload_n hx hb dX6_leftEnd_8 rfl (lv_at hl 1 rfl) ?_
  refine lv_bipush (v := (6 : Int32)) hx hb dX6_leftEnd_9 (by decide) ?_
  obtain ⟨y4, h3, h⟩ := ob_R_some h
  refine c_VI E hw (kX6_ofHouse (l := l) (G := G) hB hs_i h3) yy_X6_ofHouse lm_RX6_64 rfl (st_lt hs_i) (st_c hs_i) rfl hl.1 (by decide) (by decide) rfl (Nat.le_of_ble_eq_true rfl) dX6_leftEnd_11 (fun H locs hw => ?_)
  refine lv_isub hx hb dX6_leftEnd_14 ?_
  refine r_max E hl.1 lm_RX6_67 (by decide) (Nat.le_of_ble_eq_true rfl) dX6_leftEnd_15 ?_
  have h := Option.some.inj h
  subst h
  rw [kr]
  exact r_ri E hw dX6_leftEnd_18
/-! ===== AllSawIt$State.rightEnd(I)I ===== -/
theorem dX6_rightEnd_0 : decode cX6_rightEnd 0 = .ok (.bipush 23, 2) := by decide +kernel
theorem dX6_rightEnd_2 : decode cX6_rightEnd 2 = .ok (.aload_n 0, 1) := by decide +kernel
theorem dX6_rightEnd_3 : decode cX6_rightEnd 3 = .ok (.iload_n 1, 1) := by decide +kernel
theorem dX6_rightEnd_4 : decode cX6_rightEnd 4 = .ok (.iconst 2, 1) := by decide +kernel
theorem dX6_rightEnd_5 : decode cX6_rightEnd 5 = .ok (.invokevirtual 64, 3) := by decide +kernel
theorem dX6_rightEnd_8 : decode cX6_rightEnd 8 = .ok (.aload_n 0, 1) := by decide +kernel
theorem dX6_rightEnd_9 : decode cX6_rightEnd 9 = .ok (.iload_n 1, 1) := by decide +kernel
theorem dX6_rightEnd_10 : decode cX6_rightEnd 10 = .ok (.bipush 6, 2) := by decide +kernel
theorem dX6_rightEnd_12 : decode cX6_rightEnd 12 = .ok (.invokevirtual 64, 3) := by decide +kernel
theorem dX6_rightEnd_15 : decode cX6_rightEnd 15 = .ok (.iadd, 1) := by decide +kernel
theorem dX6_rightEnd_16 : decode cX6_rightEnd 16 = .ok (.invokestatic 52, 3) := by decide +kernel
theorem dX6_rightEnd_19 : decode cX6_rightEnd 19 = .ok (.ireturn, 1) := by decide +kernel
noncomputable def fX6_rightEnd (V : VT) (i : Nat) (x1 : Int32) : Option Int32 := ob_R (fX6_ofHouse V i x1 (2 : Int32)) fun y2 => ob_R (fX6_ofHouse V i x1 (6 : Int32)) fun y4 => some (if (y2 + y4) < (23 : Int32) then (y2 + y4) else (23 : Int32))
set_option maxHeartbeats 4000000 in
set_option maxRecDepth 100000 in
theorem kX6_rightEnd {l : Launch} {G : GT} {B : BGt} (hB : BGok B) {V : VT} {i : Nat} (hs_i : isSt i) {x1 : Int32} {r : Int32} (h : fX6_rightEnd V i x1 = some r) : CI l G B yX6_rightEnd (.code yX6_rightEnd cX6_rightEnd 2 (some .int)) 3 [.ref (G.2.2 i), .int x1] V r V := by
  intro sz
  refine met_of (Qs := fun sz => QI G sz r V) hB (by decide) (Nat.le_of_ble_eq_true rfl) ?_ sz
  intro p e s m args below meth c ls E hw hl
  have hx := en_x E
  have hb := en_b E
  generalize hQ : MQ _ _ _ _ _ _ _ = Q
  have kr : Q = MQ below (QI G s.heap.size r V) args s 0 0 (gA G s.heap.size) := hQ.symm
  have hl : lv_has ls 2 [(0, .ref (G.2.2 i)), (1, .int x1)] := hl
  obtain ⟨H, eH⟩ : ∃ H, H = s.heap := ⟨_, rfl⟩
  obtain ⟨locs, elocs⟩ : ∃ z : List Loc, z = [] := ⟨_, rfl⟩
  have hw : HW G s.heap V H locs := by rw [eH, elocs]; exact hw
  show W p l e _ s m args below meth c s.heap [] 0 0 Q (F0 m 0 ls [])
  rw [← eH, ← elocs]
  unfold fX6_rightEnd at h
  refine lv_bipush (v := (23 : Int32)) hx hb dX6_rightEnd_0 (by decide) ?_
  refine lv_aload_n hx hb dX6_rightEnd_2 rfl (lv_at hl 0 rfl) ?_
  refine lv_iload_n hx hb dX6_rightEnd_3 rfl (lv_at hl 1 rfl) ?_
  refine lv_iconst (v := (2 : Int32)) hx hb dX6_rightEnd_4 (by decide) ?_
  obtain ⟨y2, h1, h⟩ := ob_R_some h
  refine c_VI E hw (kX6_ofHouse (l := l) (G := G) hB hs_i h1) yy_X6_ofHouse lm_RX6_64 rfl (st_lt hs_i) (st_c hs_i) rfl hl.1 (by decide) (by decide) rfl (Nat.le_of_ble_eq_true rfl) dX6_rightEnd_5 (fun H locs hw => ?_)
  refine lv_aload_n hx hb dX6_rightEnd_8 rfl (lv_at hl 0 rfl) ?_
  refine lv_iload_n hx hb dX6_rightEnd_9 rfl (lv_at hl 1 rfl) ?_
  refine lv_bipush (v := (6 : Int32)) hx hb dX6_rightEnd_10 (by decide) ?_
  obtain ⟨y4, h3, h⟩ := ob_R_some h
  refine c_VI E hw (kX6_ofHouse (l := l) (G := G) hB hs_i h3) yy_X6_ofHouse lm_RX6_64 rfl (st_lt hs_i) (st_c hs_i) rfl hl.1 (by decide) (by decide) rfl (Nat.le_of_ble_eq_true rfl) dX6_rightEnd_12 (fun H locs hw => ?_)
  refine lv_iadd hx hb dX6_rightEnd_15 ?_
  refine r_min E hl.1 lm_RX6_52 (by decide) (Nat.le_of_ble_eq_true rfl) dX6_rightEnd_16 ?_
  have h := Option.some.inj h
  subst h
  rw [kr]
  exact r_ri E hw dX6_rightEnd_19
/-! ===== AllSawIt$State.inWindow(II)Z ===== -/
theorem dX6_inWindow_0 : decode cX6_inWindow 0 = .ok (.aload_n 0, 1) := by decide +kernel
theorem dX6_inWindow_1 : decode cX6_inWindow 1 = .ok (.iload_n 1, 1) := by decide +kernel
theorem dX6_inWindow_2 : decode cX6_inWindow 2 = .ok (.bipush 6, 2) := by decide +kernel
theorem dX6_inWindow_4 : decode cX6_inWindow 4 = .ok (.invokevirtual 64, 3) := by decide +kernel
theorem dX6_inWindow_7 : decode cX6_inWindow 7 = .ok (.istore_n 3, 1) := by decide +kernel
theorem dX6_inWindow_8 : decode cX6_inWindow 8 = .ok (.iload_n 2, 1) := by decide +kernel
theorem dX6_inWindow_9 : decode cX6_inWindow 9 = .ok (.aload_n 0, 1) := by decide +kernel
theorem dX6_inWindow_10 : decode cX6_inWindow 10 = .ok (.iload_n 1, 1) := by decide +kernel
theorem dX6_inWindow_11 : decode cX6_inWindow 11 = .ok (.iconst 1, 1) := by decide +kernel
theorem dX6_inWindow_12 : decode cX6_inWindow 12 = .ok (.invokevirtual 64, 3) := by decide +kernel
theorem dX6_inWindow_15 : decode cX6_inWindow 15 = .ok (.iload_n 3, 1) := by decide +kernel
theorem dX6_inWindow_16 : decode cX6_inWindow 16 = .ok (.isub, 1) := by decide +kernel
theorem dX6_inWindow_17 : decode cX6_inWindow 17 = .ok (.if_icmp .lt 19, 3) := by decide +kernel
theorem dX6_inWindow_20 : decode cX6_inWindow 20 = .ok (.iload_n 2, 1) := by decide +kernel
theorem dX6_inWindow_21 : decode cX6_inWindow 21 = .ok (.aload_n 0, 1) := by decide +kernel
theorem dX6_inWindow_22 : decode cX6_inWindow 22 = .ok (.iload_n 1, 1) := by decide +kernel
theorem dX6_inWindow_23 : decode cX6_inWindow 23 = .ok (.iconst 2, 1) := by decide +kernel
theorem dX6_inWindow_24 : decode cX6_inWindow 24 = .ok (.invokevirtual 64, 3) := by decide +kernel
theorem dX6_inWindow_27 : decode cX6_inWindow 27 = .ok (.iload_n 3, 1) := by decide +kernel
theorem dX6_inWindow_28 : decode cX6_inWindow 28 = .ok (.iadd, 1) := by decide +kernel
theorem dX6_inWindow_29 : decode cX6_inWindow 29 = .ok (.if_icmp .gt 7, 3) := by decide +kernel
theorem dX6_inWindow_32 : decode cX6_inWindow 32 = .ok (.iconst 1, 1) := by decide +kernel
theorem dX6_inWindow_33 : decode cX6_inWindow 33 = .ok (.goto 4, 3) := by decide +kernel
theorem dX6_inWindow_36 : decode cX6_inWindow 36 = .ok (.iconst 0, 1) := by decide +kernel
theorem dX6_inWindow_37 : decode cX6_inWindow 37 = .ok (.ireturn, 1) := by decide +kernel
noncomputable def fX6_inWindow (V : VT) (i : Nat) (x1 : Int32) (x2 : Int32) : Option Int32 := ob_R (fX6_ofHouse V i x1 (6 : Int32)) fun y2 => ob_R (fX6_ofHouse V i x1 (1 : Int32)) fun y4 => if x2 < (y4 - y2) then (zo_ (0 : Int32) (some (0 : Int32))) else (ob_R (fX6_ofHouse V i x1 (2 : Int32)) fun y7 => if (y7 + y2) < x2 then (zo_ (0 : Int32) (some (0 : Int32))) else (zo_ (1 : Int32) (some (1 : Int32))))
set_option maxHeartbeats 4000000 in
set_option maxRecDepth 100000 in
theorem kX6_inWindow {l : Launch} {G : GT} {B : BGt} (hB : BGok B) {V : VT} {i : Nat} (hs_i : isSt i) {x1 : Int32} {x2 : Int32} {r : Int32} (h : fX6_inWindow V i x1 x2 = some r) : CI l G B yX6_inWindow (.code yX6_inWindow cX6_inWindow 4 (some .boolean)) 3 [.ref (G.2.2 i), .int x1, .int x2] V r V := by
  intro sz
  refine met_of (Qs := fun sz => QI G sz r V) hB (by decide) (Nat.le_of_ble_eq_true rfl) ?_ sz
  intro p e s m args below meth c ls E hw hl
  have hx := en_x E
  have hb := en_b E
  generalize hQ : MQ _ _ _ _ _ _ _ = Q
  have kr : Q = MQ below (QI G s.heap.size r V) args s 0 0 (gA G s.heap.size) := hQ.symm
  have hl : lv_has ls 4 [(0, .ref (G.2.2 i)), (1, .int x1), (2, .int x2)] := hl
  obtain ⟨H, eH⟩ : ∃ H, H = s.heap := ⟨_, rfl⟩
  obtain ⟨locs, elocs⟩ : ∃ z : List Loc, z = [] := ⟨_, rfl⟩
  have hw : HW G s.heap V H locs := by rw [eH, elocs]; exact hw
  show W p l e _ s m args below meth c s.heap [] 0 0 Q (F0 m 0 ls [])
  rw [← eH, ← elocs]
  unfold fX6_inWindow at h
  refine lv_aload_n hx hb dX6_inWindow_0 rfl (lv_at hl 0 rfl) ?_
  refine lv_iload_n hx hb dX6_inWindow_1 rfl (lv_at hl 1 rfl) ?_
  refine lv_bipush (v := (6 : Int32)) hx hb dX6_inWindow_2 (by decide) ?_
  obtain ⟨y2, h1, h⟩ := ob_R_some h
  refine c_VI E hw (kX6_ofHouse (l := l) (G := G) hB hs_i h1) yy_X6_ofHouse lm_RX6_64 rfl (st_lt hs_i) (st_c hs_i) rfl hl.1 (by decide) (by decide) rfl (Nat.le_of_ble_eq_true rfl) dX6_inWindow_4 (fun H locs hw => ?_)
  refine lv_istore_n (lv' := [(3, .int y2), (0, .ref (G.2.2 i)), (1, .int x1), (2, .int x2)]) hx hb dX6_inWindow_7 rfl hl (by decide) rfl (fun ls hl => ?_)
  refine lv_iload_n hx hb dX6_inWindow_8 rfl (lv_at hl 3 rfl) ?_
  refine lv_aload_n hx hb dX6_inWindow_9 rfl (lv_at hl 1 rfl) ?_
  refine lv_iload_n hx hb dX6_inWindow_10 rfl (lv_at hl 2 rfl) ?_
  refine lv_iconst (v := (1 : Int32)) hx hb dX6_inWindow_11 (by decide) ?_
  obtain ⟨y4, h3, h⟩ := ob_R_some h
  refine c_VI E hw (kX6_ofHouse (l := l) (G := G) hB hs_i h3) yy_X6_ofHouse lm_RX6_64 rfl (st_lt hs_i) (st_c hs_i) rfl hl.1 (by decide) (by decide) rfl (Nat.le_of_ble_eq_true rfl) dX6_inWindow_12 (fun H locs hw => ?_)
  refine lv_iload_n hx hb dX6_inWindow_15 rfl (lv_at hl 0 rfl) ?_
  refine lv_isub hx hb dX6_inWindow_16 ?_
  refine lv_icmp_lt (tgt := 36) hx hb dX6_inWindow_17 (by decide) (fun c11 => ?_) (fun c11 => ?_)
  · rw [if_pos c11] at h
    refine lv_iconst (v := (0 : Int32)) hx hb dX6_inWindow_36 (by decide) ?_
    obtain ⟨z5, h⟩ := zo_some h
    have h := Option.some.inj h
    subst h
    rw [kr]
    exact r_rz E hw z5 dX6_inWindow_37
  · rw [if_neg c11] at h
    refine lv_iload_n hx hb dX6_inWindow_20 rfl (lv_at hl 3 rfl) ?_
    refine lv_aload_n hx hb dX6_inWindow_21 rfl (lv_at hl 1 rfl) ?_
    refine lv_iload_n hx hb dX6_inWindow_22 rfl (lv_at hl 2 rfl) ?_
    refine lv_iconst (v := (2 : Int32)) hx hb dX6_inWindow_23 (by decide) ?_
    obtain ⟨y7, h6, h⟩ := ob_R_some h
    refine c_VI E hw (kX6_ofHouse (l := l) (G := G) hB hs_i h6) yy_X6_ofHouse lm_RX6_64 rfl (st_lt hs_i) (st_c hs_i) rfl hl.1 (by decide) (by decide) rfl (Nat.le_of_ble_eq_true rfl) dX6_inWindow_24 (fun H locs hw => ?_)
    refine lv_iload_n hx hb dX6_inWindow_27 rfl (lv_at hl 0 rfl) ?_
    refine lv_iadd hx hb dX6_inWindow_28 ?_
    refine lv_icmp_gt (tgt := 36) hx hb dX6_inWindow_29 (by decide) (fun c10 => ?_) (fun c10 => ?_)
    · rw [if_pos c10] at h
      refine lv_iconst (v := (0 : Int32)) hx hb dX6_inWindow_36 (by decide) ?_
      obtain ⟨z8, h⟩ := zo_some h
      have h := Option.some.inj h
      subst h
      rw [kr]
      exact r_rz E hw z8 dX6_inWindow_37
    · rw [if_neg c10] at h
      refine lv_iconst (v := (1 : Int32)) hx hb dX6_inWindow_32 (by decide) ?_
      refine lv_goto (tgt := 37) hx hb dX6_inWindow_33 (by decide) ?_
      obtain ⟨z9, h⟩ := zo_some h
      have h := Option.some.inj h
      subst h
      rw [kr]
      exact r_rz E hw z9 dX6_inWindow_37
/-! ===== AllSawIt$State.isUp(II)Z ===== -/
theorem dX6_isUp_0 : decode cX6_isUp 0 = .ok (.iload_n 2, 1) := by decide +kernel
theorem dX6_isUp_1 : decode cX6_isUp 1 = .ok (.aload_n 0, 1) := by decide +kernel
theorem dX6_isUp_2 : decode cX6_isUp 2 = .ok (.iload_n 1, 1) := by decide +kernel
theorem dX6_isUp_3 : decode cX6_isUp 3 = .ok (.iconst 3, 1) := by decide +kernel
theorem dX6_isUp_4 : decode cX6_isUp 4 = .ok (.invokevirtual 64, 3) := by decide +kernel
theorem dX6_isUp_7 : decode cX6_isUp 7 = .ok (.isub, 1) := by decide +kernel
theorem dX6_isUp_8 : decode cX6_isUp 8 = .ok (.bipush 24, 2) := by decide +kernel
theorem dX6_isUp_10 : decode cX6_isUp 10 = .ok (.invokestatic 70, 3) := by decide +kernel
theorem dX6_isUp_13 : decode cX6_isUp 13 = .ok (.aload_n 0, 1) := by decide +kernel
theorem dX6_isUp_14 : decode cX6_isUp 14 = .ok (.iload_n 1, 1) := by decide +kernel
theorem dX6_isUp_15 : decode cX6_isUp 15 = .ok (.iconst 4, 1) := by decide +kernel
theorem dX6_isUp_16 : decode cX6_isUp 16 = .ok (.invokevirtual 64, 3) := by decide +kernel
theorem dX6_isUp_19 : decode cX6_isUp 19 = .ok (.if_icmp .ge 7, 3) := by decide +kernel
theorem dX6_isUp_22 : decode cX6_isUp 22 = .ok (.iconst 1, 1) := by decide +kernel
theorem dX6_isUp_23 : decode cX6_isUp 23 = .ok (.goto 4, 3) := by decide +kernel
theorem dX6_isUp_26 : decode cX6_isUp 26 = .ok (.iconst 0, 1) := by decide +kernel
theorem dX6_isUp_27 : decode cX6_isUp 27 = .ok (.ireturn, 1) := by decide +kernel
noncomputable def fX6_isUp (V : VT) (i : Nat) (x1 : Int32) (x2 : Int32) : Option Int32 := ob_R (fX6_ofHouse V i x1 (3 : Int32)) fun y2 => ob_R (fJ9_floorMod_7cf53 V (x2 - y2) (24 : Int32)) fun y4 => ob_R (fX6_ofHouse V i x1 (4 : Int32)) fun y6 => if y6 ≤ y4 then (zo_ (0 : Int32) (some (0 : Int32))) else (zo_ (1 : Int32) (some (1 : Int32)))
set_option maxHeartbeats 4000000 in
set_option maxRecDepth 100000 in
theorem kX6_isUp {l : Launch} {G : GT} {B : BGt} (hB : BGok B) {V : VT} {i : Nat} (hs_i : isSt i) {x1 : Int32} {x2 : Int32} {r : Int32} (h : fX6_isUp V i x1 x2 = some r) : CI l G B yX6_isUp (.code yX6_isUp cX6_isUp 3 (some .boolean)) 3 [.ref (G.2.2 i), .int x1, .int x2] V r V := by
  intro sz
  refine met_of (Qs := fun sz => QI G sz r V) hB (by decide) (Nat.le_of_ble_eq_true rfl) ?_ sz
  intro p e s m args below meth c ls E hw hl
  have hx := en_x E
  have hb := en_b E
  generalize hQ : MQ _ _ _ _ _ _ _ = Q
  have kr : Q = MQ below (QI G s.heap.size r V) args s 0 0 (gA G s.heap.size) := hQ.symm
  have hl : lv_has ls 3 [(0, .ref (G.2.2 i)), (1, .int x1), (2, .int x2)] := hl
  obtain ⟨H, eH⟩ : ∃ H, H = s.heap := ⟨_, rfl⟩
  obtain ⟨locs, elocs⟩ : ∃ z : List Loc, z = [] := ⟨_, rfl⟩
  have hw : HW G s.heap V H locs := by rw [eH, elocs]; exact hw
  show W p l e _ s m args below meth c s.heap [] 0 0 Q (F0 m 0 ls [])
  rw [← eH, ← elocs]
  unfold fX6_isUp at h
  refine lv_iload_n hx hb dX6_isUp_0 rfl (lv_at hl 2 rfl) ?_
  refine lv_aload_n hx hb dX6_isUp_1 rfl (lv_at hl 0 rfl) ?_
  refine lv_iload_n hx hb dX6_isUp_2 rfl (lv_at hl 1 rfl) ?_
  refine lv_iconst (v := (3 : Int32)) hx hb dX6_isUp_3 (by decide) ?_
  obtain ⟨y2, h1, h⟩ := ob_R_some h
  refine c_VI E hw (kX6_ofHouse (l := l) (G := G) hB hs_i h1) yy_X6_ofHouse lm_RX6_64 rfl (st_lt hs_i) (st_c hs_i) rfl hl.1 (by decide) (by decide) rfl (Nat.le_of_ble_eq_true rfl) dX6_isUp_4 (fun H locs hw => ?_)
  refine lv_isub hx hb dX6_isUp_7 ?_
  refine lv_bipush (v := (24 : Int32)) hx hb dX6_isUp_8 (by decide) ?_
  obtain ⟨y4, h3, h⟩ := ob_R_some h
  refine c_SI E hw (kJ9_floorMod_7cf53 (l := l) (G := G) hB  h3) yy_J9_floorMod_7cf53 lm_RX6_70 rfl hl.1 (by decide) (by decide) rfl (Nat.le_of_ble_eq_true rfl) dX6_isUp_10 (fun H locs hw => ?_)
  refine lv_aload_n hx hb dX6_isUp_13 rfl (lv_at hl 0 rfl) ?_
  refine lv_iload_n hx hb dX6_isUp_14 rfl (lv_at hl 1 rfl) ?_
  refine lv_iconst (v := (4 : Int32)) hx hb dX6_isUp_15 (by decide) ?_
  obtain ⟨y6, h5, h⟩ := ob_R_some h
  refine c_VI E hw (kX6_ofHouse (l := l) (G := G) hB hs_i h5) yy_X6_ofHouse lm_RX6_64 rfl (st_lt hs_i) (st_c hs_i) rfl hl.1 (by decide) (by decide) rfl (Nat.le_of_ble_eq_true rfl) dX6_isUp_16 (fun H locs hw => ?_)
  refine lv_icmp_ge (tgt := 26) hx hb dX6_isUp_19 (by decide) (fun c9 => ?_) (fun c9 => ?_)
  · rw [if_pos c9] at h
    refine lv_iconst (v := (0 : Int32)) hx hb dX6_isUp_26 (by decide) ?_
    obtain ⟨z7, h⟩ := zo_some h
    have h := Option.some.inj h
    subst h
    rw [kr]
    exact r_rz E hw z7 dX6_isUp_27
  · rw [if_neg c9] at h
    refine lv_iconst (v := (1 : Int32)) hx hb dX6_isUp_22 (by decide) ?_
    refine lv_goto (tgt := 27) hx hb dX6_isUp_23 (by decide) ?_
    obtain ⟨z8, h⟩ := zo_some h
    have h := Option.some.inj h
    subst h
    rw [kr]
    exact r_rz E hw z8 dX6_isUp_27
/-! ===== AllSawIt$State.isAway(I)Z ===== -/
theorem dX6_isAway_0 : decode cX6_isAway 0 = .ok (.aload_n 0, 1) := by decide +kernel
theorem dX6_isAway_1 : decode cX6_isAway 1 = .ok (.getfield 31, 3) := by decide +kernel
theorem dX6_isAway_4 : decode cX6_isAway 4 = .ok (.iload_n 1, 1) := by decide +kernel
theorem dX6_isAway_5 : decode cX6_isAway 5 = .ok (.ishr, 1) := by decide +kernel
theorem dX6_isAway_6 : decode cX6_isAway 6 = .ok (.iconst 1, 1) := by decide +kernel
theorem dX6_isAway_7 : decode cX6_isAway 7 = .ok (.iand, 1) := by decide +kernel
theorem dX6_isAway_8 : decode cX6_isAway 8 = .ok (.iconst 1, 1) := by decide +kernel
theorem dX6_isAway_9 : decode cX6_isAway 9 = .ok (.if_icmp .ne 7, 3) := by decide +kernel
theorem dX6_isAway_12 : decode cX6_isAway 12 = .ok (.iconst 1, 1) := by decide +kernel
theorem dX6_isAway_13 : decode cX6_isAway 13 = .ok (.goto 4, 3) := by decide +kernel
theorem dX6_isAway_16 : decode cX6_isAway 16 = .ok (.iconst 0, 1) := by decide +kernel
theorem dX6_isAway_17 : decode cX6_isAway 17 = .ok (.ireturn, 1) := by decide +kernel
noncomputable def fX6_isAway (V : VT) (i : Nat) (x1 : Int32) : Option Int32 := if (((V i 6) >>> (x1 &&& 31)) &&& (1 : Int32)) = (1 : Int32) then (zo_ (1 : Int32) (some (1 : Int32))) else (zo_ (0 : Int32) (some (0 : Int32)))
set_option maxHeartbeats 4000000 in
set_option maxRecDepth 100000 in
theorem kX6_isAway {l : Launch} {G : GT} {B : BGt} (hB : BGok B) {V : VT} {i : Nat} (hs_i : isSt i) {x1 : Int32} {r : Int32} (h : fX6_isAway V i x1 = some r) : CI l G B yX6_isAway (.code yX6_isAway cX6_isAway 2 (some .boolean)) 2 [.ref (G.2.2 i), .int x1] V r V := by
  intro sz
  refine met_of (Qs := fun sz => QI G sz r V) hB (by decide) (Nat.le_of_ble_eq_true rfl) ?_ sz
  intro p e s m args below meth c ls E hw hl
  have hx := en_x E
  have hb := en_b E
  generalize hQ : MQ _ _ _ _ _ _ _ = Q
  have kr : Q = MQ below (QI G s.heap.size r V) args s 0 0 (gA G s.heap.size) := hQ.symm
  have hl : lv_has ls 2 [(0, .ref (G.2.2 i)), (1, .int x1)] := hl
  obtain ⟨H, eH⟩ : ∃ H, H = s.heap := ⟨_, rfl⟩
  obtain ⟨locs, elocs⟩ : ∃ z : List Loc, z = [] := ⟨_, rfl⟩
  have hw : HW G s.heap V H locs := by rw [eH, elocs]; exact hw
  show W p l e _ s m args below meth c s.heap [] 0 0 Q (F0 m 0 ls [])
  rw [← eH, ← elocs]
  unfold fX6_isAway at h
  refine lv_aload_n hx hb dX6_isAway_0 rfl (lv_at hl 0 rfl) ?_
  refine r_gi E hw i 6 (N := 13) (C := RX6) (T := TX6) (st_lt hs_i) (st_c hs_i) (st_N hs_i) (by decide) (st_n hs_i (k := 6) (by decide)) iw_6 rfl lf_RX6_31 dX6_isAway_1 ?_
  refine lv_iload_n hx hb dX6_isAway_4 rfl (lv_at hl 1 rfl) ?_
  refine lv_ishr hx hb dX6_isAway_5 ?_
  refine lv_iconst (v := (1 : Int32)) hx hb dX6_isAway_6 (by decide) ?_
  refine lv_iand hx hb dX6_isAway_7 ?_
  refine lv_iconst (v := (1 : Int32)) hx hb dX6_isAway_8 (by decide) ?_
  refine lv_icmp_ne (tgt := 16) hx hb dX6_isAway_9 (by decide) (fun c3 => ?_) (fun c3 => ?_)
  · rw [if_neg c3] at h
    refine lv_iconst (v := (0 : Int32)) hx hb dX6_isAway_16 (by decide) ?_
    obtain ⟨z1, h⟩ := zo_some h
    have h := Option.some.inj h
    subst h
    rw [kr]
    exact r_rz E hw z1 dX6_isAway_17
  · rw [if_pos c3] at h
    refine lv_iconst (v := (1 : Int32)) hx hb dX6_isAway_12 (by decide) ?_
    refine lv_goto (tgt := 17) hx hb dX6_isAway_13 (by decide) ?_
    obtain ⟨z2, h⟩ := zo_some h
    have h := Option.some.inj h
    subst h
    rw [kr]
    exact r_rz E hw z2 dX6_isAway_17
/-! ===== AllSawIt$State.apart(II)I ===== -/
theorem dX6_apart_0 : decode cX6_apart 0 = .ok (.iload_n 2, 1) := by decide +kernel
theorem dX6_apart_1 : decode cX6_apart 1 = .ok (.aload_n 0, 1) := by decide +kernel
theorem dX6_apart_2 : decode cX6_apart 2 = .ok (.iload_n 1, 1) := by decide +kernel
theorem dX6_apart_3 : decode cX6_apart 3 = .ok (.iconst 0, 1) := by decide +kernel
theorem dX6_apart_4 : decode cX6_apart 4 = .ok (.invokevirtual 64, 3) := by decide +kernel
theorem dX6_apart_7 : decode cX6_apart 7 = .ok (.isub, 1) := by decide +kernel
theorem dX6_apart_8 : decode cX6_apart 8 = .ok (.invokestatic 73, 3) := by decide +kernel
theorem dX6_apart_11 : decode cX6_apart 11 = .ok (.ireturn, 1) := by decide +kernel
noncomputable def fX6_apart (V : VT) (i : Nat) (x1 : Int32) (x2 : Int32) : Option Int32 := ob_R (fX6_ofHouse V i x1 (0 : Int32)) fun y2 => some (if 0 ≤ (x2 - y2) then (x2 - y2) else 0 - (x2 - y2))
set_option maxHeartbeats 4000000 in
set_option maxRecDepth 100000 in
theorem kX6_apart {l : Launch} {G : GT} {B : BGt} (hB : BGok B) {V : VT} {i : Nat} (hs_i : isSt i) {x1 : Int32} {x2 : Int32} {r : Int32} (h : fX6_apart V i x1 x2 = some r) : CI l G B yX6_apart (.code yX6_apart cX6_apart 3 (some .int)) 3 [.ref (G.2.2 i), .int x1, .int x2] V r V := by
  intro sz
  refine met_of (Qs := fun sz => QI G sz r V) hB (by decide) (Nat.le_of_ble_eq_true rfl) ?_ sz
  intro p e s m args below meth c ls E hw hl
  have hx := en_x E
  have hb := en_b E
  generalize hQ : MQ _ _ _ _ _ _ _ = Q
  have kr : Q = MQ below (QI G s.heap.size r V) args s 0 0 (gA G s.heap.size) := hQ.symm
  have hl : lv_has ls 3 [(0, .ref (G.2.2 i)), (1, .int x1), (2, .int x2)] := hl
  obtain ⟨H, eH⟩ : ∃ H, H = s.heap := ⟨_, rfl⟩
  obtain ⟨locs, elocs⟩ : ∃ z : List Loc, z = [] := ⟨_, rfl⟩
  have hw : HW G s.heap V H locs := by rw [eH, elocs]; exact hw
  show W p l e _ s m args below meth c s.heap [] 0 0 Q (F0 m 0 ls [])
  rw [← eH, ← elocs]
  unfold fX6_apart at h
  refine lv_iload_n hx hb dX6_apart_0 rfl (lv_at hl 2 rfl) ?_
  refine lv_aload_n hx hb dX6_apart_1 rfl (lv_at hl 0 rfl) ?_
  refine lv_iload_n hx hb dX6_apart_2 rfl (lv_at hl 1 rfl) ?_
  refine lv_iconst (v := (0 : Int32)) hx hb dX6_apart_3 (by decide) ?_
  obtain ⟨y2, h1, h⟩ := ob_R_some h
  refine c_VI E hw (kX6_ofHouse (l := l) (G := G) hB hs_i h1) yy_X6_ofHouse lm_RX6_64 rfl (st_lt hs_i) (st_c hs_i) rfl hl.1 (by decide) (by decide) rfl (Nat.le_of_ble_eq_true rfl) dX6_apart_4 (fun H locs hw => ?_)
  refine lv_isub hx hb dX6_apart_7 ?_
  refine r_abs E hl.1 lm_RX6_73 (by decide) (Nat.le_of_ble_eq_true rfl) dX6_apart_8 ?_
  have h := Option.some.inj h
  subst h
  rw [kr]
  exact r_ri E hw dX6_apart_11
/-! ===== AllSawIt$State.addLodger(I)I ===== -/
theorem dX6_addLodger_0 : decode cX6_addLodger 0 = .ok (.aload_n 0, 1) := by decide +kernel
theorem dX6_addLodger_1 : decode cX6_addLodger 1 = .ok (.getfield 21, 3) := by decide +kernel
theorem dX6_addLodger_4 : decode cX6_addLodger 4 = .ok (.istore_n 2, 1) := by decide +kernel
theorem dX6_addLodger_5 : decode cX6_addLodger 5 = .ok (.iconst 0, 1) := by decide +kernel
theorem dX6_addLodger_6 : decode cX6_addLodger 6 = .ok (.istore_n 3, 1) := by decide +kernel
theorem dX6_addLodger_7 : decode cX6_addLodger 7 = .ok (.iload_n 3, 1) := by decide +kernel
theorem dX6_addLodger_8 : decode cX6_addLodger 8 = .ok (.bipush 7, 2) := by decide +kernel
theorem dX6_addLodger_10 : decode cX6_addLodger 10 = .ok (.if_icmp .ge 21, 3) := by decide +kernel
theorem dX6_addLodger_13 : decode cX6_addLodger 13 = .ok (.aload_n 0, 1) := by decide +kernel
theorem dX6_addLodger_14 : decode cX6_addLodger 14 = .ok (.iload_n 2, 1) := by decide +kernel
theorem dX6_addLodger_15 : decode cX6_addLodger 15 = .ok (.iload_n 3, 1) := by decide +kernel
theorem dX6_addLodger_16 : decode cX6_addLodger 16 = .ok (.aload_n 0, 1) := by decide +kernel
theorem dX6_addLodger_17 : decode cX6_addLodger 17 = .ok (.iload_n 1, 1) := by decide +kernel
theorem dX6_addLodger_18 : decode cX6_addLodger 18 = .ok (.iload_n 3, 1) := by decide +kernel
theorem dX6_addLodger_19 : decode cX6_addLodger 19 = .ok (.invokevirtual 64, 3) := by decide +kernel
theorem dX6_addLodger_22 : decode cX6_addLodger 22 = .ok (.invokevirtual 77, 3) := by decide +kernel
theorem dX6_addLodger_25 : decode cX6_addLodger 25 = .ok (.iinc 3 1, 3) := by decide +kernel
theorem dX6_addLodger_28 : decode cX6_addLodger 28 = .ok (.goto (-21), 3) := by decide +kernel
theorem dX6_addLodger_31 : decode cX6_addLodger 31 = .ok (.aload_n 0, 1) := by decide +kernel
theorem dX6_addLodger_32 : decode cX6_addLodger 32 = .ok (.iload_n 1, 1) := by decide +kernel
theorem dX6_addLodger_33 : decode cX6_addLodger 33 = .ok (.invokevirtual 81, 3) := by decide +kernel
theorem dX6_addLodger_36 : decode cX6_addLodger 36 = .ok (.ifCond .eq 15, 3) := by decide +kernel
theorem dX6_addLodger_39 : decode cX6_addLodger 39 = .ok (.aload_n 0, 1) := by decide +kernel
theorem dX6_addLodger_40 : decode cX6_addLodger 40 = .ok (.dup, 1) := by decide +kernel
theorem dX6_addLodger_41 : decode cX6_addLodger 41 = .ok (.getfield 31, 3) := by decide +kernel
theorem dX6_addLodger_44 : decode cX6_addLodger 44 = .ok (.iconst 1, 1) := by decide +kernel
theorem dX6_addLodger_45 : decode cX6_addLodger 45 = .ok (.iload_n 2, 1) := by decide +kernel
theorem dX6_addLodger_46 : decode cX6_addLodger 46 = .ok (.ishl, 1) := by decide +kernel
theorem dX6_addLodger_47 : decode cX6_addLodger 47 = .ok (.ior, 1) := by decide +kernel
theorem dX6_addLodger_48 : decode cX6_addLodger 48 = .ok (.putfield 31, 3) := by decide +kernel
theorem dX6_addLodger_51 : decode cX6_addLodger 51 = .ok (.aload_n 0, 1) := by decide +kernel
theorem dX6_addLodger_52 : decode cX6_addLodger 52 = .ok (.dup, 1) := by decide +kernel
theorem dX6_addLodger_53 : decode cX6_addLodger 53 = .ok (.getfield 21, 3) := by decide +kernel
theorem dX6_addLodger_56 : decode cX6_addLodger 56 = .ok (.iconst 1, 1) := by decide +kernel
theorem dX6_addLodger_57 : decode cX6_addLodger 57 = .ok (.iadd, 1) := by decide +kernel
theorem dX6_addLodger_58 : decode cX6_addLodger 58 = .ok (.putfield 21, 3) := by decide +kernel
theorem dX6_addLodger_61 : decode cX6_addLodger 61 = .ok (.iload_n 2, 1) := by decide +kernel
theorem dX6_addLodger_62 : decode cX6_addLodger 62 = .ok (.ireturn, 1) := by decide +kernel
noncomputable def fX6_addLodger_L7 (V : VT) (i : Nat) (u1 : Int32) (u2 : Int32) (u3 : Int32) : Option ((VT × Int32 × Int32 × Int32) ⊕ (VT × Int32 × Int32)) := if (7 : Int32) ≤ u3 then (some (.inr ((V, u1, u2)))) else (ob_R (fX6_ofHouse V i u1 u3) fun y3 => ob_R (fX6_setHouse V i u2 u3 y3) fun V5 => lt_ (u3 + (1 : Int32)) fun y6 => some (.inl (V5, u1, u2, y6)))
noncomputable def iX6_addLodger_L7 (i : Nat) : (VT × Int32 × Int32 × Int32) → Option ((VT × Int32 × Int32 × Int32) ⊕ (VT × Int32 × Int32)) := fun q => fX6_addLodger_L7 (q.1) i (q.2.1) (q.2.2.1) (q.2.2.2)
noncomputable def fX6_addLodger (V : VT) (i : Nat) (x1 : Int32) : Option (Int32 × VT) := lt_ (V i 3) fun y1 => ob_R (it_ (iX6_addLodger_L7 i) FV (V, x1, y1, (0 : Int32))) fun x9 => (dt3_ x9 fun V12 y10 y11 => ob_R (fX6_isAway V12 i y10) fun y14 => if y14 = 0 then (lt_ (va_up V12 i (upd (V12 i) 3 ((V12 i 3) + (1 : Int32)))) fun V15 => some (y11, V15)) else (lt_ (va_up V12 i (upd (V12 i) 6 ((V12 i 6) ||| ((1 : Int32) <<< (y11 &&& 31))))) fun V16 => lt_ (va_up V16 i (upd (V16 i) 3 ((V16 i 3) + (1 : Int32)))) fun V17 => some (y11, V17)))
set_option maxHeartbeats 4000000 in
set_option maxRecDepth 100000 in
theorem wX6_addLodger_L7 {p : Program} {l : Launch} {e : Env} {s : State} {m : MethodId} {args : Array Value} {below : List Frame} {meth : Method} {c : Code} {G : GT} {B : BGt} {Q : State → Prop} (E : En p s m args c meth cX6_addLodger 4 RX6 (some .int) G B) {i : Nat} (hs_i : isSt i) {x : (VT × Int32 × Int32)} (ke : ∀ q : (VT × Int32 × Int32), x = q → ∀ (H : Heap) (locs : List Loc) (ls : Array Slot), HW G s.heap (q.1) H locs → lv_has ls 4 [(0, .ref (G.2.2 i)), (1, .int (q.2.1)), (2, .int (q.2.2))] → W p l e (rmD 3) s m args below meth c H locs 0 0 Q (F0 m 31 ls [])) : ∀ (n : Nat) (q : (VT × Int32 × Int32 × Int32)), it_ (iX6_addLodger_L7 i) n q = some x → ∀ (H : Heap) (locs : List Loc) (ls : Array Slot), HW G s.heap (q.1) H locs → lv_has ls 4 [(0, .ref (G.2.2 i)), (1, .int (q.2.1)), (2, .int (q.2.2.1)), (3, .int (q.2.2.2))] → W p l e (rmD 3) s m args below meth c H locs 0 0 Q (F0 m 7 ls []) := by
  have hx := en_x E
  have hb := en_b E
  have hB := en_B E
  refine it_W (fun q : (VT × Int32 × Int32 × Int32) => ∀ (H : Heap) (locs : List Loc) (ls : Array Slot), HW G s.heap (q.1) H locs → lv_has ls 4 [(0, .ref (G.2.2 i)), (1, .int (q.2.1)), (2, .int (q.2.2.1)), (3, .int (q.2.2.2))] → W p l e (rmD 3) s m args below meth c H locs 0 0 Q (F0 m 7 ls [])) x ?_
  intro q r h kc kx
  obtain ⟨V, u1, u2, u3⟩ := q
  intro H locs ls hw hl
  have h : fX6_addLodger_L7 V i u1 u2 u3 = some r := h
  have hw : HW G s.heap V H locs := hw
  have hl : lv_has ls 4 [(0, .ref (G.2.2 i)), (1, .int u1), (2, .int u2), (3, .int u3)] := hl
  have ke : ∀ q : (VT × Int32 × Int32), r = .inr (q) → ∀ (H : Heap) (locs : List Loc) (ls : Array Slot), HW G s.heap (q.1) H locs → lv_has ls 4 [(0, .ref (G.2.2 i)), (1, .int (q.2.1)), (2, .int (q.2.2))] → W p l e (rmD 3) s m args below meth c H locs 0 0 Q (F0 m 31 ls []) := fun q e => ke q (kx _ e).symm
  unfold fX6_addLodger_L7 at h
  refine lv_iload_n hx hb dX6_addLodger_7 rfl (lv_at hl 3 rfl) ?_
  refine lv_bipush (v := (7 : Int32)) hx hb dX6_addLodger_8 (by decide) ?_
  refine lv_icmp_ge (tgt := 31) hx hb dX6_addLodger_10 (by decide) (fun c7 => ?_) (fun c7 => ?_)
  · rw [if_pos c7] at h
    exact ke (V, u1, u2) (Option.some.inj h).symm H locs ls hw (lv_sub hl [0, 1, 2] rfl)
  · rw [if_neg c7] at h
    refine lv_aload_n hx hb dX6_addLodger_13 rfl (lv_at hl 0 rfl) ?_
    refine lv_iload_n hx hb dX6_addLodger_14 rfl (lv_at hl 2 rfl) ?_
    refine lv_iload_n hx hb dX6_addLodger_15 rfl (lv_at hl 3 rfl) ?_
    refine lv_aload_n hx hb dX6_addLodger_16 rfl (lv_at hl 0 rfl) ?_
    refine lv_iload_n hx hb dX6_addLodger_17 rfl (lv_at hl 1 rfl) ?_
    refine lv_iload_n hx hb dX6_addLodger_18 rfl (lv_at hl 3 rfl) ?_
    obtain ⟨y3, h2, h⟩ := ob_R_some h
    refine c_VI E hw (kX6_ofHouse (l := l) (G := G) hB hs_i h2) yy_X6_ofHouse lm_RX6_64 rfl (st_lt hs_i) (st_c hs_i) rfl hl.1 (by decide) (by decide) rfl (Nat.le_of_ble_eq_true rfl) dX6_addLodger_19 (fun H locs hw => ?_)
    obtain ⟨V5, h4, h⟩ := ob_R_some h
    refine c_VV E hw (kX6_setHouse (l := l) (G := G) hB hs_i h4) yy_X6_setHouse lm_RX6_77 rfl (st_lt hs_i) (st_c hs_i) rfl hl.1 (by decide) (by decide) rfl (Nat.le_of_ble_eq_true rfl) dX6_addLodger_22 (fun H locs hw => ?_)
    obtain ⟨y6, ey6, h⟩ := lt_some h
    refine lv_iinc (v := y6) (lv' := [(3, .int y6), (0, .ref (G.2.2 i)), (1, .int u1), (2, .int u2)]) hx hb dX6_addLodger_25 hl (k := 3) rfl (by rw [ey6]; rfl) (by decide) rfl (fun ls hl => ?_)
    refine lv_goto (tgt := 7) hx hb dX6_addLodger_28 (by decide) ?_
    exact kc (V5, u1, u2, y6) (Option.some.inj h).symm H locs ls hw (lv_sub hl [1, 2, 3, 0] rfl)
set_option maxHeartbeats 4000000 in
set_option maxRecDepth 100000 in
theorem kX6_addLodger {l : Launch} {G : GT} {B : BGt} (hB : BGok B) {V : VT} {i : Nat} (hs_i : isSt i) {x1 : Int32} {r : (Int32 × VT)} (h : fX6_addLodger V i x1 = some r) : CI l G B yX6_addLodger (.code yX6_addLodger cX6_addLodger 4 (some .int)) 3 [.ref (G.2.2 i), .int x1] V r.1 r.2 := by
  intro sz
  refine met_of (Qs := fun sz => QI G sz (r.1) (r.2)) hB (by decide) (Nat.le_of_ble_eq_true rfl) ?_ sz
  intro p e s m args below meth c ls E hw hl
  have hx := en_x E
  have hb := en_b E
  generalize hQ : MQ _ _ _ _ _ _ _ = Q
  have kr : Q = MQ below (QI G s.heap.size r.1 r.2) args s 0 0 (gA G s.heap.size) := hQ.symm
  have hl : lv_has ls 4 [(0, .ref (G.2.2 i)), (1, .int x1)] := hl
  obtain ⟨H, eH⟩ : ∃ H, H = s.heap := ⟨_, rfl⟩
  obtain ⟨locs, elocs⟩ : ∃ z : List Loc, z = [] := ⟨_, rfl⟩
  have hw : HW G s.heap V H locs := by rw [eH, elocs]; exact hw
  show W p l e _ s m args below meth c s.heap [] 0 0 Q (F0 m 0 ls [])
  rw [← eH, ← elocs]
  unfold fX6_addLodger at h
  refine lv_aload_n hx hb dX6_addLodger_0 rfl (lv_at hl 0 rfl) ?_
  refine r_gi E hw i 3 (N := 13) (C := RX6) (T := TX6) (st_lt hs_i) (st_c hs_i) (st_N hs_i) (by decide) (st_n hs_i (k := 3) (by decide)) iw_6 rfl lf_RX6_21 dX6_addLodger_1 ?_
  obtain ⟨y1, ey1, h⟩ := lt_some h
  refine lv_eqi ey1 ?_
  refine lv_istore_n (lv' := [(2, .int y1), (0, .ref (G.2.2 i)), (1, .int x1)]) hx hb dX6_addLodger_4 rfl hl (by decide) rfl (fun ls hl => ?_)
  refine lv_iconst (v := (0 : Int32)) hx hb dX6_addLodger_5 (by decide) ?_
  refine lv_istore_n (lv' := [(3, .int (0 : Int32)), (2, .int y1), (0, .ref (G.2.2 i)), (1, .int x1)]) hx hb dX6_addLodger_6 rfl hl (by decide) rfl (fun ls hl => ?_)
  obtain ⟨x9, h8, h⟩ := ob_R_some h
  obtain ⟨V12, y10, y11⟩ := x9
  refine wX6_addLodger_L7 E hs_i (fun q e H locs ls hw hl => ?_) FV (V, x1, y1, (0 : Int32)) h8 H locs ls hw (lv_sub hl [2, 3, 1, 0] rfl)
  subst e
  have hw : HW G s.heap V12 H locs := hw
  have hl : lv_has ls 4 [(0, .ref (G.2.2 i)), (1, .int y10), (2, .int y11)] := hl
  have h := dt3_eq h
  refine lv_aload_n hx hb dX6_addLodger_31 rfl (lv_at hl 0 rfl) ?_
  refine lv_iload_n hx hb dX6_addLodger_32 rfl (lv_at hl 1 rfl) ?_
  obtain ⟨y14, h13, h⟩ := ob_R_some h
  refine c_VI E hw (kX6_isAway (l := l) (G := G) hB hs_i h13) yy_X6_isAway lm_RX6_81 rfl (st_lt hs_i) (st_c hs_i) rfl hl.1 (by decide) (by decide) rfl (Nat.le_of_ble_eq_true rfl) dX6_addLodger_33 (fun H locs hw => ?_)
  refine lv_if_eq (tgt := 51) hx hb dX6_addLodger_36 (by decide) (fun c18 => ?_) (fun c18 => ?_)
  · rw [if_pos c18] at h
    refine lv_aload_n hx hb dX6_addLodger_51 rfl (lv_at hl 0 rfl) ?_
    refine lv_dup hx hb dX6_addLodger_52 rfl ?_
    refine r_gi E hw i 3 (N := 13) (C := RX6) (T := TX6) (st_lt hs_i) (st_c hs_i) (st_N hs_i) (by decide) (st_n hs_i (k := 3) (by decide)) iw_6 rfl lf_RX6_21 dX6_addLodger_53 ?_
    refine lv_iconst (v := (1 : Int32)) hx hb dX6_addLodger_56 (by decide) ?_
    refine lv_iadd hx hb dX6_addLodger_57 ?_
    obtain ⟨V15, eV15, h⟩ := lt_some h
    refine r_pi E hw i 3 (N := 13) (C := RX6) (T := TX6) (ty0 := tyX6) (ty := .int) (st_lt hs_i) (st_c hs_i) (st_N hs_i) (by decide) (st_n hs_i (k := 3) (by decide)) iw_6 rfl tyX6_ok nmX6 rfl rfl (vp_nar_int _) rfl lf_RX6_21 eV15 dX6_addLodger_58 (fun H locs hw => ?_)
    refine lv_iload_n hx hb dX6_addLodger_61 rfl (lv_at hl 2 rfl) ?_
    have h := Option.some.inj h
    subst h
    rw [kr]
    exact r_ri E hw dX6_addLodger_62
  · rw [if_neg c18] at h
    refine lv_aload_n hx hb dX6_addLodger_39 rfl (lv_at hl 0 rfl) ?_
    refine lv_dup hx hb dX6_addLodger_40 rfl ?_
    refine r_gi E hw i 6 (N := 13) (C := RX6) (T := TX6) (st_lt hs_i) (st_c hs_i) (st_N hs_i) (by decide) (st_n hs_i (k := 6) (by decide)) iw_6 rfl lf_RX6_31 dX6_addLodger_41 ?_
    refine lv_iconst (v := (1 : Int32)) hx hb dX6_addLodger_44 (by decide) ?_
    refine lv_iload_n hx hb dX6_addLodger_45 rfl (lv_at hl 2 rfl) ?_
    refine lv_ishl hx hb dX6_addLodger_46 ?_
    refine lv_ior hx hb dX6_addLodger_47 ?_
    obtain ⟨V16, eV16, h⟩ := lt_some h
    refine r_pi E hw i 6 (N := 13) (C := RX6) (T := TX6) (ty0 := tyX6) (ty := .int) (st_lt hs_i) (st_c hs_i) (st_N hs_i) (by decide) (st_n hs_i (k := 6) (by decide)) iw_6 rfl tyX6_ok nmX6 rfl rfl (vp_nar_int _) rfl lf_RX6_31 eV16 dX6_addLodger_48 (fun H locs hw => ?_)
    refine lv_aload_n hx hb dX6_addLodger_51 rfl (lv_at hl 0 rfl) ?_
    refine lv_dup hx hb dX6_addLodger_52 rfl ?_
    refine r_gi E hw i 3 (N := 13) (C := RX6) (T := TX6) (st_lt hs_i) (st_c hs_i) (st_N hs_i) (by decide) (st_n hs_i (k := 3) (by decide)) iw_6 rfl lf_RX6_21 dX6_addLodger_53 ?_
    refine lv_iconst (v := (1 : Int32)) hx hb dX6_addLodger_56 (by decide) ?_
    refine lv_iadd hx hb dX6_addLodger_57 ?_
    obtain ⟨V17, eV17, h⟩ := lt_some h
    refine r_pi E hw i 3 (N := 13) (C := RX6) (T := TX6) (ty0 := tyX6) (ty := .int) (st_lt hs_i) (st_c hs_i) (st_N hs_i) (by decide) (st_n hs_i (k := 3) (by decide)) iw_6 rfl tyX6_ok nmX6 rfl rfl (vp_nar_int _) rfl lf_RX6_21 eV17 dX6_addLodger_58 (fun H locs hw => ?_)
    refine lv_iload_n hx hb dX6_addLodger_61 rfl (lv_at hl 2 rfl) ?_
    have h := Option.some.inj h
    subst h
    rw [kr]
    exact r_ri E hw dX6_addLodger_62
/-! ===== AllSawIt$State.ofDeed(II)I ===== -/
theorem dX6_ofDeed_0 : decode cX6_ofDeed 0 = .ok (.iload_n 1, 1) := by decide +kernel
theorem dX6_ofDeed_1 : decode cX6_ofDeed 1 = .ok (.iconst 5, 1) := by decide +kernel
theorem dX6_ofDeed_2 : decode cX6_ofDeed 2 = .ok (.imul, 1) := by decide +kernel
theorem dX6_ofDeed_3 : decode cX6_ofDeed 3 = .ok (.iload_n 2, 1) := by decide +kernel
theorem dX6_ofDeed_4 : decode cX6_ofDeed 4 = .ok (.iadd, 1) := by decide +kernel
theorem dX6_ofDeed_5 : decode cX6_ofDeed 5 = .ok (.istore_n 3, 1) := by decide +kernel
theorem dX6_ofDeed_6 : decode cX6_ofDeed 6 = .ok (.iload_n 3, 1) := by decide +kernel
theorem dX6_ofDeed_7 : decode cX6_ofDeed 7 = .ok (.ifCond .lt 21, 3) := by decide +kernel
theorem dX6_ofDeed_10 : decode cX6_ofDeed 10 = .ok (.iload_n 3, 1) := by decide +kernel
theorem dX6_ofDeed_11 : decode cX6_ofDeed 11 = .ok (.aload_n 0, 1) := by decide +kernel
theorem dX6_ofDeed_12 : decode cX6_ofDeed 12 = .ok (.getfield 15, 3) := by decide +kernel
theorem dX6_ofDeed_15 : decode cX6_ofDeed 15 = .ok (.arraylength, 1) := by decide +kernel
theorem dX6_ofDeed_16 : decode cX6_ofDeed 16 = .ok (.if_icmp .ge 12, 3) := by decide +kernel
theorem dX6_ofDeed_19 : decode cX6_ofDeed 19 = .ok (.aload_n 0, 1) := by decide +kernel
theorem dX6_ofDeed_20 : decode cX6_ofDeed 20 = .ok (.getfield 15, 3) := by decide +kernel
theorem dX6_ofDeed_23 : decode cX6_ofDeed 23 = .ok (.iload_n 3, 1) := by decide +kernel
theorem dX6_ofDeed_24 : decode cX6_ofDeed 24 = .ok (.iaload, 1) := by decide +kernel
theorem dX6_ofDeed_25 : decode cX6_ofDeed 25 = .ok (.goto 4, 3) := by decide +kernel
theorem dX6_ofDeed_28 : decode cX6_ofDeed 28 = .ok (.iconst 0, 1) := by decide +kernel
theorem dX6_ofDeed_29 : decode cX6_ofDeed 29 = .ok (.ireturn, 1) := by decide +kernel
noncomputable def fX6_ofDeed (V : VT) (i : Nat) (x1 : Int32) (x2 : Int32) : Option Int32 := lt_ ((x1 * (5 : Int32)) + x2) fun y1 => if y1 < 0 then (some (0 : Int32)) else (if (nI 50) ≤ y1 then (some (0 : Int32)) else (rd_ y1 50 (some (V (18 + 3 * i + 1) y1.toNatClampNeg))))
set_option maxHeartbeats 4000000 in
set_option maxRecDepth 100000 in
theorem kX6_ofDeed {l : Launch} {G : GT} {B : BGt} (hB : BGok B) {V : VT} {i : Nat} (hs_i : isSt i) {x1 : Int32} {x2 : Int32} {r : Int32} (h : fX6_ofDeed V i x1 x2 = some r) : CI l G B yX6_ofDeed (.code yX6_ofDeed cX6_ofDeed 4 (some .int)) 2 [.ref (G.2.2 i), .int x1, .int x2] V r V := by
  intro sz
  refine met_of (Qs := fun sz => QI G sz r V) hB (by decide) (Nat.le_of_ble_eq_true rfl) ?_ sz
  intro p e s m args below meth c ls E hw hl
  have hx := en_x E
  have hb := en_b E
  generalize hQ : MQ _ _ _ _ _ _ _ = Q
  have kr : Q = MQ below (QI G s.heap.size r V) args s 0 0 (gA G s.heap.size) := hQ.symm
  have hl : lv_has ls 4 [(0, .ref (G.2.2 i)), (1, .int x1), (2, .int x2)] := hl
  obtain ⟨H, eH⟩ : ∃ H, H = s.heap := ⟨_, rfl⟩
  obtain ⟨locs, elocs⟩ : ∃ z : List Loc, z = [] := ⟨_, rfl⟩
  have hw : HW G s.heap V H locs := by rw [eH, elocs]; exact hw
  show W p l e _ s m args below meth c s.heap [] 0 0 Q (F0 m 0 ls [])
  rw [← eH, ← elocs]
  unfold fX6_ofDeed at h
  refine lv_iload_n hx hb dX6_ofDeed_0 rfl (lv_at hl 1 rfl) ?_
  refine lv_iconst (v := (5 : Int32)) hx hb dX6_ofDeed_1 (by decide) ?_
  refine lv_imul hx hb dX6_ofDeed_2 ?_
  refine lv_iload_n hx hb dX6_ofDeed_3 rfl (lv_at hl 2 rfl) ?_
  refine lv_iadd hx hb dX6_ofDeed_4 ?_
  obtain ⟨y1, ey1, h⟩ := lt_some h
  refine lv_eqi ey1 ?_
  refine lv_istore_n (lv' := [(3, .int y1), (0, .ref (G.2.2 i)), (1, .int x1), (2, .int x2)]) hx hb dX6_ofDeed_5 rfl hl (by decide) rfl (fun ls hl => ?_)
  refine lv_iload_n hx hb dX6_ofDeed_6 rfl (lv_at hl 0 rfl) ?_
  refine lv_if_lt (tgt := 28) hx hb dX6_ofDeed_7 (by decide) (fun c4 => ?_) (fun c4 => ?_)
  · rw [if_pos c4] at h
    refine lv_iconst (v := (0 : Int32)) hx hb dX6_ofDeed_28 (by decide) ?_
    have h := Option.some.inj h
    subst h
    rw [kr]
    exact r_ri E hw dX6_ofDeed_29
  · rw [if_neg c4] at h
    refine lv_iload_n hx hb dX6_ofDeed_10 rfl (lv_at hl 0 rfl) ?_
    refine lv_aload_n hx hb dX6_ofDeed_11 rfl (lv_at hl 1 rfl) ?_
    refine r_gr E hw i 1 (18 + 3 * i + 1) (N := 13) (C := RX6) (T := TX6) (st_lt hs_i) (st_c hs_i) (st_N hs_i) (by decide) (st_R hs_i (k := 1) (by decide)) iw_6 rfl lf_RX6_15 dX6_ofDeed_12 ?_
    refine r_al E hw (18 + 3 * i + 1) 50 (st_a1 hs_i (by decide)) (st_a2 hs_i (by decide)) (st_a3 hs_i (by decide)) (st_L1 hs_i) dX6_ofDeed_15 ?_
    refine lv_icmp_ge (tgt := 28) hx hb dX6_ofDeed_16 (by decide) (fun c3 => ?_) (fun c3 => ?_)
    · rw [if_pos c3] at h
      refine lv_iconst (v := (0 : Int32)) hx hb dX6_ofDeed_28 (by decide) ?_
      have h := Option.some.inj h
      subst h
      rw [kr]
      exact r_ri E hw dX6_ofDeed_29
    · rw [if_neg c3] at h
      refine lv_aload_n hx hb dX6_ofDeed_19 rfl (lv_at hl 1 rfl) ?_
      refine r_gr E hw i 1 (18 + 3 * i + 1) (N := 13) (C := RX6) (T := TX6) (st_lt hs_i) (st_c hs_i) (st_N hs_i) (by decide) (st_R hs_i (k := 1) (by decide)) iw_6 rfl lf_RX6_15 dX6_ofDeed_20 ?_
      refine lv_iload_n hx hb dX6_ofDeed_23 rfl (lv_at hl 0 rfl) ?_
      obtain ⟨b2, h⟩ := rd_some h
      refine r_ia E hw (18 + 3 * i + 1) 50 (st_a1 hs_i (by decide)) (st_a2 hs_i (by decide)) (st_a3 hs_i (by decide)) (st_a4 hs_i (by decide)) (st_L1 hs_i) b2 dX6_ofDeed_24 ?_
      refine lv_goto (tgt := 29) hx hb dX6_ofDeed_25 (by decide) ?_
      have h := Option.some.inj h
      subst h
      rw [kr]
      exact r_ri E hw dX6_ofDeed_29
/-! ===== AllSawIt$State.setDeed(III)V ===== -/
theorem dX6_setDeed_0 : decode cX6_setDeed 0 = .ok (.iload_n 1, 1) := by decide +kernel
theorem dX6_setDeed_1 : decode cX6_setDeed 1 = .ok (.iconst 5, 1) := by decide +kernel
theorem dX6_setDeed_2 : decode cX6_setDeed 2 = .ok (.imul, 1) := by decide +kernel
theorem dX6_setDeed_3 : decode cX6_setDeed 3 = .ok (.iload_n 2, 1) := by decide +kernel
theorem dX6_setDeed_4 : decode cX6_setDeed 4 = .ok (.iadd, 1) := by decide +kernel
theorem dX6_setDeed_5 : decode cX6_setDeed 5 = .ok (.istore 4, 2) := by decide +kernel
theorem dX6_setDeed_7 : decode cX6_setDeed 7 = .ok (.iload 4, 2) := by decide +kernel
theorem dX6_setDeed_9 : decode cX6_setDeed 9 = .ok (.ifCond .lt 21, 3) := by decide +kernel
theorem dX6_setDeed_12 : decode cX6_setDeed 12 = .ok (.iload 4, 2) := by decide +kernel
theorem dX6_setDeed_14 : decode cX6_setDeed 14 = .ok (.aload_n 0, 1) := by decide +kernel
theorem dX6_setDeed_15 : decode cX6_setDeed 15 = .ok (.getfield 15, 3) := by decide +kernel
theorem dX6_setDeed_18 : decode cX6_setDeed 18 = .ok (.arraylength, 1) := by decide +kernel
theorem dX6_setDeed_19 : decode cX6_setDeed 19 = .ok (.if_icmp .ge 11, 3) := by decide +kernel
theorem dX6_setDeed_22 : decode cX6_setDeed 22 = .ok (.aload_n 0, 1) := by decide +kernel
theorem dX6_setDeed_23 : decode cX6_setDeed 23 = .ok (.getfield 15, 3) := by decide +kernel
theorem dX6_setDeed_26 : decode cX6_setDeed 26 = .ok (.iload 4, 2) := by decide +kernel
theorem dX6_setDeed_28 : decode cX6_setDeed 28 = .ok (.iload_n 3, 1) := by decide +kernel
theorem dX6_setDeed_29 : decode cX6_setDeed 29 = .ok (.iastore, 1) := by decide +kernel
theorem dX6_setDeed_30 : decode cX6_setDeed 30 = .ok (.return_, 1) := by decide +kernel
noncomputable def fX6_setDeed (V : VT) (i : Nat) (x1 : Int32) (x2 : Int32) (x3 : Int32) : Option VT := lt_ ((x1 * (5 : Int32)) + x2) fun y1 => if y1 < 0 then (some V) else (if (nI 50) ≤ y1 then (some V) else (rd_ y1 50 (lt_ (va_up V (18 + 3 * i + 1) (upd (V (18 + 3 * i + 1)) y1.toNatClampNeg x3)) fun V3 => some V3)))
set_option maxHeartbeats 4000000 in
set_option maxRecDepth 100000 in
theorem kX6_setDeed {l : Launch} {G : GT} {B : BGt} (hB : BGok B) {V : VT} {i : Nat} (hs_i : isSt i) {x1 : Int32} {x2 : Int32} {x3 : Int32} {r : VT} (h : fX6_setDeed V i x1 x2 x3 = some r) : CV l G B yX6_setDeed (.code yX6_setDeed cX6_setDeed 5 none) 2 [.ref (G.2.2 i), .int x1, .int x2, .int x3] V r := by
  intro sz
  refine met_of (Qs := fun sz => QV G sz r) hB (by decide) (Nat.le_of_ble_eq_true rfl) ?_ sz
  intro p e s m args below meth c ls E hw hl
  have hx := en_x E
  have hb := en_b E
  generalize hQ : MQ _ _ _ _ _ _ _ = Q
  have kr : Q = MQ below (QV G s.heap.size r) args s 0 0 (gA G s.heap.size) := hQ.symm
  have hl : lv_has ls 5 [(0, .ref (G.2.2 i)), (1, .int x1), (2, .int x2), (3, .int x3)] := hl
  obtain ⟨H, eH⟩ : ∃ H, H = s.heap := ⟨_, rfl⟩
  obtain ⟨locs, elocs⟩ : ∃ z : List Loc, z = [] := ⟨_, rfl⟩
  have hw : HW G s.heap V H locs := by rw [eH, elocs]; exact hw
  show W p l e _ s m args below meth c s.heap [] 0 0 Q (F0 m 0 ls [])
  rw [← eH, ← elocs]
  unfold fX6_setDeed at h
  refine lv_iload_n hx hb dX6_setDeed_0 rfl (lv_at hl 1 rfl) ?_
  refine lv_iconst (v := (5 : Int32)) hx hb dX6_setDeed_1 (by decide) ?_
  refine lv_imul hx hb dX6_setDeed_2 ?_
  refine lv_iload_n hx hb dX6_setDeed_3 rfl (lv_at hl 2 rfl) ?_
  refine lv_iadd hx hb dX6_setDeed_4 ?_
  obtain ⟨y1, ey1, h⟩ := lt_some h
  refine lv_eqi ey1 ?_
  refine lv_istore (lv' := [(4, .int y1), (0, .ref (G.2.2 i)), (1, .int x1), (2, .int x2), (3, .int x3)]) hx hb dX6_setDeed_5 hl (by decide) rfl (fun ls hl => ?_)
  refine lv_iload hx hb dX6_setDeed_7 (lv_at hl 0 rfl) ?_
  refine lv_if_lt (tgt := 30) hx hb dX6_setDeed_9 (by decide) (fun c5 => ?_) (fun c5 => ?_)
  · rw [if_pos c5] at h
    have h := Option.some.inj h
    subst h
    rw [kr]
    exact r_rv E hw dX6_setDeed_30
  · rw [if_neg c5] at h
    refine lv_iload hx hb dX6_setDeed_12 (lv_at hl 0 rfl) ?_
    refine lv_aload_n hx hb dX6_setDeed_14 rfl (lv_at hl 1 rfl) ?_
    refine r_gr E hw i 1 (18 + 3 * i + 1) (N := 13) (C := RX6) (T := TX6) (st_lt hs_i) (st_c hs_i) (st_N hs_i) (by decide) (st_R hs_i (k := 1) (by decide)) iw_6 rfl lf_RX6_15 dX6_setDeed_15 ?_
    refine r_al E hw (18 + 3 * i + 1) 50 (st_a1 hs_i (by decide)) (st_a2 hs_i (by decide)) (st_a3 hs_i (by decide)) (st_L1 hs_i) dX6_setDeed_18 ?_
    refine lv_icmp_ge (tgt := 30) hx hb dX6_setDeed_19 (by decide) (fun c4 => ?_) (fun c4 => ?_)
    · rw [if_pos c4] at h
      have h := Option.some.inj h
      subst h
      rw [kr]
      exact r_rv E hw dX6_setDeed_30
    · rw [if_neg c4] at h
      refine lv_aload_n hx hb dX6_setDeed_22 rfl (lv_at hl 1 rfl) ?_
      refine r_gr E hw i 1 (18 + 3 * i + 1) (N := 13) (C := RX6) (T := TX6) (st_lt hs_i) (st_c hs_i) (st_N hs_i) (by decide) (st_R hs_i (k := 1) (by decide)) iw_6 rfl lf_RX6_15 dX6_setDeed_23 ?_
      refine lv_iload hx hb dX6_setDeed_26 (lv_at hl 0 rfl) ?_
      refine lv_iload_n hx hb dX6_setDeed_28 rfl (lv_at hl 4 rfl) ?_
      obtain ⟨b2, h⟩ := rd_some h
      obtain ⟨V3, eV3, h⟩ := lt_some h
      refine r_is E hw (18 + 3 * i + 1) 50 (st_a1 hs_i (by decide)) (st_a2 hs_i (by decide)) (st_a3 hs_i (by decide)) (st_a4 hs_i (by decide)) (st_L1 hs_i) b2 eV3 dX6_setDeed_29 (fun H locs hw => ?_)
      have h := Option.some.inj h
      subst h
      rw [kr]
      exact r_rv E hw dX6_setDeed_30
/-! ===== AllSawIt$State.isSo(I)Z ===== -/
theorem dX6_isSo_0 : decode cX6_isSo 0 = .ok (.aload_n 0, 1) := by decide +kernel
theorem dX6_isSo_1 : decode cX6_isSo 1 = .ok (.getfield 34, 3) := by decide +kernel
theorem dX6_isSo_4 : decode cX6_isSo 4 = .ok (.iload_n 1, 1) := by decide +kernel
theorem dX6_isSo_5 : decode cX6_isSo 5 = .ok (.ishr, 1) := by decide +kernel
theorem dX6_isSo_6 : decode cX6_isSo 6 = .ok (.iconst 1, 1) := by decide +kernel
theorem dX6_isSo_7 : decode cX6_isSo 7 = .ok (.iand, 1) := by decide +kernel
theorem dX6_isSo_8 : decode cX6_isSo 8 = .ok (.iconst 1, 1) := by decide +kernel
theorem dX6_isSo_9 : decode cX6_isSo 9 = .ok (.if_icmp .ne 7, 3) := by decide +kernel
theorem dX6_isSo_12 : decode cX6_isSo 12 = .ok (.iconst 1, 1) := by decide +kernel
theorem dX6_isSo_13 : decode cX6_isSo 13 = .ok (.goto 4, 3) := by decide +kernel
theorem dX6_isSo_16 : decode cX6_isSo 16 = .ok (.iconst 0, 1) := by decide +kernel
theorem dX6_isSo_17 : decode cX6_isSo 17 = .ok (.ireturn, 1) := by decide +kernel
noncomputable def fX6_isSo (V : VT) (i : Nat) (x1 : Int32) : Option Int32 := if (((V i 7) >>> (x1 &&& 31)) &&& (1 : Int32)) = (1 : Int32) then (zo_ (1 : Int32) (some (1 : Int32))) else (zo_ (0 : Int32) (some (0 : Int32)))
set_option maxHeartbeats 4000000 in
set_option maxRecDepth 100000 in
theorem kX6_isSo {l : Launch} {G : GT} {B : BGt} (hB : BGok B) {V : VT} {i : Nat} (hs_i : isSt i) {x1 : Int32} {r : Int32} (h : fX6_isSo V i x1 = some r) : CI l G B yX6_isSo (.code yX6_isSo cX6_isSo 2 (some .boolean)) 2 [.ref (G.2.2 i), .int x1] V r V := by
  intro sz
  refine met_of (Qs := fun sz => QI G sz r V) hB (by decide) (Nat.le_of_ble_eq_true rfl) ?_ sz
  intro p e s m args below meth c ls E hw hl
  have hx := en_x E
  have hb := en_b E
  generalize hQ : MQ _ _ _ _ _ _ _ = Q
  have kr : Q = MQ below (QI G s.heap.size r V) args s 0 0 (gA G s.heap.size) := hQ.symm
  have hl : lv_has ls 2 [(0, .ref (G.2.2 i)), (1, .int x1)] := hl
  obtain ⟨H, eH⟩ : ∃ H, H = s.heap := ⟨_, rfl⟩
  obtain ⟨locs, elocs⟩ : ∃ z : List Loc, z = [] := ⟨_, rfl⟩
  have hw : HW G s.heap V H locs := by rw [eH, elocs]; exact hw
  show W p l e _ s m args below meth c s.heap [] 0 0 Q (F0 m 0 ls [])
  rw [← eH, ← elocs]
  unfold fX6_isSo at h
  refine lv_aload_n hx hb dX6_isSo_0 rfl (lv_at hl 0 rfl) ?_
  refine r_gi E hw i 7 (N := 13) (C := RX6) (T := TX6) (st_lt hs_i) (st_c hs_i) (st_N hs_i) (by decide) (st_n hs_i (k := 7) (by decide)) iw_6 rfl lf_RX6_34 dX6_isSo_1 ?_
  refine lv_iload_n hx hb dX6_isSo_4 rfl (lv_at hl 1 rfl) ?_
  refine lv_ishr hx hb dX6_isSo_5 ?_
  refine lv_iconst (v := (1 : Int32)) hx hb dX6_isSo_6 (by decide) ?_
  refine lv_iand hx hb dX6_isSo_7 ?_
  refine lv_iconst (v := (1 : Int32)) hx hb dX6_isSo_8 (by decide) ?_
  refine lv_icmp_ne (tgt := 16) hx hb dX6_isSo_9 (by decide) (fun c3 => ?_) (fun c3 => ?_)
  · rw [if_neg c3] at h
    refine lv_iconst (v := (0 : Int32)) hx hb dX6_isSo_16 (by decide) ?_
    obtain ⟨z1, h⟩ := zo_some h
    have h := Option.some.inj h
    subst h
    rw [kr]
    exact r_rz E hw z1 dX6_isSo_17
  · rw [if_pos c3] at h
    refine lv_iconst (v := (1 : Int32)) hx hb dX6_isSo_12 (by decide) ?_
    refine lv_goto (tgt := 17) hx hb dX6_isSo_13 (by decide) ?_
    obtain ⟨z2, h⟩ := zo_some h
    have h := Option.some.inj h
    subst h
    rw [kr]
    exact r_rz E hw z2 dX6_isSo_17
/-! ===== AllSawIt$State.hasSeen(II)Z ===== -/
theorem dX6_hasSeen_0 : decode cX6_hasSeen 0 = .ok (.aload_n 0, 1) := by decide +kernel
theorem dX6_hasSeen_1 : decode cX6_hasSeen 1 = .ok (.iload_n 2, 1) := by decide +kernel
theorem dX6_hasSeen_2 : decode cX6_hasSeen 2 = .ok (.iconst 3, 1) := by decide +kernel
theorem dX6_hasSeen_3 : decode cX6_hasSeen 3 = .ok (.invokevirtual 85, 3) := by decide +kernel
theorem dX6_hasSeen_6 : decode cX6_hasSeen 6 = .ok (.iload_n 1, 1) := by decide +kernel
theorem dX6_hasSeen_7 : decode cX6_hasSeen 7 = .ok (.ishr, 1) := by decide +kernel
theorem dX6_hasSeen_8 : decode cX6_hasSeen 8 = .ok (.iconst 1, 1) := by decide +kernel
theorem dX6_hasSeen_9 : decode cX6_hasSeen 9 = .ok (.iand, 1) := by decide +kernel
theorem dX6_hasSeen_10 : decode cX6_hasSeen 10 = .ok (.iconst 1, 1) := by decide +kernel
theorem dX6_hasSeen_11 : decode cX6_hasSeen 11 = .ok (.if_icmp .ne 7, 3) := by decide +kernel
theorem dX6_hasSeen_14 : decode cX6_hasSeen 14 = .ok (.iconst 1, 1) := by decide +kernel
theorem dX6_hasSeen_15 : decode cX6_hasSeen 15 = .ok (.goto 4, 3) := by decide +kernel
theorem dX6_hasSeen_18 : decode cX6_hasSeen 18 = .ok (.iconst 0, 1) := by decide +kernel
theorem dX6_hasSeen_19 : decode cX6_hasSeen 19 = .ok (.ireturn, 1) := by decide +kernel
noncomputable def fX6_hasSeen (V : VT) (i : Nat) (x1 : Int32) (x2 : Int32) : Option Int32 := ob_R (fX6_ofDeed V i x2 (3 : Int32)) fun y2 => if ((y2 >>> (x1 &&& 31)) &&& (1 : Int32)) = (1 : Int32) then (zo_ (1 : Int32) (some (1 : Int32))) else (zo_ (0 : Int32) (some (0 : Int32)))
set_option maxHeartbeats 4000000 in
set_option maxRecDepth 100000 in
theorem kX6_hasSeen {l : Launch} {G : GT} {B : BGt} (hB : BGok B) {V : VT} {i : Nat} (hs_i : isSt i) {x1 : Int32} {x2 : Int32} {r : Int32} (h : fX6_hasSeen V i x1 x2 = some r) : CI l G B yX6_hasSeen (.code yX6_hasSeen cX6_hasSeen 3 (some .boolean)) 3 [.ref (G.2.2 i), .int x1, .int x2] V r V := by
  intro sz
  refine met_of (Qs := fun sz => QI G sz r V) hB (by decide) (Nat.le_of_ble_eq_true rfl) ?_ sz
  intro p e s m args below meth c ls E hw hl
  have hx := en_x E
  have hb := en_b E
  generalize hQ : MQ _ _ _ _ _ _ _ = Q
  have kr : Q = MQ below (QI G s.heap.size r V) args s 0 0 (gA G s.heap.size) := hQ.symm
  have hl : lv_has ls 3 [(0, .ref (G.2.2 i)), (1, .int x1), (2, .int x2)] := hl
  obtain ⟨H, eH⟩ : ∃ H, H = s.heap := ⟨_, rfl⟩
  obtain ⟨locs, elocs⟩ : ∃ z : List Loc, z = [] := ⟨_, rfl⟩
  have hw : HW G s.heap V H locs := by rw [eH, elocs]; exact hw
  show W p l e _ s m args below meth c s.heap [] 0 0 Q (F0 m 0 ls [])
  rw [← eH, ← elocs]
  unfold fX6_hasSeen at h
  refine lv_aload_n hx hb dX6_hasSeen_0 rfl (lv_at hl 0 rfl) ?_
  refine lv_iload_n hx hb dX6_hasSeen_1 rfl (lv_at hl 2 rfl) ?_
  refine lv_iconst (v := (3 : Int32)) hx hb dX6_hasSeen_2 (by decide) ?_
  obtain ⟨y2, h1, h⟩ := ob_R_some h
  refine c_VI E hw (kX6_ofDeed (l := l) (G := G) hB hs_i h1) yy_X6_ofDeed lm_RX6_85 rfl (st_lt hs_i) (st_c hs_i) rfl hl.1 (by decide) (by decide) rfl (Nat.le_of_ble_eq_true rfl) dX6_hasSeen_3 (fun H locs hw => ?_)
  refine lv_iload_n hx hb dX6_hasSeen_6 rfl (lv_at hl 1 rfl) ?_
  refine lv_ishr hx hb dX6_hasSeen_7 ?_
  refine lv_iconst (v := (1 : Int32)) hx hb dX6_hasSeen_8 (by decide) ?_
  refine lv_iand hx hb dX6_hasSeen_9 ?_
  refine lv_iconst (v := (1 : Int32)) hx hb dX6_hasSeen_10 (by decide) ?_
  refine lv_icmp_ne (tgt := 18) hx hb dX6_hasSeen_11 (by decide) (fun c5 => ?_) (fun c5 => ?_)
  · rw [if_neg c5] at h
    refine lv_iconst (v := (0 : Int32)) hx hb dX6_hasSeen_18 (by decide) ?_
    obtain ⟨z3, h⟩ := zo_some h
    have h := Option.some.inj h
    subst h
    rw [kr]
    exact r_rz E hw z3 dX6_hasSeen_19
  · rw [if_pos c5] at h
    refine lv_iconst (v := (1 : Int32)) hx hb dX6_hasSeen_14 (by decide) ?_
    refine lv_goto (tgt := 19) hx hb dX6_hasSeen_15 (by decide) ?_
    obtain ⟨z4, h⟩ := zo_some h
    have h := Option.some.inj h
    subst h
    rw [kr]
    exact r_rz E hw z4 dX6_hasSeen_19
/-! ===== AllSawIt$State.hasSaid(II)Z ===== -/
theorem dX6_hasSaid_0 : decode cX6_hasSaid 0 = .ok (.aload_n 0, 1) := by decide +kernel
theorem dX6_hasSaid_1 : decode cX6_hasSaid 1 = .ok (.iload_n 2, 1) := by decide +kernel
theorem dX6_hasSaid_2 : decode cX6_hasSaid 2 = .ok (.iconst 4, 1) := by decide +kernel
theorem dX6_hasSaid_3 : decode cX6_hasSaid 3 = .ok (.invokevirtual 85, 3) := by decide +kernel
theorem dX6_hasSaid_6 : decode cX6_hasSaid 6 = .ok (.iload_n 1, 1) := by decide +kernel
theorem dX6_hasSaid_7 : decode cX6_hasSaid 7 = .ok (.ishr, 1) := by decide +kernel
theorem dX6_hasSaid_8 : decode cX6_hasSaid 8 = .ok (.iconst 1, 1) := by decide +kernel
theorem dX6_hasSaid_9 : decode cX6_hasSaid 9 = .ok (.iand, 1) := by decide +kernel
theorem dX6_hasSaid_10 : decode cX6_hasSaid 10 = .ok (.iconst 1, 1) := by decide +kernel
theorem dX6_hasSaid_11 : decode cX6_hasSaid 11 = .ok (.if_icmp .ne 7, 3) := by decide +kernel
theorem dX6_hasSaid_14 : decode cX6_hasSaid 14 = .ok (.iconst 1, 1) := by decide +kernel
theorem dX6_hasSaid_15 : decode cX6_hasSaid 15 = .ok (.goto 4, 3) := by decide +kernel
theorem dX6_hasSaid_18 : decode cX6_hasSaid 18 = .ok (.iconst 0, 1) := by decide +kernel
theorem dX6_hasSaid_19 : decode cX6_hasSaid 19 = .ok (.ireturn, 1) := by decide +kernel
noncomputable def fX6_hasSaid (V : VT) (i : Nat) (x1 : Int32) (x2 : Int32) : Option Int32 := ob_R (fX6_ofDeed V i x2 (4 : Int32)) fun y2 => if ((y2 >>> (x1 &&& 31)) &&& (1 : Int32)) = (1 : Int32) then (zo_ (1 : Int32) (some (1 : Int32))) else (zo_ (0 : Int32) (some (0 : Int32)))
set_option maxHeartbeats 4000000 in
set_option maxRecDepth 100000 in
theorem kX6_hasSaid {l : Launch} {G : GT} {B : BGt} (hB : BGok B) {V : VT} {i : Nat} (hs_i : isSt i) {x1 : Int32} {x2 : Int32} {r : Int32} (h : fX6_hasSaid V i x1 x2 = some r) : CI l G B yX6_hasSaid (.code yX6_hasSaid cX6_hasSaid 3 (some .boolean)) 3 [.ref (G.2.2 i), .int x1, .int x2] V r V := by
  intro sz
  refine met_of (Qs := fun sz => QI G sz r V) hB (by decide) (Nat.le_of_ble_eq_true rfl) ?_ sz
  intro p e s m args below meth c ls E hw hl
  have hx := en_x E
  have hb := en_b E
  generalize hQ : MQ _ _ _ _ _ _ _ = Q
  have kr : Q = MQ below (QI G s.heap.size r V) args s 0 0 (gA G s.heap.size) := hQ.symm
  have hl : lv_has ls 3 [(0, .ref (G.2.2 i)), (1, .int x1), (2, .int x2)] := hl
  obtain ⟨H, eH⟩ : ∃ H, H = s.heap := ⟨_, rfl⟩
  obtain ⟨locs, elocs⟩ : ∃ z : List Loc, z = [] := ⟨_, rfl⟩
  have hw : HW G s.heap V H locs := by rw [eH, elocs]; exact hw
  show W p l e _ s m args below meth c s.heap [] 0 0 Q (F0 m 0 ls [])
  rw [← eH, ← elocs]
  unfold fX6_hasSaid at h
  refine lv_aload_n hx hb dX6_hasSaid_0 rfl (lv_at hl 0 rfl) ?_
  refine lv_iload_n hx hb dX6_hasSaid_1 rfl (lv_at hl 2 rfl) ?_
  refine lv_iconst (v := (4 : Int32)) hx hb dX6_hasSaid_2 (by decide) ?_
  obtain ⟨y2, h1, h⟩ := ob_R_some h
  refine c_VI E hw (kX6_ofDeed (l := l) (G := G) hB hs_i h1) yy_X6_ofDeed lm_RX6_85 rfl (st_lt hs_i) (st_c hs_i) rfl hl.1 (by decide) (by decide) rfl (Nat.le_of_ble_eq_true rfl) dX6_hasSaid_3 (fun H locs hw => ?_)
  refine lv_iload_n hx hb dX6_hasSaid_6 rfl (lv_at hl 1 rfl) ?_
  refine lv_ishr hx hb dX6_hasSaid_7 ?_
  refine lv_iconst (v := (1 : Int32)) hx hb dX6_hasSaid_8 (by decide) ?_
  refine lv_iand hx hb dX6_hasSaid_9 ?_
  refine lv_iconst (v := (1 : Int32)) hx hb dX6_hasSaid_10 (by decide) ?_
  refine lv_icmp_ne (tgt := 18) hx hb dX6_hasSaid_11 (by decide) (fun c5 => ?_) (fun c5 => ?_)
  · rw [if_neg c5] at h
    refine lv_iconst (v := (0 : Int32)) hx hb dX6_hasSaid_18 (by decide) ?_
    obtain ⟨z3, h⟩ := zo_some h
    have h := Option.some.inj h
    subst h
    rw [kr]
    exact r_rz E hw z3 dX6_hasSaid_19
  · rw [if_pos c5] at h
    refine lv_iconst (v := (1 : Int32)) hx hb dX6_hasSaid_14 (by decide) ?_
    refine lv_goto (tgt := 19) hx hb dX6_hasSaid_15 (by decide) ?_
    obtain ⟨z4, h⟩ := zo_some h
    have h := Option.some.inj h
    subst h
    rw [kr]
    exact r_rz E hw z4 dX6_hasSaid_19
/-! ===== AllSawIt$State.addSeen(II)V ===== -/
theorem dX6_addSeen_0 : decode cX6_addSeen 0 = .ok (.aload_n 0, 1) := by decide +kernel
theorem dX6_addSeen_1 : decode cX6_addSeen 1 = .ok (.iload_n 1, 1) := by decide +kernel
theorem dX6_addSeen_2 : decode cX6_addSeen 2 = .ok (.iconst 3, 1) := by decide +kernel
theorem dX6_addSeen_3 : decode cX6_addSeen 3 = .ok (.aload_n 0, 1) := by decide +kernel
theorem dX6_addSeen_4 : decode cX6_addSeen 4 = .ok (.iload_n 1, 1) := by decide +kernel
theorem dX6_addSeen_5 : decode cX6_addSeen 5 = .ok (.iconst 3, 1) := by decide +kernel
theorem dX6_addSeen_6 : decode cX6_addSeen 6 = .ok (.invokevirtual 85, 3) := by decide +kernel
theorem dX6_addSeen_9 : decode cX6_addSeen 9 = .ok (.iload_n 2, 1) := by decide +kernel
theorem dX6_addSeen_10 : decode cX6_addSeen 10 = .ok (.ior, 1) := by decide +kernel
theorem dX6_addSeen_11 : decode cX6_addSeen 11 = .ok (.invokevirtual 88, 3) := by decide +kernel
theorem dX6_addSeen_14 : decode cX6_addSeen 14 = .ok (.return_, 1) := by decide +kernel
noncomputable def fX6_addSeen (V : VT) (i : Nat) (x1 : Int32) (x2 : Int32) : Option VT := ob_R (fX6_ofDeed V i x1 (3 : Int32)) fun y2 => ob_R (fX6_setDeed V i x1 (3 : Int32) (y2 ||| x2)) fun V4 => some V4
set_option maxHeartbeats 4000000 in
set_option maxRecDepth 100000 in
theorem kX6_addSeen {l : Launch} {G : GT} {B : BGt} (hB : BGok B) {V : VT} {i : Nat} (hs_i : isSt i) {x1 : Int32} {x2 : Int32} {r : VT} (h : fX6_addSeen V i x1 x2 = some r) : CV l G B yX6_addSeen (.code yX6_addSeen cX6_addSeen 3 none) 3 [.ref (G.2.2 i), .int x1, .int x2] V r := by
  intro sz
  refine met_of (Qs := fun sz => QV G sz r) hB (by decide) (Nat.le_of_ble_eq_true rfl) ?_ sz
  intro p e s m args below meth c ls E hw hl
  have hx := en_x E
  have hb := en_b E
  generalize hQ : MQ _ _ _ _ _ _ _ = Q
  have kr : Q = MQ below (QV G s.heap.size r) args s 0 0 (gA G s.heap.size) := hQ.symm
  have hl : lv_has ls 3 [(0, .ref (G.2.2 i)), (1, .int x1), (2, .int x2)] := hl
  obtain ⟨H, eH⟩ : ∃ H, H = s.heap := ⟨_, rfl⟩
  obtain ⟨locs, elocs⟩ : ∃ z : List Loc, z = [] := ⟨_, rfl⟩
  have hw : HW G s.heap V H locs := by rw [eH, elocs]; exact hw
  show W p l e _ s m args below meth c s.heap [] 0 0 Q (F0 m 0 ls [])
  rw [← eH, ← elocs]
  unfold fX6_addSeen at h
  refine lv_aload_n hx hb dX6_addSeen_0 rfl (lv_at hl 0 rfl) ?_
  refine lv_iload_n hx hb dX6_addSeen_1 rfl (lv_at hl 1 rfl) ?_
  refine lv_iconst (v := (3 : Int32)) hx hb dX6_addSeen_2 (by decide) ?_
  refine lv_aload_n hx hb dX6_addSeen_3 rfl (lv_at hl 0 rfl) ?_
  refine lv_iload_n hx hb dX6_addSeen_4 rfl (lv_at hl 1 rfl) ?_
  refine lv_iconst (v := (3 : Int32)) hx hb dX6_addSeen_5 (by decide) ?_
  obtain ⟨y2, h1, h⟩ := ob_R_some h
  refine c_VI E hw (kX6_ofDeed (l := l) (G := G) hB hs_i h1) yy_X6_ofDeed lm_RX6_85 rfl (st_lt hs_i) (st_c hs_i) rfl hl.1 (by decide) (by decide) rfl (Nat.le_of_ble_eq_true rfl) dX6_addSeen_6 (fun H locs hw => ?_)
  refine lv_iload_n hx hb dX6_addSeen_9 rfl (lv_at hl 2 rfl) ?_
  refine lv_ior hx hb dX6_addSeen_10 ?_
  obtain ⟨V4, h3, h⟩ := ob_R_some h
  refine c_VV E hw (kX6_setDeed (l := l) (G := G) hB hs_i h3) yy_X6_setDeed lm_RX6_88 rfl (st_lt hs_i) (st_c hs_i) rfl hl.1 (by decide) (by decide) rfl (Nat.le_of_ble_eq_true rfl) dX6_addSeen_11 (fun H locs hw => ?_)
  have h := Option.some.inj h
  subst h
  rw [kr]
  exact r_rv E hw dX6_addSeen_14
/-! ===== AllSawIt$State.isFree(I)Z ===== -/
theorem dX6_isFree_0 : decode cX6_isFree 0 = .ok (.aload_n 0, 1) := by decide +kernel
theorem dX6_isFree_1 : decode cX6_isFree 1 = .ok (.iload_n 1, 1) := by decide +kernel
theorem dX6_isFree_2 : decode cX6_isFree 2 = .ok (.iconst 2, 1) := by decide +kernel
theorem dX6_isFree_3 : decode cX6_isFree 3 = .ok (.invokevirtual 85, 3) := by decide +kernel
theorem dX6_isFree_6 : decode cX6_isFree 6 = .ok (.istore_n 2, 1) := by decide +kernel
theorem dX6_isFree_7 : decode cX6_isFree 7 = .ok (.iload_n 2, 1) := by decide +kernel
theorem dX6_isFree_8 : decode cX6_isFree 8 = .ok (.iconst (-1), 1) := by decide +kernel
theorem dX6_isFree_9 : decode cX6_isFree 9 = .ok (.if_icmp .eq 11, 3) := by decide +kernel
theorem dX6_isFree_12 : decode cX6_isFree 12 = .ok (.aload_n 0, 1) := by decide +kernel
theorem dX6_isFree_13 : decode cX6_isFree 13 = .ok (.iload_n 2, 1) := by decide +kernel
theorem dX6_isFree_14 : decode cX6_isFree 14 = .ok (.invokevirtual 91, 3) := by decide +kernel
theorem dX6_isFree_17 : decode cX6_isFree 17 = .ok (.ifCond .eq 7, 3) := by decide +kernel
theorem dX6_isFree_20 : decode cX6_isFree 20 = .ok (.iconst 1, 1) := by decide +kernel
theorem dX6_isFree_21 : decode cX6_isFree 21 = .ok (.goto 4, 3) := by decide +kernel
theorem dX6_isFree_24 : decode cX6_isFree 24 = .ok (.iconst 0, 1) := by decide +kernel
theorem dX6_isFree_25 : decode cX6_isFree 25 = .ok (.ireturn, 1) := by decide +kernel
noncomputable def fX6_isFree (V : VT) (i : Nat) (x1 : Int32) : Option Int32 := ob_R (fX6_ofDeed V i x1 (2 : Int32)) fun y2 => if y2 = (-1 : Int32) then (zo_ (1 : Int32) (some (1 : Int32))) else (ob_R (fX6_isSo V i y2) fun y5 => if y5 = 0 then (zo_ (0 : Int32) (some (0 : Int32))) else (zo_ (1 : Int32) (some (1 : Int32))))
set_option maxHeartbeats 4000000 in
set_option maxRecDepth 100000 in
theorem kX6_isFree {l : Launch} {G : GT} {B : BGt} (hB : BGok B) {V : VT} {i : Nat} (hs_i : isSt i) {x1 : Int32} {r : Int32} (h : fX6_isFree V i x1 = some r) : CI l G B yX6_isFree (.code yX6_isFree cX6_isFree 3 (some .boolean)) 3 [.ref (G.2.2 i), .int x1] V r V := by
  intro sz
  refine met_of (Qs := fun sz => QI G sz r V) hB (by decide) (Nat.le_of_ble_eq_true rfl) ?_ sz
  intro p e s m args below meth c ls E hw hl
  have hx := en_x E
  have hb := en_b E
  generalize hQ : MQ _ _ _ _ _ _ _ = Q
  have kr : Q = MQ below (QI G s.heap.size r V) args s 0 0 (gA G s.heap.size) := hQ.symm
  have hl : lv_has ls 3 [(0, .ref (G.2.2 i)), (1, .int x1)] := hl
  obtain ⟨H, eH⟩ : ∃ H, H = s.heap := ⟨_, rfl⟩
  obtain ⟨locs, elocs⟩ : ∃ z : List Loc, z = [] := ⟨_, rfl⟩
  have hw : HW G s.heap V H locs := by rw [eH, elocs]; exact hw
  show W p l e _ s m args below meth c s.heap [] 0 0 Q (F0 m 0 ls [])
  rw [← eH, ← elocs]
  unfold fX6_isFree at h
  refine lv_aload_n hx hb dX6_isFree_0 rfl (lv_at hl 0 rfl) ?_
  refine lv_iload_n hx hb dX6_isFree_1 rfl (lv_at hl 1 rfl) ?_
  refine lv_iconst (v := (2 : Int32)) hx hb dX6_isFree_2 (by decide) ?_
  obtain ⟨y2, h1, h⟩ := ob_R_some h
  refine c_VI E hw (kX6_ofDeed (l := l) (G := G) hB hs_i h1) yy_X6_ofDeed lm_RX6_85 rfl (st_lt hs_i) (st_c hs_i) rfl hl.1 (by decide) (by decide) rfl (Nat.le_of_ble_eq_true rfl) dX6_isFree_3 (fun H locs hw => ?_)
  refine lv_istore_n (lv' := [(2, .int y2), (0, .ref (G.2.2 i)), (1, .int x1)]) hx hb dX6_isFree_6 rfl hl (by decide) rfl (fun ls hl => ?_)
  refine lv_iload_n hx hb dX6_isFree_7 rfl (lv_at hl 0 rfl) ?_
  refine lv_iconst (v := (-1 : Int32)) hx hb dX6_isFree_8 (by decide) ?_
  refine lv_icmp_eq (tgt := 20) hx hb dX6_isFree_9 (by decide) (fun c9 => ?_) (fun c9 => ?_)
  · rw [if_pos c9] at h
    refine lv_iconst (v := (1 : Int32)) hx hb dX6_isFree_20 (by decide) ?_
    refine lv_goto (tgt := 25) hx hb dX6_isFree_21 (by decide) ?_
    obtain ⟨z3, h⟩ := zo_some h
    have h := Option.some.inj h
    subst h
    rw [kr]
    exact r_rz E hw z3 dX6_isFree_25
  · rw [if_neg c9] at h
    refine lv_aload_n hx hb dX6_isFree_12 rfl (lv_at hl 1 rfl) ?_
    refine lv_iload_n hx hb dX6_isFree_13 rfl (lv_at hl 0 rfl) ?_
    obtain ⟨y5, h4, h⟩ := ob_R_some h
    refine c_VI E hw (kX6_isSo (l := l) (G := G) hB hs_i h4) yy_X6_isSo lm_RX6_91 rfl (st_lt hs_i) (st_c hs_i) rfl hl.1 (by decide) (by decide) rfl (Nat.le_of_ble_eq_true rfl) dX6_isFree_14 (fun H locs hw => ?_)
    refine lv_if_eq (tgt := 24) hx hb dX6_isFree_17 (by decide) (fun c8 => ?_) (fun c8 => ?_)
    · rw [if_pos c8] at h
      refine lv_iconst (v := (0 : Int32)) hx hb dX6_isFree_24 (by decide) ?_
      obtain ⟨z6, h⟩ := zo_some h
      have h := Option.some.inj h
      subst h
      rw [kr]
      exact r_rz E hw z6 dX6_isFree_25
    · rw [if_neg c8] at h
      refine lv_iconst (v := (1 : Int32)) hx hb dX6_isFree_20 (by decide) ?_
      refine lv_goto (tgt := 25) hx hb dX6_isFree_21 (by decide) ?_
      obtain ⟨z7, h⟩ := zo_some h
      have h := Option.some.inj h
      subst h
      rw [kr]
      exact r_rz E hw z7 dX6_isFree_25
/-! ===== AllSawIt$State.askAnew()V ===== -/
theorem dX6_askAnew_0 : decode cX6_askAnew 0 = .ok (.iconst 0, 1) := by decide +kernel
theorem dX6_askAnew_1 : decode cX6_askAnew 1 = .ok (.istore_n 1, 1) := by decide +kernel
theorem dX6_askAnew_2 : decode cX6_askAnew 2 = .ok (.iload_n 1, 1) := by decide +kernel
theorem dX6_askAnew_3 : decode cX6_askAnew 3 = .ok (.aload_n 0, 1) := by decide +kernel
theorem dX6_askAnew_4 : decode cX6_askAnew 4 = .ok (.getfield 25, 3) := by decide +kernel
theorem dX6_askAnew_7 : decode cX6_askAnew 7 = .ok (.if_icmp .ge 64, 3) := by decide +kernel
theorem dX6_askAnew_10 : decode cX6_askAnew 10 = .ok (.aload_n 0, 1) := by decide +kernel
theorem dX6_askAnew_11 : decode cX6_askAnew 11 = .ok (.getfield 21, 3) := by decide +kernel
theorem dX6_askAnew_14 : decode cX6_askAnew 14 = .ok (.ifCond .le 25, 3) := by decide +kernel
theorem dX6_askAnew_17 : decode cX6_askAnew 17 = .ok (.aload_n 0, 1) := by decide +kernel
theorem dX6_askAnew_18 : decode cX6_askAnew 18 = .ok (.iload_n 1, 1) := by decide +kernel
theorem dX6_askAnew_19 : decode cX6_askAnew 19 = .ok (.iconst 4, 1) := by decide +kernel
theorem dX6_askAnew_20 : decode cX6_askAnew 20 = .ok (.invokevirtual 85, 3) := by decide +kernel
theorem dX6_askAnew_23 : decode cX6_askAnew 23 = .ok (.aload_n 0, 1) := by decide +kernel
theorem dX6_askAnew_24 : decode cX6_askAnew 24 = .ok (.invokevirtual 94, 3) := by decide +kernel
theorem dX6_askAnew_27 : decode cX6_askAnew 27 = .ok (.iand, 1) := by decide +kernel
theorem dX6_askAnew_28 : decode cX6_askAnew 28 = .ok (.aload_n 0, 1) := by decide +kernel
theorem dX6_askAnew_29 : decode cX6_askAnew 29 = .ok (.invokevirtual 94, 3) := by decide +kernel
theorem dX6_askAnew_32 : decode cX6_askAnew 32 = .ok (.if_icmp .ne 7, 3) := by decide +kernel
theorem dX6_askAnew_35 : decode cX6_askAnew 35 = .ok (.iconst 1, 1) := by decide +kernel
theorem dX6_askAnew_36 : decode cX6_askAnew 36 = .ok (.goto 4, 3) := by decide +kernel
theorem dX6_askAnew_39 : decode cX6_askAnew 39 = .ok (.iconst 0, 1) := by decide +kernel
theorem dX6_askAnew_40 : decode cX6_askAnew 40 = .ok (.istore_n 2, 1) := by decide +kernel
theorem dX6_askAnew_41 : decode cX6_askAnew 41 = .ok (.iload_n 2, 1) := by decide +kernel
theorem dX6_askAnew_42 : decode cX6_askAnew 42 = .ok (.ifCond .eq 23, 3) := by decide +kernel
theorem dX6_askAnew_45 : decode cX6_askAnew 45 = .ok (.aload_n 0, 1) := by decide +kernel
theorem dX6_askAnew_46 : decode cX6_askAnew 46 = .ok (.iload_n 1, 1) := by decide +kernel
theorem dX6_askAnew_47 : decode cX6_askAnew 47 = .ok (.invokevirtual 98, 3) := by decide +kernel
theorem dX6_askAnew_50 : decode cX6_askAnew 50 = .ok (.ifCond .eq 15, 3) := by decide +kernel
theorem dX6_askAnew_53 : decode cX6_askAnew 53 = .ok (.aload_n 0, 1) := by decide +kernel
theorem dX6_askAnew_54 : decode cX6_askAnew 54 = .ok (.dup, 1) := by decide +kernel
theorem dX6_askAnew_55 : decode cX6_askAnew 55 = .ok (.getfield 34, 3) := by decide +kernel
theorem dX6_askAnew_58 : decode cX6_askAnew 58 = .ok (.iconst 1, 1) := by decide +kernel
theorem dX6_askAnew_59 : decode cX6_askAnew 59 = .ok (.iload_n 1, 1) := by decide +kernel
theorem dX6_askAnew_60 : decode cX6_askAnew 60 = .ok (.ishl, 1) := by decide +kernel
theorem dX6_askAnew_61 : decode cX6_askAnew 61 = .ok (.ior, 1) := by decide +kernel
theorem dX6_askAnew_62 : decode cX6_askAnew 62 = .ok (.putfield 34, 3) := by decide +kernel
theorem dX6_askAnew_65 : decode cX6_askAnew 65 = .ok (.iinc 1 1, 3) := by decide +kernel
theorem dX6_askAnew_68 : decode cX6_askAnew 68 = .ok (.goto (-66), 3) := by decide +kernel
theorem dX6_askAnew_71 : decode cX6_askAnew 71 = .ok (.return_, 1) := by decide +kernel
noncomputable def fX6_askAnew_j40_2 (V : VT) (i : Nat) (u1 : Int32) (t0 : Int32) : Option ((VT × Int32) ⊕ VT) := if t0 = 0 then (lt_ (u1 + (1 : Int32)) fun y1 => some (.inl (V, y1))) else (ob_R (fX6_isFree V i u1) fun y3 => if y3 = 0 then (lt_ (u1 + (1 : Int32)) fun y4 => some (.inl (V, y4))) else (lt_ (va_up V i (upd (V i) 7 ((V i 7) ||| ((1 : Int32) <<< (u1 &&& 31))))) fun V5 => lt_ (u1 + (1 : Int32)) fun y6 => some (.inl (V5, y6))))
noncomputable def fX6_askAnew_j39_2 (V : VT) (i : Nat) (u1 : Int32) : Option ((VT × Int32) ⊕ VT) := fX6_askAnew_j40_2 V i u1 (0 : Int32)
noncomputable def fX6_askAnew_L2 (V : VT) (i : Nat) (u1 : Int32) : Option ((VT × Int32) ⊕ VT) := if (V i 4) ≤ u1 then (some (.inr (V))) else (if (V i 3) ≤ 0 then (fX6_askAnew_j39_2 V i u1) else (ob_R (fX6_ofDeed V i u1 (4 : Int32)) fun y10 => ob_R (fX6_allHouses V i) fun y12 => ob_R (fX6_allHouses V i) fun y14 => if (y10 &&& y12) = y14 then (fX6_askAnew_j40_2 V i u1 (1 : Int32)) else (fX6_askAnew_j39_2 V i u1)))
noncomputable def iX6_askAnew_L2 (i : Nat) : (VT × Int32) → Option ((VT × Int32) ⊕ VT) := fun q => fX6_askAnew_L2 (q.1) i (q.2)
noncomputable def fX6_askAnew (V : VT) (i : Nat) : Option VT := ob_R (it_ (iX6_askAnew_L2 i) FV (V, (0 : Int32))) fun x19 => some x19
set_option maxHeartbeats 4000000 in
set_option maxRecDepth 100000 in
theorem wX6_askAnew_j40_2 {p : Program} {l : Launch} {e : Env} {s : State} {m : MethodId} {args : Array Value} {below : List Frame} {meth : Method} {c : Code} {G : GT} {B : BGt} {Q : State → Prop} (E : En p s m args c meth cX6_askAnew 3 RX6 none G B) {i : Nat} (hs_i : isSt i) {V : VT} {u1 : Int32} {t0 : Int32} {r : ((VT × Int32) ⊕ VT)} (h : fX6_askAnew_j40_2 V i u1 t0 = some r) (kc : ∀ q : (VT × Int32), r = .inl q → ∀ (H : Heap) (locs : List Loc) (ls : Array Slot), HW G s.heap (q.1) H locs → lv_has ls 3 [(0, .ref (G.2.2 i)), (1, .int (q.2))] → W p l e (rmD 4) s m args below meth c H locs 0 0 Q (F0 m 2 ls [])) (kr : ∀ q : VT, r = .inr (q) → Q = MQ below (QV G s.heap.size q) args s 0 0 (gA G s.heap.size)) {H : Heap} {locs : List Loc} {ls : Array Slot} (hw : HW G s.heap V H locs) (hl : lv_has ls 3 [(0, .ref (G.2.2 i)), (1, .int u1)]) : W p l e (rmD 4) s m args below meth c H locs 0 0 Q (F0 m 40 ls [.int t0]) := by
  have hx := en_x E
  have hb := en_b E
  have hB := en_B E
  unfold fX6_askAnew_j40_2 at h
  refine lv_istore_n (lv' := [(2, .int t0), (0, .ref (G.2.2 i)), (1, .int u1)]) hx hb dX6_askAnew_40 rfl hl (by decide) rfl (fun ls hl => ?_)
  refine lv_iload_n hx hb dX6_askAnew_41 rfl (lv_at hl 0 rfl) ?_
  refine lv_if_eq (tgt := 65) hx hb dX6_askAnew_42 (by decide) (fun c8 => ?_) (fun c8 => ?_)
  · rw [if_pos c8] at h
    obtain ⟨y1, ey1, h⟩ := lt_some h
    refine lv_iinc (v := y1) (lv' := [(1, .int y1), (2, .int t0), (0, .ref (G.2.2 i))]) hx hb dX6_askAnew_65 hl (k := 2) rfl (by rw [ey1]; rfl) (by decide) rfl (fun ls hl => ?_)
    refine lv_goto (tgt := 2) hx hb dX6_askAnew_68 (by decide) ?_
    exact kc (V, y1) (Option.some.inj h).symm H locs ls hw (lv_sub hl [2, 0] rfl)
  · rw [if_neg c8] at h
    refine lv_aload_n hx hb dX6_askAnew_45 rfl (lv_at hl 1 rfl) ?_
    refine lv_iload_n hx hb dX6_askAnew_46 rfl (lv_at hl 2 rfl) ?_
    obtain ⟨y3, h2, h⟩ := ob_R_some h
    refine c_VI E hw (kX6_isFree (l := l) (G := G) hB hs_i h2) yy_X6_isFree lm_RX6_98 rfl (st_lt hs_i) (st_c hs_i) rfl hl.1 (by decide) (by decide) rfl (Nat.le_of_ble_eq_true rfl) dX6_askAnew_47 (fun H locs hw => ?_)
    refine lv_if_eq (tgt := 65) hx hb dX6_askAnew_50 (by decide) (fun c7 => ?_) (fun c7 => ?_)
    · rw [if_pos c7] at h
      obtain ⟨y4, ey4, h⟩ := lt_some h
      refine lv_iinc (v := y4) (lv' := [(1, .int y4), (2, .int t0), (0, .ref (G.2.2 i))]) hx hb dX6_askAnew_65 hl (k := 2) rfl (by rw [ey4]; rfl) (by decide) rfl (fun ls hl => ?_)
      refine lv_goto (tgt := 2) hx hb dX6_askAnew_68 (by decide) ?_
      exact kc (V, y4) (Option.some.inj h).symm H locs ls hw (lv_sub hl [2, 0] rfl)
    · rw [if_neg c7] at h
      refine lv_aload_n hx hb dX6_askAnew_53 rfl (lv_at hl 1 rfl) ?_
      refine lv_dup hx hb dX6_askAnew_54 rfl ?_
      refine r_gi E hw i 7 (N := 13) (C := RX6) (T := TX6) (st_lt hs_i) (st_c hs_i) (st_N hs_i) (by decide) (st_n hs_i (k := 7) (by decide)) iw_6 rfl lf_RX6_34 dX6_askAnew_55 ?_
      refine lv_iconst (v := (1 : Int32)) hx hb dX6_askAnew_58 (by decide) ?_
      refine lv_iload_n hx hb dX6_askAnew_59 rfl (lv_at hl 2 rfl) ?_
      refine lv_ishl hx hb dX6_askAnew_60 ?_
      refine lv_ior hx hb dX6_askAnew_61 ?_
      obtain ⟨V5, eV5, h⟩ := lt_some h
      refine r_pi E hw i 7 (N := 13) (C := RX6) (T := TX6) (ty0 := tyX6) (ty := .int) (st_lt hs_i) (st_c hs_i) (st_N hs_i) (by decide) (st_n hs_i (k := 7) (by decide)) iw_6 rfl tyX6_ok nmX6 rfl rfl (vp_nar_int _) rfl lf_RX6_34 eV5 dX6_askAnew_62 (fun H locs hw => ?_)
      obtain ⟨y6, ey6, h⟩ := lt_some h
      refine lv_iinc (v := y6) (lv' := [(1, .int y6), (2, .int t0), (0, .ref (G.2.2 i))]) hx hb dX6_askAnew_65 hl (k := 2) rfl (by rw [ey6]; rfl) (by decide) rfl (fun ls hl => ?_)
      refine lv_goto (tgt := 2) hx hb dX6_askAnew_68 (by decide) ?_
      exact kc (V5, y6) (Option.some.inj h).symm H locs ls hw (lv_sub hl [2, 0] rfl)
set_option maxHeartbeats 4000000 in
set_option maxRecDepth 100000 in
theorem wX6_askAnew_j39_2 {p : Program} {l : Launch} {e : Env} {s : State} {m : MethodId} {args : Array Value} {below : List Frame} {meth : Method} {c : Code} {G : GT} {B : BGt} {Q : State → Prop} (E : En p s m args c meth cX6_askAnew 3 RX6 none G B) {i : Nat} (hs_i : isSt i) {V : VT} {u1 : Int32} {r : ((VT × Int32) ⊕ VT)} (h : fX6_askAnew_j39_2 V i u1 = some r) (kc : ∀ q : (VT × Int32), r = .inl q → ∀ (H : Heap) (locs : List Loc) (ls : Array Slot), HW G s.heap (q.1) H locs → lv_has ls 3 [(0, .ref (G.2.2 i)), (1, .int (q.2))] → W p l e (rmD 4) s m args below meth c H locs 0 0 Q (F0 m 2 ls [])) (kr : ∀ q : VT, r = .inr (q) → Q = MQ below (QV G s.heap.size q) args s 0 0 (gA G s.heap.size)) {H : Heap} {locs : List Loc} {ls : Array Slot} (hw : HW G s.heap V H locs) (hl : lv_has ls 3 [(0, .ref (G.2.2 i)), (1, .int u1)]) : W p l e (rmD 4) s m args below meth c H locs 0 0 Q (F0 m 39 ls []) := by
  have hx := en_x E
  have hb := en_b E
  have hB := en_B E
  unfold fX6_askAnew_j39_2 at h
  refine lv_iconst (v := (0 : Int32)) hx hb dX6_askAnew_39 (by decide) ?_
  exact wX6_askAnew_j40_2 E hs_i h kc kr hw (lv_sub hl [0, 1] rfl)
set_option maxHeartbeats 4000000 in
set_option maxRecDepth 100000 in
theorem wX6_askAnew_L2 {p : Program} {l : Launch} {e : Env} {s : State} {m : MethodId} {args : Array Value} {below : List Frame} {meth : Method} {c : Code} {G : GT} {B : BGt} {Q : State → Prop} (E : En p s m args c meth cX6_askAnew 3 RX6 none G B) {i : Nat} (hs_i : isSt i) {x : VT} (kr : ∀ q : VT, x = q → Q = MQ below (QV G s.heap.size q) args s 0 0 (gA G s.heap.size)) : ∀ (n : Nat) (q : (VT × Int32)), it_ (iX6_askAnew_L2 i) n q = some x → ∀ (H : Heap) (locs : List Loc) (ls : Array Slot), HW G s.heap (q.1) H locs → lv_has ls 3 [(0, .ref (G.2.2 i)), (1, .int (q.2))] → W p l e (rmD 4) s m args below meth c H locs 0 0 Q (F0 m 2 ls []) := by
  have hx := en_x E
  have hb := en_b E
  have hB := en_B E
  refine it_W (fun q : (VT × Int32) => ∀ (H : Heap) (locs : List Loc) (ls : Array Slot), HW G s.heap (q.1) H locs → lv_has ls 3 [(0, .ref (G.2.2 i)), (1, .int (q.2))] → W p l e (rmD 4) s m args below meth c H locs 0 0 Q (F0 m 2 ls [])) x ?_
  intro q r h kc kx
  obtain ⟨V, u1⟩ := q
  intro H locs ls hw hl
  have h : fX6_askAnew_L2 V i u1 = some r := h
  have hw : HW G s.heap V H locs := hw
  have hl : lv_has ls 3 [(0, .ref (G.2.2 i)), (1, .int u1)] := hl
  have kr : ∀ q : VT, r = .inr (q) → Q = MQ below (QV G s.heap.size q) args s 0 0 (gA G s.heap.size) := fun q e => kr q (kx _ e).symm
  unfold fX6_askAnew_L2 at h
  refine lv_iload_n hx hb dX6_askAnew_2 rfl (lv_at hl 1 rfl) ?_
  refine lv_aload_n hx hb dX6_askAnew_3 rfl (lv_at hl 0 rfl) ?_
  refine r_gi E hw i 4 (N := 13) (C := RX6) (T := TX6) (st_lt hs_i) (st_c hs_i) (st_N hs_i) (by decide) (st_n hs_i (k := 4) (by decide)) iw_6 rfl lf_RX6_25 dX6_askAnew_4 ?_
  refine lv_icmp_ge (tgt := 71) hx hb dX6_askAnew_7 (by decide) (fun c17 => ?_) (fun c17 => ?_)
  · rw [if_pos c17] at h
    rw [kr V (Option.some.inj h).symm]
    exact r_rv E hw dX6_askAnew_71
  · rw [if_neg c17] at h
    refine lv_aload_n hx hb dX6_askAnew_10 rfl (lv_at hl 0 rfl) ?_
    refine r_gi E hw i 3 (N := 13) (C := RX6) (T := TX6) (st_lt hs_i) (st_c hs_i) (st_N hs_i) (by decide) (st_n hs_i (k := 3) (by decide)) iw_6 rfl lf_RX6_21 dX6_askAnew_11 ?_
    refine lv_if_le (tgt := 39) hx hb dX6_askAnew_14 (by decide) (fun c16 => ?_) (fun c16 => ?_)
    · rw [if_pos c16] at h
      exact wX6_askAnew_j39_2 E hs_i h kc kr hw (lv_sub hl [0, 1] rfl)
    · rw [if_neg c16] at h
      refine lv_aload_n hx hb dX6_askAnew_17 rfl (lv_at hl 0 rfl) ?_
      refine lv_iload_n hx hb dX6_askAnew_18 rfl (lv_at hl 1 rfl) ?_
      refine lv_iconst (v := (4 : Int32)) hx hb dX6_askAnew_19 (by decide) ?_
      obtain ⟨y10, h9, h⟩ := ob_R_some h
      refine c_VI E hw (kX6_ofDeed (l := l) (G := G) hB hs_i h9) yy_X6_ofDeed lm_RX6_85 rfl (st_lt hs_i) (st_c hs_i) rfl hl.1 (by decide) (by decide) rfl (Nat.le_of_ble_eq_true rfl) dX6_askAnew_20 (fun H locs hw => ?_)
      refine lv_aload_n hx hb dX6_askAnew_23 rfl (lv_at hl 0 rfl) ?_
      obtain ⟨y12, h11, h⟩ := ob_R_some h
      refine c_VI E hw (kX6_allHouses (l := l) (G := G) hB hs_i h11) yy_X6_allHouses lm_RX6_94 rfl (st_lt hs_i) (st_c hs_i) rfl hl.1 (by decide) (by decide) rfl (Nat.le_of_ble_eq_true rfl) dX6_askAnew_24 (fun H locs hw => ?_)
      refine lv_iand hx hb dX6_askAnew_27 ?_
      refine lv_aload_n hx hb dX6_askAnew_28 rfl (lv_at hl 0 rfl) ?_
      obtain ⟨y14, h13, h⟩ := ob_R_some h
      refine c_VI E hw (kX6_allHouses (l := l) (G := G) hB hs_i h13) yy_X6_allHouses lm_RX6_94 rfl (st_lt hs_i) (st_c hs_i) rfl hl.1 (by decide) (by decide) rfl (Nat.le_of_ble_eq_true rfl) dX6_askAnew_29 (fun H locs hw => ?_)
      refine lv_icmp_ne (tgt := 39) hx hb dX6_askAnew_32 (by decide) (fun c15 => ?_) (fun c15 => ?_)
      · rw [if_neg c15] at h
        exact wX6_askAnew_j39_2 E hs_i h kc kr hw (lv_sub hl [0, 1] rfl)
      · rw [if_pos c15] at h
        refine lv_iconst (v := (1 : Int32)) hx hb dX6_askAnew_35 (by decide) ?_
        refine lv_goto (tgt := 40) hx hb dX6_askAnew_36 (by decide) ?_
        exact wX6_askAnew_j40_2 E hs_i h kc kr hw (lv_sub hl [0, 1] rfl)
set_option maxHeartbeats 4000000 in
set_option maxRecDepth 100000 in
theorem kX6_askAnew {l : Launch} {G : GT} {B : BGt} (hB : BGok B) {V : VT} {i : Nat} (hs_i : isSt i) {r : VT} (h : fX6_askAnew V i = some r) : CV l G B yX6_askAnew (.code yX6_askAnew cX6_askAnew 3 none) 4 [.ref (G.2.2 i)] V r := by
  intro sz
  refine met_of (Qs := fun sz => QV G sz r) hB (by decide) (Nat.le_of_ble_eq_true rfl) ?_ sz
  intro p e s m args below meth c ls E hw hl
  have hx := en_x E
  have hb := en_b E
  generalize hQ : MQ _ _ _ _ _ _ _ = Q
  have kr : Q = MQ below (QV G s.heap.size r) args s 0 0 (gA G s.heap.size) := hQ.symm
  have hl : lv_has ls 3 [(0, .ref (G.2.2 i))] := hl
  obtain ⟨H, eH⟩ : ∃ H, H = s.heap := ⟨_, rfl⟩
  obtain ⟨locs, elocs⟩ : ∃ z : List Loc, z = [] := ⟨_, rfl⟩
  have hw : HW G s.heap V H locs := by rw [eH, elocs]; exact hw
  show W p l e _ s m args below meth c s.heap [] 0 0 Q (F0 m 0 ls [])
  rw [← eH, ← elocs]
  unfold fX6_askAnew at h
  refine lv_iconst (v := (0 : Int32)) hx hb dX6_askAnew_0 (by decide) ?_
  refine lv_istore_n (lv' := [(1, .int (0 : Int32)), (0, .ref (G.2.2 i))]) hx hb dX6_askAnew_1 rfl hl (by decide) rfl (fun ls hl => ?_)
  obtain ⟨x19, h18, h⟩ := ob_R_some h
  have h := Option.some.inj h
  subst h
  exact wX6_askAnew_L2 E hs_i (fun q e => by subst e; exact kr) FV (V, (0 : Int32)) h18 H locs ls hw (lv_sub hl [1, 0] rfl)
/-! ===== AllSawIt$State.hanging(I)I ===== -/
theorem dX6_hanging_0 : decode cX6_hanging 0 = .ok (.iconst 0, 1) := by decide +kernel
theorem dX6_hanging_1 : decode cX6_hanging 1 = .ok (.istore_n 2, 1) := by decide +kernel
theorem dX6_hanging_2 : decode cX6_hanging 2 = .ok (.iload_n 1, 1) := by decide +kernel
theorem dX6_hanging_3 : decode cX6_hanging 3 = .ok (.iconst 1, 1) := by decide +kernel
theorem dX6_hanging_4 : decode cX6_hanging 4 = .ok (.iadd, 1) := by decide +kernel
theorem dX6_hanging_5 : decode cX6_hanging 5 = .ok (.istore_n 3, 1) := by decide +kernel
theorem dX6_hanging_6 : decode cX6_hanging 6 = .ok (.iload_n 3, 1) := by decide +kernel
theorem dX6_hanging_7 : decode cX6_hanging 7 = .ok (.aload_n 0, 1) := by decide +kernel
theorem dX6_hanging_8 : decode cX6_hanging 8 = .ok (.getfield 25, 3) := by decide +kernel
theorem dX6_hanging_11 : decode cX6_hanging 11 = .ok (.if_icmp .ge 45, 3) := by decide +kernel
theorem dX6_hanging_14 : decode cX6_hanging 14 = .ok (.aload_n 0, 1) := by decide +kernel
theorem dX6_hanging_15 : decode cX6_hanging 15 = .ok (.iload_n 3, 1) := by decide +kernel
theorem dX6_hanging_16 : decode cX6_hanging 16 = .ok (.iconst 2, 1) := by decide +kernel
theorem dX6_hanging_17 : decode cX6_hanging 17 = .ok (.invokevirtual 85, 3) := by decide +kernel
theorem dX6_hanging_20 : decode cX6_hanging 20 = .ok (.istore 4, 2) := by decide +kernel
theorem dX6_hanging_22 : decode cX6_hanging 22 = .ok (.iload 4, 2) := by decide +kernel
theorem dX6_hanging_24 : decode cX6_hanging 24 = .ok (.iload_n 1, 1) := by decide +kernel
theorem dX6_hanging_25 : decode cX6_hanging 25 = .ok (.if_icmp .eq 19, 3) := by decide +kernel
theorem dX6_hanging_28 : decode cX6_hanging 28 = .ok (.iload 4, 2) := by decide +kernel
theorem dX6_hanging_30 : decode cX6_hanging 30 = .ok (.iconst (-1), 1) := by decide +kernel
theorem dX6_hanging_31 : decode cX6_hanging 31 = .ok (.if_icmp .eq 19, 3) := by decide +kernel
theorem dX6_hanging_34 : decode cX6_hanging 34 = .ok (.iload_n 2, 1) := by decide +kernel
theorem dX6_hanging_35 : decode cX6_hanging 35 = .ok (.iload 4, 2) := by decide +kernel
theorem dX6_hanging_37 : decode cX6_hanging 37 = .ok (.ishr, 1) := by decide +kernel
theorem dX6_hanging_38 : decode cX6_hanging 38 = .ok (.iconst 1, 1) := by decide +kernel
theorem dX6_hanging_39 : decode cX6_hanging 39 = .ok (.iand, 1) := by decide +kernel
theorem dX6_hanging_40 : decode cX6_hanging 40 = .ok (.iconst 1, 1) := by decide +kernel
theorem dX6_hanging_41 : decode cX6_hanging 41 = .ok (.if_icmp .ne 9, 3) := by decide +kernel
theorem dX6_hanging_44 : decode cX6_hanging 44 = .ok (.iload_n 2, 1) := by decide +kernel
theorem dX6_hanging_45 : decode cX6_hanging 45 = .ok (.iconst 1, 1) := by decide +kernel
theorem dX6_hanging_46 : decode cX6_hanging 46 = .ok (.iload_n 3, 1) := by decide +kernel
theorem dX6_hanging_47 : decode cX6_hanging 47 = .ok (.ishl, 1) := by decide +kernel
theorem dX6_hanging_48 : decode cX6_hanging 48 = .ok (.ior, 1) := by decide +kernel
theorem dX6_hanging_49 : decode cX6_hanging 49 = .ok (.istore_n 2, 1) := by decide +kernel
theorem dX6_hanging_50 : decode cX6_hanging 50 = .ok (.iinc 3 1, 3) := by decide +kernel
theorem dX6_hanging_53 : decode cX6_hanging 53 = .ok (.goto (-47), 3) := by decide +kernel
theorem dX6_hanging_56 : decode cX6_hanging 56 = .ok (.iload_n 2, 1) := by decide +kernel
theorem dX6_hanging_57 : decode cX6_hanging 57 = .ok (.ireturn, 1) := by decide +kernel
noncomputable def fX6_hanging_j44_6 (V : VT) (i : Nat) (u1 : Int32) (u2 : Int32) (u3 : Int32) : Option ((Int32 × Int32 × Int32) ⊕ Int32) := lt_ (u2 ||| ((1 : Int32) <<< (u3 &&& 31))) fun y4 => lt_ (u3 + (1 : Int32)) fun y5 => some (.inl (u1, y4, y5))
noncomputable def fX6_hanging_L6 (V : VT) (i : Nat) (u1 : Int32) (u2 : Int32) (u3 : Int32) : Option ((Int32 × Int32 × Int32) ⊕ Int32) := if (V i 4) ≤ u3 then (some (.inr (u2))) else (ob_R (fX6_ofDeed V i u3 (2 : Int32)) fun y3 => if y3 = u1 then (fX6_hanging_j44_6 V i u1 u2 u3) else (if y3 = (-1 : Int32) then (lt_ (u3 + (1 : Int32)) fun y6 => some (.inl (u1, u2, y6))) else (if ((u2 >>> (y3 &&& 31)) &&& (1 : Int32)) = (1 : Int32) then (fX6_hanging_j44_6 V i u1 u2 u3) else (lt_ (u3 + (1 : Int32)) fun y7 => some (.inl (u1, u2, y7))))))
noncomputable def iX6_hanging_L6 (V : VT) (i : Nat) : (Int32 × Int32 × Int32) → Option ((Int32 × Int32 × Int32) ⊕ Int32) := fun q => fX6_hanging_L6 V i (q.1) (q.2.1) (q.2.2)
noncomputable def fX6_hanging (V : VT) (i : Nat) (x1 : Int32) : Option Int32 := lt_ (x1 + (1 : Int32)) fun y1 => ob_R (it_ (iX6_hanging_L6 V i) FV (x1, (0 : Int32), y1)) fun x13 => some x13
set_option maxHeartbeats 4000000 in
set_option maxRecDepth 100000 in
theorem wX6_hanging_j44_6 {p : Program} {l : Launch} {e : Env} {s : State} {m : MethodId} {args : Array Value} {below : List Frame} {meth : Method} {c : Code} {G : GT} {B : BGt} {Q : State → Prop} (E : En p s m args c meth cX6_hanging 5 RX6 (some .int) G B) {i : Nat} (hs_i : isSt i) {V : VT} {u1 : Int32} {u2 : Int32} {u3 : Int32} {r : ((Int32 × Int32 × Int32) ⊕ Int32)} (h : fX6_hanging_j44_6 V i u1 u2 u3 = some r) (kc : ∀ q : (Int32 × Int32 × Int32), r = .inl q → ∀ (H : Heap) (locs : List Loc) (ls : Array Slot), HW G s.heap V H locs → lv_has ls 5 [(0, .ref (G.2.2 i)), (1, .int (q.1)), (2, .int (q.2.1)), (3, .int (q.2.2))] → W p l e (rmD 3) s m args below meth c H locs 0 0 Q (F0 m 6 ls [])) (kr : ∀ q : Int32, r = .inr (q) → Q = MQ below (QI G s.heap.size q V) args s 0 0 (gA G s.heap.size)) {H : Heap} {locs : List Loc} {ls : Array Slot} (hw : HW G s.heap V H locs) (hl : lv_has ls 5 [(0, .ref (G.2.2 i)), (1, .int u1), (2, .int u2), (3, .int u3)]) : W p l e (rmD 3) s m args below meth c H locs 0 0 Q (F0 m 44 ls []) := by
  have hx := en_x E
  have hb := en_b E
  have hB := en_B E
  unfold fX6_hanging_j44_6 at h
  refine lv_iload_n hx hb dX6_hanging_44 rfl (lv_at hl 2 rfl) ?_
  refine lv_iconst (v := (1 : Int32)) hx hb dX6_hanging_45 (by decide) ?_
  refine lv_iload_n hx hb dX6_hanging_46 rfl (lv_at hl 3 rfl) ?_
  refine lv_ishl hx hb dX6_hanging_47 ?_
  refine lv_ior hx hb dX6_hanging_48 ?_
  obtain ⟨y4, ey4, h⟩ := lt_some h
  refine lv_eqi ey4 ?_
  refine lv_istore_n (lv' := [(2, .int y4), (0, .ref (G.2.2 i)), (1, .int u1), (3, .int u3)]) hx hb dX6_hanging_49 rfl hl (by decide) rfl (fun ls hl => ?_)
  obtain ⟨y5, ey5, h⟩ := lt_some h
  refine lv_iinc (v := y5) (lv' := [(3, .int y5), (2, .int y4), (0, .ref (G.2.2 i)), (1, .int u1)]) hx hb dX6_hanging_50 hl (k := 3) rfl (by rw [ey5]; rfl) (by decide) rfl (fun ls hl => ?_)
  refine lv_goto (tgt := 6) hx hb dX6_hanging_53 (by decide) ?_
  exact kc (u1, y4, y5) (Option.some.inj h).symm H locs ls hw (lv_sub hl [2, 3, 1, 0] rfl)
set_option maxHeartbeats 4000000 in
set_option maxRecDepth 100000 in
theorem wX6_hanging_L6 {p : Program} {l : Launch} {e : Env} {s : State} {m : MethodId} {args : Array Value} {below : List Frame} {meth : Method} {c : Code} {G : GT} {B : BGt} {Q : State → Prop} (E : En p s m args c meth cX6_hanging 5 RX6 (some .int) G B) {i : Nat} (hs_i : isSt i) {V : VT} {x : Int32} (kr : ∀ q : Int32, x = q → Q = MQ below (QI G s.heap.size q V) args s 0 0 (gA G s.heap.size)) : ∀ (n : Nat) (q : (Int32 × Int32 × Int32)), it_ (iX6_hanging_L6 V i) n q = some x → ∀ (H : Heap) (locs : List Loc) (ls : Array Slot), HW G s.heap V H locs → lv_has ls 5 [(0, .ref (G.2.2 i)), (1, .int (q.1)), (2, .int (q.2.1)), (3, .int (q.2.2))] → W p l e (rmD 3) s m args below meth c H locs 0 0 Q (F0 m 6 ls []) := by
  have hx := en_x E
  have hb := en_b E
  have hB := en_B E
  refine it_W (fun q : (Int32 × Int32 × Int32) => ∀ (H : Heap) (locs : List Loc) (ls : Array Slot), HW G s.heap V H locs → lv_has ls 5 [(0, .ref (G.2.2 i)), (1, .int (q.1)), (2, .int (q.2.1)), (3, .int (q.2.2))] → W p l e (rmD 3) s m args below meth c H locs 0 0 Q (F0 m 6 ls [])) x ?_
  intro q r h kc kx
  obtain ⟨u1, u2, u3⟩ := q
  intro H locs ls hw hl
  have h : fX6_hanging_L6 V i u1 u2 u3 = some r := h
  have hw : HW G s.heap V H locs := hw
  have hl : lv_has ls 5 [(0, .ref (G.2.2 i)), (1, .int u1), (2, .int u2), (3, .int u3)] := hl
  have kr : ∀ q : Int32, r = .inr (q) → Q = MQ below (QI G s.heap.size q V) args s 0 0 (gA G s.heap.size) := fun q e => kr q (kx _ e).symm
  unfold fX6_hanging_L6 at h
  refine lv_iload_n hx hb dX6_hanging_6 rfl (lv_at hl 3 rfl) ?_
  refine lv_aload_n hx hb dX6_hanging_7 rfl (lv_at hl 0 rfl) ?_
  refine r_gi E hw i 4 (N := 13) (C := RX6) (T := TX6) (st_lt hs_i) (st_c hs_i) (st_N hs_i) (by decide) (st_n hs_i (k := 4) (by decide)) iw_6 rfl lf_RX6_25 dX6_hanging_8 ?_
  refine lv_icmp_ge (tgt := 56) hx hb dX6_hanging_11 (by decide) (fun c11 => ?_) (fun c11 => ?_)
  · rw [if_pos c11] at h
    refine lv_iload_n hx hb dX6_hanging_56 rfl (lv_at hl 2 rfl) ?_
    rw [kr u2 (Option.some.inj h).symm]
    exact r_ri E hw dX6_hanging_57
  · rw [if_neg c11] at h
    refine lv_aload_n hx hb dX6_hanging_14 rfl (lv_at hl 0 rfl) ?_
    refine lv_iload_n hx hb dX6_hanging_15 rfl (lv_at hl 3 rfl) ?_
    refine lv_iconst (v := (2 : Int32)) hx hb dX6_hanging_16 (by decide) ?_
    obtain ⟨y3, h2, h⟩ := ob_R_some h
    refine c_VI E hw (kX6_ofDeed (l := l) (G := G) hB hs_i h2) yy_X6_ofDeed lm_RX6_85 rfl (st_lt hs_i) (st_c hs_i) rfl hl.1 (by decide) (by decide) rfl (Nat.le_of_ble_eq_true rfl) dX6_hanging_17 (fun H locs hw => ?_)
    refine lv_istore (lv' := [(4, .int y3), (0, .ref (G.2.2 i)), (1, .int u1), (2, .int u2), (3, .int u3)]) hx hb dX6_hanging_20 hl (by decide) rfl (fun ls hl => ?_)
    refine lv_iload hx hb dX6_hanging_22 (lv_at hl 0 rfl) ?_
    refine lv_iload_n hx hb dX6_hanging_24 rfl (lv_at hl 2 rfl) ?_
    refine lv_icmp_eq (tgt := 44) hx hb dX6_hanging_25 (by decide) (fun c10 => ?_) (fun c10 => ?_)
    · rw [if_pos c10] at h
      exact wX6_hanging_j44_6 E hs_i h kc kr hw (lv_sub hl [1, 2, 3, 4] rfl)
    · rw [if_neg c10] at h
      refine lv_iload hx hb dX6_hanging_28 (lv_at hl 0 rfl) ?_
      refine lv_iconst (v := (-1 : Int32)) hx hb dX6_hanging_30 (by decide) ?_
      refine lv_icmp_eq (tgt := 50) hx hb dX6_hanging_31 (by decide) (fun c9 => ?_) (fun c9 => ?_)
      · rw [if_pos c9] at h
        obtain ⟨y6, ey6, h⟩ := lt_some h
        refine lv_iinc (v := y6) (lv' := [(3, .int y6), (4, .int y3), (0, .ref (G.2.2 i)), (1, .int u1), (2, .int u2)]) hx hb dX6_hanging_50 hl (k := 4) rfl (by rw [ey6]; rfl) (by decide) rfl (fun ls hl => ?_)
        refine lv_goto (tgt := 6) hx hb dX6_hanging_53 (by decide) ?_
        exact kc (u1, u2, y6) (Option.some.inj h).symm H locs ls hw (lv_sub hl [2, 3, 4, 0] rfl)
      · rw [if_neg c9] at h
        refine lv_iload_n hx hb dX6_hanging_34 rfl (lv_at hl 3 rfl) ?_
        refine lv_iload hx hb dX6_hanging_35 (lv_at hl 0 rfl) ?_
        refine lv_ishr hx hb dX6_hanging_37 ?_
        refine lv_iconst (v := (1 : Int32)) hx hb dX6_hanging_38 (by decide) ?_
        refine lv_iand hx hb dX6_hanging_39 ?_
        refine lv_iconst (v := (1 : Int32)) hx hb dX6_hanging_40 (by decide) ?_
        refine lv_icmp_ne (tgt := 50) hx hb dX6_hanging_41 (by decide) (fun c8 => ?_) (fun c8 => ?_)
        · rw [if_neg c8] at h
          obtain ⟨y7, ey7, h⟩ := lt_some h
          refine lv_iinc (v := y7) (lv' := [(3, .int y7), (4, .int y3), (0, .ref (G.2.2 i)), (1, .int u1), (2, .int u2)]) hx hb dX6_hanging_50 hl (k := 4) rfl (by rw [ey7]; rfl) (by decide) rfl (fun ls hl => ?_)
          refine lv_goto (tgt := 6) hx hb dX6_hanging_53 (by decide) ?_
          exact kc (u1, u2, y7) (Option.some.inj h).symm H locs ls hw (lv_sub hl [2, 3, 4, 0] rfl)
        · rw [if_pos c8] at h
          exact wX6_hanging_j44_6 E hs_i h kc kr hw (lv_sub hl [1, 2, 3, 4] rfl)
set_option maxHeartbeats 4000000 in
set_option maxRecDepth 100000 in
theorem kX6_hanging {l : Launch} {G : GT} {B : BGt} (hB : BGok B) {V : VT} {i : Nat} (hs_i : isSt i) {x1 : Int32} {r : Int32} (h : fX6_hanging V i x1 = some r) : CI l G B yX6_hanging (.code yX6_hanging cX6_hanging 5 (some .int)) 3 [.ref (G.2.2 i), .int x1] V r V := by
  intro sz
  refine met_of (Qs := fun sz => QI G sz r V) hB (by decide) (Nat.le_of_ble_eq_true rfl) ?_ sz
  intro p e s m args below meth c ls E hw hl
  have hx := en_x E
  have hb := en_b E
  generalize hQ : MQ _ _ _ _ _ _ _ = Q
  have kr : Q = MQ below (QI G s.heap.size r V) args s 0 0 (gA G s.heap.size) := hQ.symm
  have hl : lv_has ls 5 [(0, .ref (G.2.2 i)), (1, .int x1)] := hl
  obtain ⟨H, eH⟩ : ∃ H, H = s.heap := ⟨_, rfl⟩
  obtain ⟨locs, elocs⟩ : ∃ z : List Loc, z = [] := ⟨_, rfl⟩
  have hw : HW G s.heap V H locs := by rw [eH, elocs]; exact hw
  show W p l e _ s m args below meth c s.heap [] 0 0 Q (F0 m 0 ls [])
  rw [← eH, ← elocs]
  unfold fX6_hanging at h
  refine lv_iconst (v := (0 : Int32)) hx hb dX6_hanging_0 (by decide) ?_
  refine lv_istore_n (lv' := [(2, .int (0 : Int32)), (0, .ref (G.2.2 i)), (1, .int x1)]) hx hb dX6_hanging_1 rfl hl (by decide) rfl (fun ls hl => ?_)
  refine lv_iload_n hx hb dX6_hanging_2 rfl (lv_at hl 2 rfl) ?_
  refine lv_iconst (v := (1 : Int32)) hx hb dX6_hanging_3 (by decide) ?_
  refine lv_iadd hx hb dX6_hanging_4 ?_
  obtain ⟨y1, ey1, h⟩ := lt_some h
  refine lv_eqi ey1 ?_
  refine lv_istore_n (lv' := [(3, .int y1), (2, .int (0 : Int32)), (0, .ref (G.2.2 i)), (1, .int x1)]) hx hb dX6_hanging_5 rfl hl (by decide) rfl (fun ls hl => ?_)
  obtain ⟨x13, h12, h⟩ := ob_R_some h
  have h := Option.some.inj h
  subst h
  exact wX6_hanging_L6 E hs_i (fun q e => by subst e; exact kr) FV (x1, (0 : Int32), y1) h12 H locs ls hw (lv_sub hl [2, 3, 1, 0] rfl)
/-! ===== AllSawIt$State.chain(I)I ===== -/
theorem dX6_chain_0 : decode cX6_chain 0 = .ok (.iconst 0, 1) := by decide +kernel
theorem dX6_chain_1 : decode cX6_chain 1 = .ok (.istore_n 2, 1) := by decide +kernel
theorem dX6_chain_2 : decode cX6_chain 2 = .ok (.aload_n 0, 1) := by decide +kernel
theorem dX6_chain_3 : decode cX6_chain 3 = .ok (.iload_n 1, 1) := by decide +kernel
theorem dX6_chain_4 : decode cX6_chain 4 = .ok (.iconst 2, 1) := by decide +kernel
theorem dX6_chain_5 : decode cX6_chain 5 = .ok (.invokevirtual 85, 3) := by decide +kernel
theorem dX6_chain_8 : decode cX6_chain 8 = .ok (.istore_n 3, 1) := by decide +kernel
theorem dX6_chain_9 : decode cX6_chain 9 = .ok (.iconst 0, 1) := by decide +kernel
theorem dX6_chain_10 : decode cX6_chain 10 = .ok (.istore 4, 2) := by decide +kernel
theorem dX6_chain_12 : decode cX6_chain 12 = .ok (.iload 4, 2) := by decide +kernel
theorem dX6_chain_14 : decode cX6_chain 14 = .ok (.bipush 10, 2) := by decide +kernel
theorem dX6_chain_16 : decode cX6_chain 16 = .ok (.if_icmp .ge 24, 3) := by decide +kernel
theorem dX6_chain_19 : decode cX6_chain 19 = .ok (.iload_n 3, 1) := by decide +kernel
theorem dX6_chain_20 : decode cX6_chain 20 = .ok (.iconst (-1), 1) := by decide +kernel
theorem dX6_chain_21 : decode cX6_chain 21 = .ok (.if_icmp .eq 19, 3) := by decide +kernel
theorem dX6_chain_24 : decode cX6_chain 24 = .ok (.iinc 2 1, 3) := by decide +kernel
theorem dX6_chain_27 : decode cX6_chain 27 = .ok (.aload_n 0, 1) := by decide +kernel
theorem dX6_chain_28 : decode cX6_chain 28 = .ok (.iload_n 3, 1) := by decide +kernel
theorem dX6_chain_29 : decode cX6_chain 29 = .ok (.iconst 2, 1) := by decide +kernel
theorem dX6_chain_30 : decode cX6_chain 30 = .ok (.invokevirtual 85, 3) := by decide +kernel
theorem dX6_chain_33 : decode cX6_chain 33 = .ok (.istore_n 3, 1) := by decide +kernel
theorem dX6_chain_34 : decode cX6_chain 34 = .ok (.iinc 4 1, 3) := by decide +kernel
theorem dX6_chain_37 : decode cX6_chain 37 = .ok (.goto (-25), 3) := by decide +kernel
theorem dX6_chain_40 : decode cX6_chain 40 = .ok (.iload_n 2, 1) := by decide +kernel
theorem dX6_chain_41 : decode cX6_chain 41 = .ok (.ireturn, 1) := by decide +kernel
noncomputable def fX6_chain_L12 (V : VT) (i : Nat) (u2 : Int32) (u3 : Int32) (u4 : Int32) : Option ((Int32 × Int32 × Int32) ⊕ Int32) := if (10 : Int32) ≤ u4 then (some (.inr (u2))) else (if u3 = (-1 : Int32) then (some (.inr (u2))) else (lt_ (u2 + (1 : Int32)) fun y3 => ob_R (fX6_ofDeed V i u3 (2 : Int32)) fun y5 => lt_ (u4 + (1 : Int32)) fun y6 => some (.inl (y3, y5, y6))))
noncomputable def iX6_chain_L12 (V : VT) (i : Nat) : (Int32 × Int32 × Int32) → Option ((Int32 × Int32 × Int32) ⊕ Int32) := fun q => fX6_chain_L12 V i (q.1) (q.2.1) (q.2.2)
noncomputable def fX6_chain (V : VT) (i : Nat) (x1 : Int32) : Option Int32 := ob_R (fX6_ofDeed V i x1 (2 : Int32)) fun y2 => ob_R (it_ (iX6_chain_L12 V i) FV ((0 : Int32), y2, (0 : Int32))) fun x10 => some x10
set_option maxHeartbeats 4000000 in
set_option maxRecDepth 100000 in
theorem wX6_chain_L12 {p : Program} {l : Launch} {e : Env} {s : State} {m : MethodId} {args : Array Value} {below : List Frame} {meth : Method} {c : Code} {G : GT} {B : BGt} {Q : State → Prop} (E : En p s m args c meth cX6_chain 5 RX6 (some .int) G B) {i : Nat} (hs_i : isSt i) {V : VT} {x : Int32} (kr : ∀ q : Int32, x = q → Q = MQ below (QI G s.heap.size q V) args s 0 0 (gA G s.heap.size)) : ∀ (n : Nat) (q : (Int32 × Int32 × Int32)), it_ (iX6_chain_L12 V i) n q = some x → ∀ (H : Heap) (locs : List Loc) (ls : Array Slot), HW G s.heap V H locs → lv_has ls 5 [(0, .ref (G.2.2 i)), (2, .int (q.1)), (3, .int (q.2.1)), (4, .int (q.2.2))] → W p l e (rmD 3) s m args below meth c H locs 0 0 Q (F0 m 12 ls []) := by
  have hx := en_x E
  have hb := en_b E
  have hB := en_B E
  refine it_W (fun q : (Int32 × Int32 × Int32) => ∀ (H : Heap) (locs : List Loc) (ls : Array Slot), HW G s.heap V H locs → lv_has ls 5 [(0, .ref (G.2.2 i)), (2, .int (q.1)), (3, .int (q.2.1)), (4, .int (q.2.2))] → W p l e (rmD 3) s m args below meth c H locs 0 0 Q (F0 m 12 ls [])) x ?_
  intro q r h kc kx
  obtain ⟨u2, u3, u4⟩ := q
  intro H locs ls hw hl
  have h : fX6_chain_L12 V i u2 u3 u4 = some r := h
  have hw : HW G s.heap V H locs := hw
  have hl : lv_has ls 5 [(0, .ref (G.2.2 i)), (2, .int u2), (3, .int u3), (4, .int u4)] := hl
  have kr : ∀ q : Int32, r = .inr (q) → Q = MQ below (QI G s.heap.size q V) args s 0 0 (gA G s.heap.size) := fun q e => kr q (kx _ e).symm
  unfold fX6_chain_L12 at h
  refine lv_iload hx hb dX6_chain_12 (lv_at hl 3 rfl) ?_
  refine lv_bipush (v := (10 : Int32)) hx hb dX6_chain_14 (by decide) ?_
  refine lv_icmp_ge (tgt := 40) hx hb dX6_chain_16 (by decide) (fun c8 => ?_) (fun c8 => ?_)
  · rw [if_pos c8] at h
    refine lv_iload_n hx hb dX6_chain_40 rfl (lv_at hl 1 rfl) ?_
    rw [kr u2 (Option.some.inj h).symm]
    exact r_ri E hw dX6_chain_41
  · rw [if_neg c8] at h
    refine lv_iload_n hx hb dX6_chain_19 rfl (lv_at hl 2 rfl) ?_
    refine lv_iconst (v := (-1 : Int32)) hx hb dX6_chain_20 (by decide) ?_
    refine lv_icmp_eq (tgt := 40) hx hb dX6_chain_21 (by decide) (fun c7 => ?_) (fun c7 => ?_)
    · rw [if_pos c7] at h
      refine lv_iload_n hx hb dX6_chain_40 rfl (lv_at hl 1 rfl) ?_
      rw [kr u2 (Option.some.inj h).symm]
      exact r_ri E hw dX6_chain_41
    · rw [if_neg c7] at h
      obtain ⟨y3, ey3, h⟩ := lt_some h
      refine lv_iinc (v := y3) (lv' := [(2, .int y3), (0, .ref (G.2.2 i)), (3, .int u3), (4, .int u4)]) hx hb dX6_chain_24 hl (k := 1) rfl (by rw [ey3]; rfl) (by decide) rfl (fun ls hl => ?_)
      refine lv_aload_n hx hb dX6_chain_27 rfl (lv_at hl 1 rfl) ?_
      refine lv_iload_n hx hb dX6_chain_28 rfl (lv_at hl 2 rfl) ?_
      refine lv_iconst (v := (2 : Int32)) hx hb dX6_chain_29 (by decide) ?_
      obtain ⟨y5, h4, h⟩ := ob_R_some h
      refine c_VI E hw (kX6_ofDeed (l := l) (G := G) hB hs_i h4) yy_X6_ofDeed lm_RX6_85 rfl (st_lt hs_i) (st_c hs_i) rfl hl.1 (by decide) (by decide) rfl (Nat.le_of_ble_eq_true rfl) dX6_chain_30 (fun H locs hw => ?_)
      refine lv_istore_n (lv' := [(3, .int y5), (2, .int y3), (0, .ref (G.2.2 i)), (4, .int u4)]) hx hb dX6_chain_33 rfl hl (by decide) rfl (fun ls hl => ?_)
      obtain ⟨y6, ey6, h⟩ := lt_some h
      refine lv_iinc (v := y6) (lv' := [(4, .int y6), (3, .int y5), (2, .int y3), (0, .ref (G.2.2 i))]) hx hb dX6_chain_34 hl (k := 3) rfl (by rw [ey6]; rfl) (by decide) rfl (fun ls hl => ?_)
      refine lv_goto (tgt := 12) hx hb dX6_chain_37 (by decide) ?_
      exact kc (y3, y5, y6) (Option.some.inj h).symm H locs ls hw (lv_sub hl [3, 2, 1, 0] rfl)
set_option maxHeartbeats 4000000 in
set_option maxRecDepth 100000 in
theorem kX6_chain {l : Launch} {G : GT} {B : BGt} (hB : BGok B) {V : VT} {i : Nat} (hs_i : isSt i) {x1 : Int32} {r : Int32} (h : fX6_chain V i x1 = some r) : CI l G B yX6_chain (.code yX6_chain cX6_chain 5 (some .int)) 3 [.ref (G.2.2 i), .int x1] V r V := by
  intro sz
  refine met_of (Qs := fun sz => QI G sz r V) hB (by decide) (Nat.le_of_ble_eq_true rfl) ?_ sz
  intro p e s m args below meth c ls E hw hl
  have hx := en_x E
  have hb := en_b E
  generalize hQ : MQ _ _ _ _ _ _ _ = Q
  have kr : Q = MQ below (QI G s.heap.size r V) args s 0 0 (gA G s.heap.size) := hQ.symm
  have hl : lv_has ls 5 [(0, .ref (G.2.2 i)), (1, .int x1)] := hl
  obtain ⟨H, eH⟩ : ∃ H, H = s.heap := ⟨_, rfl⟩
  obtain ⟨locs, elocs⟩ : ∃ z : List Loc, z = [] := ⟨_, rfl⟩
  have hw : HW G s.heap V H locs := by rw [eH, elocs]; exact hw
  show W p l e _ s m args below meth c s.heap [] 0 0 Q (F0 m 0 ls [])
  rw [← eH, ← elocs]
  unfold fX6_chain at h
  refine lv_iconst (v := (0 : Int32)) hx hb dX6_chain_0 (by decide) ?_
  refine lv_istore_n (lv' := [(2, .int (0 : Int32)), (0, .ref (G.2.2 i)), (1, .int x1)]) hx hb dX6_chain_1 rfl hl (by decide) rfl (fun ls hl => ?_)
  refine lv_aload_n hx hb dX6_chain_2 rfl (lv_at hl 1 rfl) ?_
  refine lv_iload_n hx hb dX6_chain_3 rfl (lv_at hl 2 rfl) ?_
  refine lv_iconst (v := (2 : Int32)) hx hb dX6_chain_4 (by decide) ?_
  obtain ⟨y2, h1, h⟩ := ob_R_some h
  refine c_VI E hw (kX6_ofDeed (l := l) (G := G) hB hs_i h1) yy_X6_ofDeed lm_RX6_85 rfl (st_lt hs_i) (st_c hs_i) rfl hl.1 (by decide) (by decide) rfl (Nat.le_of_ble_eq_true rfl) dX6_chain_5 (fun H locs hw => ?_)
  refine lv_istore_n (lv' := [(3, .int y2), (2, .int (0 : Int32)), (0, .ref (G.2.2 i)), (1, .int x1)]) hx hb dX6_chain_8 rfl hl (by decide) rfl (fun ls hl => ?_)
  refine lv_iconst (v := (0 : Int32)) hx hb dX6_chain_9 (by decide) ?_
  refine lv_istore (lv' := [(4, .int (0 : Int32)), (3, .int y2), (2, .int (0 : Int32)), (0, .ref (G.2.2 i)), (1, .int x1)]) hx hb dX6_chain_10 hl (by decide) rfl (fun ls hl => ?_)
  obtain ⟨x10, h9, h⟩ := ob_R_some h
  have h := Option.some.inj h
  subst h
  exact wX6_chain_L12 E hs_i (fun q e => by subst e; exact kr) FV ((0 : Int32), y2, (0 : Int32)) h9 H locs ls hw (lv_sub hl [3, 2, 1, 0] rfl)
/-! ===== AllSawIt$State.bribe(I)I ===== -/
theorem dX6_bribe_0 : decode cX6_bribe 0 = .ok (.iconst 0, 1) := by decide +kernel
theorem dX6_bribe_1 : decode cX6_bribe 1 = .ok (.istore_n 2, 1) := by decide +kernel
theorem dX6_bribe_2 : decode cX6_bribe 2 = .ok (.iconst 0, 1) := by decide +kernel
theorem dX6_bribe_3 : decode cX6_bribe 3 = .ok (.istore_n 3, 1) := by decide +kernel
theorem dX6_bribe_4 : decode cX6_bribe 4 = .ok (.iload_n 3, 1) := by decide +kernel
theorem dX6_bribe_5 : decode cX6_bribe 5 = .ok (.aload_n 0, 1) := by decide +kernel
theorem dX6_bribe_6 : decode cX6_bribe 6 = .ok (.getfield 21, 3) := by decide +kernel
theorem dX6_bribe_9 : decode cX6_bribe 9 = .ok (.if_icmp .ge 27, 3) := by decide +kernel
theorem dX6_bribe_12 : decode cX6_bribe 12 = .ok (.aload_n 0, 1) := by decide +kernel
theorem dX6_bribe_13 : decode cX6_bribe 13 = .ok (.iload_n 3, 1) := by decide +kernel
theorem dX6_bribe_14 : decode cX6_bribe 14 = .ok (.iload_n 1, 1) := by decide +kernel
theorem dX6_bribe_15 : decode cX6_bribe 15 = .ok (.invokevirtual 101, 3) := by decide +kernel
theorem dX6_bribe_18 : decode cX6_bribe 18 = .ok (.ifCond .ne 12, 3) := by decide +kernel
theorem dX6_bribe_21 : decode cX6_bribe 21 = .ok (.iload_n 2, 1) := by decide +kernel
theorem dX6_bribe_22 : decode cX6_bribe 22 = .ok (.aload_n 0, 1) := by decide +kernel
theorem dX6_bribe_23 : decode cX6_bribe 23 = .ok (.iload_n 3, 1) := by decide +kernel
theorem dX6_bribe_24 : decode cX6_bribe 24 = .ok (.iconst 5, 1) := by decide +kernel
theorem dX6_bribe_25 : decode cX6_bribe 25 = .ok (.invokevirtual 64, 3) := by decide +kernel
theorem dX6_bribe_28 : decode cX6_bribe 28 = .ok (.iadd, 1) := by decide +kernel
theorem dX6_bribe_29 : decode cX6_bribe 29 = .ok (.istore_n 2, 1) := by decide +kernel
theorem dX6_bribe_30 : decode cX6_bribe 30 = .ok (.iinc 3 1, 3) := by decide +kernel
theorem dX6_bribe_33 : decode cX6_bribe 33 = .ok (.goto (-29), 3) := by decide +kernel
theorem dX6_bribe_36 : decode cX6_bribe 36 = .ok (.iload_n 2, 1) := by decide +kernel
theorem dX6_bribe_37 : decode cX6_bribe 37 = .ok (.ireturn, 1) := by decide +kernel
noncomputable def fX6_bribe_L4 (V : VT) (i : Nat) (u1 : Int32) (u2 : Int32) (u3 : Int32) : Option ((Int32 × Int32 × Int32) ⊕ Int32) := if (V i 3) ≤ u3 then (some (.inr (u2))) else (ob_R (fX6_hasSaid V i u3 u1) fun y2 => if y2 = 0 then (ob_R (fX6_ofHouse V i u3 (5 : Int32)) fun y5 => lt_ (u2 + y5) fun y6 => lt_ (u3 + (1 : Int32)) fun y7 => some (.inl (u1, y6, y7))) else (lt_ (u3 + (1 : Int32)) fun y3 => some (.inl (u1, u2, y3))))
noncomputable def iX6_bribe_L4 (V : VT) (i : Nat) : (Int32 × Int32 × Int32) → Option ((Int32 × Int32 × Int32) ⊕ Int32) := fun q => fX6_bribe_L4 V i (q.1) (q.2.1) (q.2.2)
noncomputable def fX6_bribe (V : VT) (i : Nat) (x1 : Int32) : Option Int32 := ob_R (it_ (iX6_bribe_L4 V i) FV (x1, (0 : Int32), (0 : Int32))) fun x11 => some x11
set_option maxHeartbeats 4000000 in
set_option maxRecDepth 100000 in
theorem wX6_bribe_L4 {p : Program} {l : Launch} {e : Env} {s : State} {m : MethodId} {args : Array Value} {below : List Frame} {meth : Method} {c : Code} {G : GT} {B : BGt} {Q : State → Prop} (E : En p s m args c meth cX6_bribe 4 RX6 (some .int) G B) {i : Nat} (hs_i : isSt i) {V : VT} {x : Int32} (kr : ∀ q : Int32, x = q → Q = MQ below (QI G s.heap.size q V) args s 0 0 (gA G s.heap.size)) : ∀ (n : Nat) (q : (Int32 × Int32 × Int32)), it_ (iX6_bribe_L4 V i) n q = some x → ∀ (H : Heap) (locs : List Loc) (ls : Array Slot), HW G s.heap V H locs → lv_has ls 4 [(0, .ref (G.2.2 i)), (1, .int (q.1)), (2, .int (q.2.1)), (3, .int (q.2.2))] → W p l e (rmD 4) s m args below meth c H locs 0 0 Q (F0 m 4 ls []) := by
  have hx := en_x E
  have hb := en_b E
  have hB := en_B E
  refine it_W (fun q : (Int32 × Int32 × Int32) => ∀ (H : Heap) (locs : List Loc) (ls : Array Slot), HW G s.heap V H locs → lv_has ls 4 [(0, .ref (G.2.2 i)), (1, .int (q.1)), (2, .int (q.2.1)), (3, .int (q.2.2))] → W p l e (rmD 4) s m args below meth c H locs 0 0 Q (F0 m 4 ls [])) x ?_
  intro q r h kc kx
  obtain ⟨u1, u2, u3⟩ := q
  intro H locs ls hw hl
  have h : fX6_bribe_L4 V i u1 u2 u3 = some r := h
  have hw : HW G s.heap V H locs := hw
  have hl : lv_has ls 4 [(0, .ref (G.2.2 i)), (1, .int u1), (2, .int u2), (3, .int u3)] := hl
  have kr : ∀ q : Int32, r = .inr (q) → Q = MQ below (QI G s.heap.size q V) args s 0 0 (gA G s.heap.size) := fun q e => kr q (kx _ e).symm
  unfold fX6_bribe_L4 at h
  refine lv_iload_n hx hb dX6_bribe_4 rfl (lv_at hl 3 rfl) ?_
  refine lv_aload_n hx hb dX6_bribe_5 rfl (lv_at hl 0 rfl) ?_
  refine r_gi E hw i 3 (N := 13) (C := RX6) (T := TX6) (st_lt hs_i) (st_c hs_i) (st_N hs_i) (by decide) (st_n hs_i (k := 3) (by decide)) iw_6 rfl lf_RX6_21 dX6_bribe_6 ?_
  refine lv_icmp_ge (tgt := 36) hx hb dX6_bribe_9 (by decide) (fun c9 => ?_) (fun c9 => ?_)
  · rw [if_pos c9] at h
    refine lv_iload_n hx hb dX6_bribe_36 rfl (lv_at hl 2 rfl) ?_
    rw [kr u2 (Option.some.inj h).symm]
    exact r_ri E hw dX6_bribe_37
  · rw [if_neg c9] at h
    refine lv_aload_n hx hb dX6_bribe_12 rfl (lv_at hl 0 rfl) ?_
    refine lv_iload_n hx hb dX6_bribe_13 rfl (lv_at hl 3 rfl) ?_
    refine lv_iload_n hx hb dX6_bribe_14 rfl (lv_at hl 1 rfl) ?_
    obtain ⟨y2, h1, h⟩ := ob_R_some h
    refine c_VI E hw (kX6_hasSaid (l := l) (G := G) hB hs_i h1) yy_X6_hasSaid lm_RX6_101 rfl (st_lt hs_i) (st_c hs_i) rfl hl.1 (by decide) (by decide) rfl (Nat.le_of_ble_eq_true rfl) dX6_bribe_15 (fun H locs hw => ?_)
    refine lv_if_ne (tgt := 30) hx hb dX6_bribe_18 (by decide) (fun c8 => ?_) (fun c8 => ?_)
    · rw [if_neg c8] at h
      obtain ⟨y3, ey3, h⟩ := lt_some h
      refine lv_iinc (v := y3) (lv' := [(3, .int y3), (0, .ref (G.2.2 i)), (1, .int u1), (2, .int u2)]) hx hb dX6_bribe_30 hl (k := 3) rfl (by rw [ey3]; rfl) (by decide) rfl (fun ls hl => ?_)
      refine lv_goto (tgt := 4) hx hb dX6_bribe_33 (by decide) ?_
      exact kc (u1, u2, y3) (Option.some.inj h).symm H locs ls hw (lv_sub hl [1, 2, 3, 0] rfl)
    · rw [if_pos c8] at h
      refine lv_iload_n hx hb dX6_bribe_21 rfl (lv_at hl 2 rfl) ?_
      refine lv_aload_n hx hb dX6_bribe_22 rfl (lv_at hl 0 rfl) ?_
      refine lv_iload_n hx hb dX6_bribe_23 rfl (lv_at hl 3 rfl) ?_
      refine lv_iconst (v := (5 : Int32)) hx hb dX6_bribe_24 (by decide) ?_
      obtain ⟨y5, h4, h⟩ := ob_R_some h
      refine c_VI E hw (kX6_ofHouse (l := l) (G := G) hB hs_i h4) yy_X6_ofHouse lm_RX6_64 rfl (st_lt hs_i) (st_c hs_i) rfl hl.1 (by decide) (by decide) rfl (Nat.le_of_ble_eq_true rfl) dX6_bribe_25 (fun H locs hw => ?_)
      refine lv_iadd hx hb dX6_bribe_28 ?_
      obtain ⟨y6, ey6, h⟩ := lt_some h
      refine lv_eqi ey6 ?_
      refine lv_istore_n (lv' := [(2, .int y6), (0, .ref (G.2.2 i)), (1, .int u1), (3, .int u3)]) hx hb dX6_bribe_29 rfl hl (by decide) rfl (fun ls hl => ?_)
      obtain ⟨y7, ey7, h⟩ := lt_some h
      refine lv_iinc (v := y7) (lv' := [(3, .int y7), (2, .int y6), (0, .ref (G.2.2 i)), (1, .int u1)]) hx hb dX6_bribe_30 hl (k := 3) rfl (by rw [ey7]; rfl) (by decide) rfl (fun ls hl => ?_)
      refine lv_goto (tgt := 4) hx hb dX6_bribe_33 (by decide) ?_
      exact kc (u1, y6, y7) (Option.some.inj h).symm H locs ls hw (lv_sub hl [2, 3, 1, 0] rfl)
set_option maxHeartbeats 4000000 in
set_option maxRecDepth 100000 in
theorem kX6_bribe {l : Launch} {G : GT} {B : BGt} (hB : BGok B) {V : VT} {i : Nat} (hs_i : isSt i) {x1 : Int32} {r : Int32} (h : fX6_bribe V i x1 = some r) : CI l G B yX6_bribe (.code yX6_bribe cX6_bribe 4 (some .int)) 4 [.ref (G.2.2 i), .int x1] V r V := by
  intro sz
  refine met_of (Qs := fun sz => QI G sz r V) hB (by decide) (Nat.le_of_ble_eq_true rfl) ?_ sz
  intro p e s m args below meth c ls E hw hl
  have hx := en_x E
  have hb := en_b E
  generalize hQ : MQ _ _ _ _ _ _ _ = Q
  have kr : Q = MQ below (QI G s.heap.size r V) args s 0 0 (gA G s.heap.size) := hQ.symm
  have hl : lv_has ls 4 [(0, .ref (G.2.2 i)), (1, .int x1)] := hl
  obtain ⟨H, eH⟩ : ∃ H, H = s.heap := ⟨_, rfl⟩
  obtain ⟨locs, elocs⟩ : ∃ z : List Loc, z = [] := ⟨_, rfl⟩
  have hw : HW G s.heap V H locs := by rw [eH, elocs]; exact hw
  show W p l e _ s m args below meth c s.heap [] 0 0 Q (F0 m 0 ls [])
  rw [← eH, ← elocs]
  unfold fX6_bribe at h
  refine lv_iconst (v := (0 : Int32)) hx hb dX6_bribe_0 (by decide) ?_
  refine lv_istore_n (lv' := [(2, .int (0 : Int32)), (0, .ref (G.2.2 i)), (1, .int x1)]) hx hb dX6_bribe_1 rfl hl (by decide) rfl (fun ls hl => ?_)
  refine lv_iconst (v := (0 : Int32)) hx hb dX6_bribe_2 (by decide) ?_
  refine lv_istore_n (lv' := [(3, .int (0 : Int32)), (2, .int (0 : Int32)), (0, .ref (G.2.2 i)), (1, .int x1)]) hx hb dX6_bribe_3 rfl hl (by decide) rfl (fun ls hl => ?_)
  obtain ⟨x11, h10, h⟩ := ob_R_some h
  have h := Option.some.inj h
  subst h
  exact wX6_bribe_L4 E hs_i (fun q e => by subst e; exact kr) FV (x1, (0 : Int32), (0 : Int32)) h10 H locs ls hw (lv_sub hl [2, 3, 1, 0] rfl)
/-! ===== AllSawIt$State.owed(I)I ===== -/
theorem dX6_owed_0 : decode cX6_owed 0 = .ok (.iconst 0, 1) := by decide +kernel
theorem dX6_owed_1 : decode cX6_owed 1 = .ok (.istore_n 2, 1) := by decide +kernel
theorem dX6_owed_2 : decode cX6_owed 2 = .ok (.iconst 0, 1) := by decide +kernel
theorem dX6_owed_3 : decode cX6_owed 3 = .ok (.istore_n 3, 1) := by decide +kernel
theorem dX6_owed_4 : decode cX6_owed 4 = .ok (.iload_n 3, 1) := by decide +kernel
theorem dX6_owed_5 : decode cX6_owed 5 = .ok (.aload_n 0, 1) := by decide +kernel
theorem dX6_owed_6 : decode cX6_owed 6 = .ok (.getfield 25, 3) := by decide +kernel
theorem dX6_owed_9 : decode cX6_owed 9 = .ok (.if_icmp .ge 41, 3) := by decide +kernel
theorem dX6_owed_12 : decode cX6_owed 12 = .ok (.aload_n 0, 1) := by decide +kernel
theorem dX6_owed_13 : decode cX6_owed 13 = .ok (.iload_n 3, 1) := by decide +kernel
theorem dX6_owed_14 : decode cX6_owed 14 = .ok (.invokevirtual 91, 3) := by decide +kernel
theorem dX6_owed_17 : decode cX6_owed 17 = .ok (.ifCond .ne 27, 3) := by decide +kernel
theorem dX6_owed_20 : decode cX6_owed 20 = .ok (.aload_n 0, 1) := by decide +kernel
theorem dX6_owed_21 : decode cX6_owed 21 = .ok (.iload_n 1, 1) := by decide +kernel
theorem dX6_owed_22 : decode cX6_owed 22 = .ok (.iload_n 3, 1) := by decide +kernel
theorem dX6_owed_23 : decode cX6_owed 23 = .ok (.invokevirtual 105, 3) := by decide +kernel
theorem dX6_owed_26 : decode cX6_owed 26 = .ok (.ifCond .eq 18, 3) := by decide +kernel
theorem dX6_owed_29 : decode cX6_owed 29 = .ok (.aload_n 0, 1) := by decide +kernel
theorem dX6_owed_30 : decode cX6_owed 30 = .ok (.iload_n 1, 1) := by decide +kernel
theorem dX6_owed_31 : decode cX6_owed 31 = .ok (.iload_n 3, 1) := by decide +kernel
theorem dX6_owed_32 : decode cX6_owed 32 = .ok (.invokevirtual 101, 3) := by decide +kernel
theorem dX6_owed_35 : decode cX6_owed 35 = .ok (.ifCond .ne 9, 3) := by decide +kernel
theorem dX6_owed_38 : decode cX6_owed 38 = .ok (.iload_n 2, 1) := by decide +kernel
theorem dX6_owed_39 : decode cX6_owed 39 = .ok (.iconst 1, 1) := by decide +kernel
theorem dX6_owed_40 : decode cX6_owed 40 = .ok (.iload_n 3, 1) := by decide +kernel
theorem dX6_owed_41 : decode cX6_owed 41 = .ok (.ishl, 1) := by decide +kernel
theorem dX6_owed_42 : decode cX6_owed 42 = .ok (.ior, 1) := by decide +kernel
theorem dX6_owed_43 : decode cX6_owed 43 = .ok (.istore_n 2, 1) := by decide +kernel
theorem dX6_owed_44 : decode cX6_owed 44 = .ok (.iinc 3 1, 3) := by decide +kernel
theorem dX6_owed_47 : decode cX6_owed 47 = .ok (.goto (-43), 3) := by decide +kernel
theorem dX6_owed_50 : decode cX6_owed 50 = .ok (.iload_n 2, 1) := by decide +kernel
theorem dX6_owed_51 : decode cX6_owed 51 = .ok (.ireturn, 1) := by decide +kernel
noncomputable def fX6_owed_L4 (V : VT) (i : Nat) (u1 : Int32) (u2 : Int32) (u3 : Int32) : Option ((Int32 × Int32 × Int32) ⊕ Int32) := if (V i 4) ≤ u3 then (some (.inr (u2))) else (ob_R (fX6_isSo V i u3) fun y2 => if y2 = 0 then (ob_R (fX6_hasSeen V i u1 u3) fun y5 => if y5 = 0 then (lt_ (u3 + (1 : Int32)) fun y6 => some (.inl (u1, u2, y6))) else (ob_R (fX6_hasSaid V i u1 u3) fun y8 => if y8 = 0 then (lt_ (u2 ||| ((1 : Int32) <<< (u3 &&& 31))) fun y10 => lt_ (u3 + (1 : Int32)) fun y11 => some (.inl (u1, y10, y11))) else (lt_ (u3 + (1 : Int32)) fun y9 => some (.inl (u1, u2, y9))))) else (lt_ (u3 + (1 : Int32)) fun y3 => some (.inl (u1, u2, y3))))
noncomputable def iX6_owed_L4 (V : VT) (i : Nat) : (Int32 × Int32 × Int32) → Option ((Int32 × Int32 × Int32) ⊕ Int32) := fun q => fX6_owed_L4 V i (q.1) (q.2.1) (q.2.2)
noncomputable def fX6_owed (V : VT) (i : Nat) (x1 : Int32) : Option Int32 := ob_R (it_ (iX6_owed_L4 V i) FV (x1, (0 : Int32), (0 : Int32))) fun x17 => some x17
set_option maxHeartbeats 4000000 in
set_option maxRecDepth 100000 in
theorem wX6_owed_L4 {p : Program} {l : Launch} {e : Env} {s : State} {m : MethodId} {args : Array Value} {below : List Frame} {meth : Method} {c : Code} {G : GT} {B : BGt} {Q : State → Prop} (E : En p s m args c meth cX6_owed 4 RX6 (some .int) G B) {i : Nat} (hs_i : isSt i) {V : VT} {x : Int32} (kr : ∀ q : Int32, x = q → Q = MQ below (QI G s.heap.size q V) args s 0 0 (gA G s.heap.size)) : ∀ (n : Nat) (q : (Int32 × Int32 × Int32)), it_ (iX6_owed_L4 V i) n q = some x → ∀ (H : Heap) (locs : List Loc) (ls : Array Slot), HW G s.heap V H locs → lv_has ls 4 [(0, .ref (G.2.2 i)), (1, .int (q.1)), (2, .int (q.2.1)), (3, .int (q.2.2))] → W p l e (rmD 4) s m args below meth c H locs 0 0 Q (F0 m 4 ls []) := by
  have hx := en_x E
  have hb := en_b E
  have hB := en_B E
  refine it_W (fun q : (Int32 × Int32 × Int32) => ∀ (H : Heap) (locs : List Loc) (ls : Array Slot), HW G s.heap V H locs → lv_has ls 4 [(0, .ref (G.2.2 i)), (1, .int (q.1)), (2, .int (q.2.1)), (3, .int (q.2.2))] → W p l e (rmD 4) s m args below meth c H locs 0 0 Q (F0 m 4 ls [])) x ?_
  intro q r h kc kx
  obtain ⟨u1, u2, u3⟩ := q
  intro H locs ls hw hl
  have h : fX6_owed_L4 V i u1 u2 u3 = some r := h
  have hw : HW G s.heap V H locs := hw
  have hl : lv_has ls 4 [(0, .ref (G.2.2 i)), (1, .int u1), (2, .int u2), (3, .int u3)] := hl
  have kr : ∀ q : Int32, r = .inr (q) → Q = MQ below (QI G s.heap.size q V) args s 0 0 (gA G s.heap.size) := fun q e => kr q (kx _ e).symm
  unfold fX6_owed_L4 at h
  refine lv_iload_n hx hb dX6_owed_4 rfl (lv_at hl 3 rfl) ?_
  refine lv_aload_n hx hb dX6_owed_5 rfl (lv_at hl 0 rfl) ?_
  refine r_gi E hw i 4 (N := 13) (C := RX6) (T := TX6) (st_lt hs_i) (st_c hs_i) (st_N hs_i) (by decide) (st_n hs_i (k := 4) (by decide)) iw_6 rfl lf_RX6_25 dX6_owed_6 ?_
  refine lv_icmp_ge (tgt := 50) hx hb dX6_owed_9 (by decide) (fun c15 => ?_) (fun c15 => ?_)
  · rw [if_pos c15] at h
    refine lv_iload_n hx hb dX6_owed_50 rfl (lv_at hl 2 rfl) ?_
    rw [kr u2 (Option.some.inj h).symm]
    exact r_ri E hw dX6_owed_51
  · rw [if_neg c15] at h
    refine lv_aload_n hx hb dX6_owed_12 rfl (lv_at hl 0 rfl) ?_
    refine lv_iload_n hx hb dX6_owed_13 rfl (lv_at hl 3 rfl) ?_
    obtain ⟨y2, h1, h⟩ := ob_R_some h
    refine c_VI E hw (kX6_isSo (l := l) (G := G) hB hs_i h1) yy_X6_isSo lm_RX6_91 rfl (st_lt hs_i) (st_c hs_i) rfl hl.1 (by decide) (by decide) rfl (Nat.le_of_ble_eq_true rfl) dX6_owed_14 (fun H locs hw => ?_)
    refine lv_if_ne (tgt := 44) hx hb dX6_owed_17 (by decide) (fun c14 => ?_) (fun c14 => ?_)
    · rw [if_neg c14] at h
      obtain ⟨y3, ey3, h⟩ := lt_some h
      refine lv_iinc (v := y3) (lv' := [(3, .int y3), (0, .ref (G.2.2 i)), (1, .int u1), (2, .int u2)]) hx hb dX6_owed_44 hl (k := 3) rfl (by rw [ey3]; rfl) (by decide) rfl (fun ls hl => ?_)
      refine lv_goto (tgt := 4) hx hb dX6_owed_47 (by decide) ?_
      exact kc (u1, u2, y3) (Option.some.inj h).symm H locs ls hw (lv_sub hl [1, 2, 3, 0] rfl)
    · rw [if_pos c14] at h
      refine lv_aload_n hx hb dX6_owed_20 rfl (lv_at hl 0 rfl) ?_
      refine lv_iload_n hx hb dX6_owed_21 rfl (lv_at hl 1 rfl) ?_
      refine lv_iload_n hx hb dX6_owed_22 rfl (lv_at hl 3 rfl) ?_
      obtain ⟨y5, h4, h⟩ := ob_R_some h
      refine c_VI E hw (kX6_hasSeen (l := l) (G := G) hB hs_i h4) yy_X6_hasSeen lm_RX6_105 rfl (st_lt hs_i) (st_c hs_i) rfl hl.1 (by decide) (by decide) rfl (Nat.le_of_ble_eq_true rfl) dX6_owed_23 (fun H locs hw => ?_)
      refine lv_if_eq (tgt := 44) hx hb dX6_owed_26 (by decide) (fun c13 => ?_) (fun c13 => ?_)
      · rw [if_pos c13] at h
        obtain ⟨y6, ey6, h⟩ := lt_some h
        refine lv_iinc (v := y6) (lv' := [(3, .int y6), (0, .ref (G.2.2 i)), (1, .int u1), (2, .int u2)]) hx hb dX6_owed_44 hl (k := 3) rfl (by rw [ey6]; rfl) (by decide) rfl (fun ls hl => ?_)
        refine lv_goto (tgt := 4) hx hb dX6_owed_47 (by decide) ?_
        exact kc (u1, u2, y6) (Option.some.inj h).symm H locs ls hw (lv_sub hl [1, 2, 3, 0] rfl)
      · rw [if_neg c13] at h
        refine lv_aload_n hx hb dX6_owed_29 rfl (lv_at hl 0 rfl) ?_
        refine lv_iload_n hx hb dX6_owed_30 rfl (lv_at hl 1 rfl) ?_
        refine lv_iload_n hx hb dX6_owed_31 rfl (lv_at hl 3 rfl) ?_
        obtain ⟨y8, h7, h⟩ := ob_R_some h
        refine c_VI E hw (kX6_hasSaid (l := l) (G := G) hB hs_i h7) yy_X6_hasSaid lm_RX6_101 rfl (st_lt hs_i) (st_c hs_i) rfl hl.1 (by decide) (by decide) rfl (Nat.le_of_ble_eq_true rfl) dX6_owed_32 (fun H locs hw => ?_)
        refine lv_if_ne (tgt := 44) hx hb dX6_owed_35 (by decide) (fun c12 => ?_) (fun c12 => ?_)
        · rw [if_neg c12] at h
          obtain ⟨y9, ey9, h⟩ := lt_some h
          refine lv_iinc (v := y9) (lv' := [(3, .int y9), (0, .ref (G.2.2 i)), (1, .int u1), (2, .int u2)]) hx hb dX6_owed_44 hl (k := 3) rfl (by rw [ey9]; rfl) (by decide) rfl (fun ls hl => ?_)
          refine lv_goto (tgt := 4) hx hb dX6_owed_47 (by decide) ?_
          exact kc (u1, u2, y9) (Option.some.inj h).symm H locs ls hw (lv_sub hl [1, 2, 3, 0] rfl)
        · rw [if_pos c12] at h
          refine lv_iload_n hx hb dX6_owed_38 rfl (lv_at hl 2 rfl) ?_
          refine lv_iconst (v := (1 : Int32)) hx hb dX6_owed_39 (by decide) ?_
          refine lv_iload_n hx hb dX6_owed_40 rfl (lv_at hl 3 rfl) ?_
          refine lv_ishl hx hb dX6_owed_41 ?_
          refine lv_ior hx hb dX6_owed_42 ?_
          obtain ⟨y10, ey10, h⟩ := lt_some h
          refine lv_eqi ey10 ?_
          refine lv_istore_n (lv' := [(2, .int y10), (0, .ref (G.2.2 i)), (1, .int u1), (3, .int u3)]) hx hb dX6_owed_43 rfl hl (by decide) rfl (fun ls hl => ?_)
          obtain ⟨y11, ey11, h⟩ := lt_some h
          refine lv_iinc (v := y11) (lv' := [(3, .int y11), (2, .int y10), (0, .ref (G.2.2 i)), (1, .int u1)]) hx hb dX6_owed_44 hl (k := 3) rfl (by rw [ey11]; rfl) (by decide) rfl (fun ls hl => ?_)
          refine lv_goto (tgt := 4) hx hb dX6_owed_47 (by decide) ?_
          exact kc (u1, y10, y11) (Option.some.inj h).symm H locs ls hw (lv_sub hl [2, 3, 1, 0] rfl)
set_option maxHeartbeats 4000000 in
set_option maxRecDepth 100000 in
theorem kX6_owed {l : Launch} {G : GT} {B : BGt} (hB : BGok B) {V : VT} {i : Nat} (hs_i : isSt i) {x1 : Int32} {r : Int32} (h : fX6_owed V i x1 = some r) : CI l G B yX6_owed (.code yX6_owed cX6_owed 4 (some .int)) 4 [.ref (G.2.2 i), .int x1] V r V := by
  intro sz
  refine met_of (Qs := fun sz => QI G sz r V) hB (by decide) (Nat.le_of_ble_eq_true rfl) ?_ sz
  intro p e s m args below meth c ls E hw hl
  have hx := en_x E
  have hb := en_b E
  generalize hQ : MQ _ _ _ _ _ _ _ = Q
  have kr : Q = MQ below (QI G s.heap.size r V) args s 0 0 (gA G s.heap.size) := hQ.symm
  have hl : lv_has ls 4 [(0, .ref (G.2.2 i)), (1, .int x1)] := hl
  obtain ⟨H, eH⟩ : ∃ H, H = s.heap := ⟨_, rfl⟩
  obtain ⟨locs, elocs⟩ : ∃ z : List Loc, z = [] := ⟨_, rfl⟩
  have hw : HW G s.heap V H locs := by rw [eH, elocs]; exact hw
  show W p l e _ s m args below meth c s.heap [] 0 0 Q (F0 m 0 ls [])
  rw [← eH, ← elocs]
  unfold fX6_owed at h
  refine lv_iconst (v := (0 : Int32)) hx hb dX6_owed_0 (by decide) ?_
  refine lv_istore_n (lv' := [(2, .int (0 : Int32)), (0, .ref (G.2.2 i)), (1, .int x1)]) hx hb dX6_owed_1 rfl hl (by decide) rfl (fun ls hl => ?_)
  refine lv_iconst (v := (0 : Int32)) hx hb dX6_owed_2 (by decide) ?_
  refine lv_istore_n (lv' := [(3, .int (0 : Int32)), (2, .int (0 : Int32)), (0, .ref (G.2.2 i)), (1, .int x1)]) hx hb dX6_owed_3 rfl hl (by decide) rfl (fun ls hl => ?_)
  obtain ⟨x17, h16, h⟩ := ob_R_some h
  have h := Option.some.inj h
  subst h
  exact wX6_owed_L4 E hs_i (fun q e => by subst e; exact kr) FV (x1, (0 : Int32), (0 : Int32)) h16 H locs ls hw (lv_sub hl [2, 3, 1, 0] rfl)
/-! ===== AllSawIt$State.lacking(I)I ===== -/
theorem dX6_lacking_0 : decode cX6_lacking 0 = .ok (.iconst 0, 1) := by decide +kernel
theorem dX6_lacking_1 : decode cX6_lacking 1 = .ok (.istore_n 2, 1) := by decide +kernel
theorem dX6_lacking_2 : decode cX6_lacking 2 = .ok (.iconst 0, 1) := by decide +kernel
theorem dX6_lacking_3 : decode cX6_lacking 3 = .ok (.istore_n 3, 1) := by decide +kernel
theorem dX6_lacking_4 : decode cX6_lacking 4 = .ok (.iload_n 3, 1) := by decide +kernel
theorem dX6_lacking_5 : decode cX6_lacking 5 = .ok (.aload_n 0, 1) := by decide +kernel
theorem dX6_lacking_6 : decode cX6_lacking 6 = .ok (.getfield 25, 3) := by decide +kernel
theorem dX6_lacking_9 : decode cX6_lacking 9 = .ok (.if_icmp .ge 32, 3) := by decide +kernel
theorem dX6_lacking_12 : decode cX6_lacking 12 = .ok (.aload_n 0, 1) := by decide +kernel
theorem dX6_lacking_13 : decode cX6_lacking 13 = .ok (.iload_n 3, 1) := by decide +kernel
theorem dX6_lacking_14 : decode cX6_lacking 14 = .ok (.invokevirtual 91, 3) := by decide +kernel
theorem dX6_lacking_17 : decode cX6_lacking 17 = .ok (.ifCond .ne 18, 3) := by decide +kernel
theorem dX6_lacking_20 : decode cX6_lacking 20 = .ok (.aload_n 0, 1) := by decide +kernel
theorem dX6_lacking_21 : decode cX6_lacking 21 = .ok (.iload_n 1, 1) := by decide +kernel
theorem dX6_lacking_22 : decode cX6_lacking 22 = .ok (.iload_n 3, 1) := by decide +kernel
theorem dX6_lacking_23 : decode cX6_lacking 23 = .ok (.invokevirtual 105, 3) := by decide +kernel
theorem dX6_lacking_26 : decode cX6_lacking 26 = .ok (.ifCond .ne 9, 3) := by decide +kernel
theorem dX6_lacking_29 : decode cX6_lacking 29 = .ok (.iload_n 2, 1) := by decide +kernel
theorem dX6_lacking_30 : decode cX6_lacking 30 = .ok (.iconst 1, 1) := by decide +kernel
theorem dX6_lacking_31 : decode cX6_lacking 31 = .ok (.iload_n 3, 1) := by decide +kernel
theorem dX6_lacking_32 : decode cX6_lacking 32 = .ok (.ishl, 1) := by decide +kernel
theorem dX6_lacking_33 : decode cX6_lacking 33 = .ok (.ior, 1) := by decide +kernel
theorem dX6_lacking_34 : decode cX6_lacking 34 = .ok (.istore_n 2, 1) := by decide +kernel
theorem dX6_lacking_35 : decode cX6_lacking 35 = .ok (.iinc 3 1, 3) := by decide +kernel
theorem dX6_lacking_38 : decode cX6_lacking 38 = .ok (.goto (-34), 3) := by decide +kernel
theorem dX6_lacking_41 : decode cX6_lacking 41 = .ok (.iload_n 2, 1) := by decide +kernel
theorem dX6_lacking_42 : decode cX6_lacking 42 = .ok (.ireturn, 1) := by decide +kernel
noncomputable def fX6_lacking_L4 (V : VT) (i : Nat) (u1 : Int32) (u2 : Int32) (u3 : Int32) : Option ((Int32 × Int32 × Int32) ⊕ Int32) := if (V i 4) ≤ u3 then (some (.inr (u2))) else (ob_R (fX6_isSo V i u3) fun y2 => if y2 = 0 then (ob_R (fX6_hasSeen V i u1 u3) fun y5 => if y5 = 0 then (lt_ (u2 ||| ((1 : Int32) <<< (u3 &&& 31))) fun y7 => lt_ (u3 + (1 : Int32)) fun y8 => some (.inl (u1, y7, y8))) else (lt_ (u3 + (1 : Int32)) fun y6 => some (.inl (u1, u2, y6)))) else (lt_ (u3 + (1 : Int32)) fun y3 => some (.inl (u1, u2, y3))))
noncomputable def iX6_lacking_L4 (V : VT) (i : Nat) : (Int32 × Int32 × Int32) → Option ((Int32 × Int32 × Int32) ⊕ Int32) := fun q => fX6_lacking_L4 V i (q.1) (q.2.1) (q.2.2)
noncomputable def fX6_lacking (V : VT) (i : Nat) (x1 : Int32) : Option Int32 := ob_R (it_ (iX6_lacking_L4 V i) FV (x1, (0 : Int32), (0 : Int32))) fun x13 => some x13
set_option maxHeartbeats 4000000 in
set_option maxRecDepth 100000 in
theorem wX6_lacking_L4 {p : Program} {l : Launch} {e : Env} {s : State} {m : MethodId} {args : Array Value} {below : List Frame} {meth : Method} {c : Code} {G : GT} {B : BGt} {Q : State → Prop} (E : En p s m args c meth cX6_lacking 4 RX6 (some .int) G B) {i : Nat} (hs_i : isSt i) {V : VT} {x : Int32} (kr : ∀ q : Int32, x = q → Q = MQ below (QI G s.heap.size q V) args s 0 0 (gA G s.heap.size)) : ∀ (n : Nat) (q : (Int32 × Int32 × Int32)), it_ (iX6_lacking_L4 V i) n q = some x → ∀ (H : Heap) (locs : List Loc) (ls : Array Slot), HW G s.heap V H locs → lv_has ls 4 [(0, .ref (G.2.2 i)), (1, .int (q.1)), (2, .int (q.2.1)), (3, .int (q.2.2))] → W p l e (rmD 4) s m args below meth c H locs 0 0 Q (F0 m 4 ls []) := by
  have hx := en_x E
  have hb := en_b E
  have hB := en_B E
  refine it_W (fun q : (Int32 × Int32 × Int32) => ∀ (H : Heap) (locs : List Loc) (ls : Array Slot), HW G s.heap V H locs → lv_has ls 4 [(0, .ref (G.2.2 i)), (1, .int (q.1)), (2, .int (q.2.1)), (3, .int (q.2.2))] → W p l e (rmD 4) s m args below meth c H locs 0 0 Q (F0 m 4 ls [])) x ?_
  intro q r h kc kx
  obtain ⟨u1, u2, u3⟩ := q
  intro H locs ls hw hl
  have h : fX6_lacking_L4 V i u1 u2 u3 = some r := h
  have hw : HW G s.heap V H locs := hw
  have hl : lv_has ls 4 [(0, .ref (G.2.2 i)), (1, .int u1), (2, .int u2), (3, .int u3)] := hl
  have kr : ∀ q : Int32, r = .inr (q) → Q = MQ below (QI G s.heap.size q V) args s 0 0 (gA G s.heap.size) := fun q e => kr q (kx _ e).symm
  unfold fX6_lacking_L4 at h
  refine lv_iload_n hx hb dX6_lacking_4 rfl (lv_at hl 3 rfl) ?_
  refine lv_aload_n hx hb dX6_lacking_5 rfl (lv_at hl 0 rfl) ?_
  refine r_gi E hw i 4 (N := 13) (C := RX6) (T := TX6) (st_lt hs_i) (st_c hs_i) (st_N hs_i) (by decide) (st_n hs_i (k := 4) (by decide)) iw_6 rfl lf_RX6_25 dX6_lacking_6 ?_
  refine lv_icmp_ge (tgt := 41) hx hb dX6_lacking_9 (by decide) (fun c11 => ?_) (fun c11 => ?_)
  · rw [if_pos c11] at h
    refine lv_iload_n hx hb dX6_lacking_41 rfl (lv_at hl 2 rfl) ?_
    rw [kr u2 (Option.some.inj h).symm]
    exact r_ri E hw dX6_lacking_42
  · rw [if_neg c11] at h
    refine lv_aload_n hx hb dX6_lacking_12 rfl (lv_at hl 0 rfl) ?_
    refine lv_iload_n hx hb dX6_lacking_13 rfl (lv_at hl 3 rfl) ?_
    obtain ⟨y2, h1, h⟩ := ob_R_some h
    refine c_VI E hw (kX6_isSo (l := l) (G := G) hB hs_i h1) yy_X6_isSo lm_RX6_91 rfl (st_lt hs_i) (st_c hs_i) rfl hl.1 (by decide) (by decide) rfl (Nat.le_of_ble_eq_true rfl) dX6_lacking_14 (fun H locs hw => ?_)
    refine lv_if_ne (tgt := 35) hx hb dX6_lacking_17 (by decide) (fun c10 => ?_) (fun c10 => ?_)
    · rw [if_neg c10] at h
      obtain ⟨y3, ey3, h⟩ := lt_some h
      refine lv_iinc (v := y3) (lv' := [(3, .int y3), (0, .ref (G.2.2 i)), (1, .int u1), (2, .int u2)]) hx hb dX6_lacking_35 hl (k := 3) rfl (by rw [ey3]; rfl) (by decide) rfl (fun ls hl => ?_)
      refine lv_goto (tgt := 4) hx hb dX6_lacking_38 (by decide) ?_
      exact kc (u1, u2, y3) (Option.some.inj h).symm H locs ls hw (lv_sub hl [1, 2, 3, 0] rfl)
    · rw [if_pos c10] at h
      refine lv_aload_n hx hb dX6_lacking_20 rfl (lv_at hl 0 rfl) ?_
      refine lv_iload_n hx hb dX6_lacking_21 rfl (lv_at hl 1 rfl) ?_
      refine lv_iload_n hx hb dX6_lacking_22 rfl (lv_at hl 3 rfl) ?_
      obtain ⟨y5, h4, h⟩ := ob_R_some h
      refine c_VI E hw (kX6_hasSeen (l := l) (G := G) hB hs_i h4) yy_X6_hasSeen lm_RX6_105 rfl (st_lt hs_i) (st_c hs_i) rfl hl.1 (by decide) (by decide) rfl (Nat.le_of_ble_eq_true rfl) dX6_lacking_23 (fun H locs hw => ?_)
      refine lv_if_ne (tgt := 35) hx hb dX6_lacking_26 (by decide) (fun c9 => ?_) (fun c9 => ?_)
      · rw [if_neg c9] at h
        obtain ⟨y6, ey6, h⟩ := lt_some h
        refine lv_iinc (v := y6) (lv' := [(3, .int y6), (0, .ref (G.2.2 i)), (1, .int u1), (2, .int u2)]) hx hb dX6_lacking_35 hl (k := 3) rfl (by rw [ey6]; rfl) (by decide) rfl (fun ls hl => ?_)
        refine lv_goto (tgt := 4) hx hb dX6_lacking_38 (by decide) ?_
        exact kc (u1, u2, y6) (Option.some.inj h).symm H locs ls hw (lv_sub hl [1, 2, 3, 0] rfl)
      · rw [if_pos c9] at h
        refine lv_iload_n hx hb dX6_lacking_29 rfl (lv_at hl 2 rfl) ?_
        refine lv_iconst (v := (1 : Int32)) hx hb dX6_lacking_30 (by decide) ?_
        refine lv_iload_n hx hb dX6_lacking_31 rfl (lv_at hl 3 rfl) ?_
        refine lv_ishl hx hb dX6_lacking_32 ?_
        refine lv_ior hx hb dX6_lacking_33 ?_
        obtain ⟨y7, ey7, h⟩ := lt_some h
        refine lv_eqi ey7 ?_
        refine lv_istore_n (lv' := [(2, .int y7), (0, .ref (G.2.2 i)), (1, .int u1), (3, .int u3)]) hx hb dX6_lacking_34 rfl hl (by decide) rfl (fun ls hl => ?_)
        obtain ⟨y8, ey8, h⟩ := lt_some h
        refine lv_iinc (v := y8) (lv' := [(3, .int y8), (2, .int y7), (0, .ref (G.2.2 i)), (1, .int u1)]) hx hb dX6_lacking_35 hl (k := 3) rfl (by rw [ey8]; rfl) (by decide) rfl (fun ls hl => ?_)
        refine lv_goto (tgt := 4) hx hb dX6_lacking_38 (by decide) ?_
        exact kc (u1, y7, y8) (Option.some.inj h).symm H locs ls hw (lv_sub hl [2, 3, 1, 0] rfl)
set_option maxHeartbeats 4000000 in
set_option maxRecDepth 100000 in
theorem kX6_lacking {l : Launch} {G : GT} {B : BGt} (hB : BGok B) {V : VT} {i : Nat} (hs_i : isSt i) {x1 : Int32} {r : Int32} (h : fX6_lacking V i x1 = some r) : CI l G B yX6_lacking (.code yX6_lacking cX6_lacking 4 (some .int)) 4 [.ref (G.2.2 i), .int x1] V r V := by
  intro sz
  refine met_of (Qs := fun sz => QI G sz r V) hB (by decide) (Nat.le_of_ble_eq_true rfl) ?_ sz
  intro p e s m args below meth c ls E hw hl
  have hx := en_x E
  have hb := en_b E
  generalize hQ : MQ _ _ _ _ _ _ _ = Q
  have kr : Q = MQ below (QI G s.heap.size r V) args s 0 0 (gA G s.heap.size) := hQ.symm
  have hl : lv_has ls 4 [(0, .ref (G.2.2 i)), (1, .int x1)] := hl
  obtain ⟨H, eH⟩ : ∃ H, H = s.heap := ⟨_, rfl⟩
  obtain ⟨locs, elocs⟩ : ∃ z : List Loc, z = [] := ⟨_, rfl⟩
  have hw : HW G s.heap V H locs := by rw [eH, elocs]; exact hw
  show W p l e _ s m args below meth c s.heap [] 0 0 Q (F0 m 0 ls [])
  rw [← eH, ← elocs]
  unfold fX6_lacking at h
  refine lv_iconst (v := (0 : Int32)) hx hb dX6_lacking_0 (by decide) ?_
  refine lv_istore_n (lv' := [(2, .int (0 : Int32)), (0, .ref (G.2.2 i)), (1, .int x1)]) hx hb dX6_lacking_1 rfl hl (by decide) rfl (fun ls hl => ?_)
  refine lv_iconst (v := (0 : Int32)) hx hb dX6_lacking_2 (by decide) ?_
  refine lv_istore_n (lv' := [(3, .int (0 : Int32)), (2, .int (0 : Int32)), (0, .ref (G.2.2 i)), (1, .int x1)]) hx hb dX6_lacking_3 rfl hl (by decide) rfl (fun ls hl => ?_)
  obtain ⟨x13, h12, h⟩ := ob_R_some h
  have h := Option.some.inj h
  subst h
  exact wX6_lacking_L4 E hs_i (fun q e => by subst e; exact kr) FV (x1, (0 : Int32), (0 : Int32)) h12 H locs ls hw (lv_sub hl [2, 3, 1, 0] rfl)
/-! ===== AllSawIt$State.unsaid(I)I ===== -/
theorem dX6_unsaid_0 : decode cX6_unsaid 0 = .ok (.iconst 0, 1) := by decide +kernel
theorem dX6_unsaid_1 : decode cX6_unsaid 1 = .ok (.istore_n 2, 1) := by decide +kernel
theorem dX6_unsaid_2 : decode cX6_unsaid 2 = .ok (.iconst 0, 1) := by decide +kernel
theorem dX6_unsaid_3 : decode cX6_unsaid 3 = .ok (.istore_n 3, 1) := by decide +kernel
theorem dX6_unsaid_4 : decode cX6_unsaid 4 = .ok (.iload_n 3, 1) := by decide +kernel
theorem dX6_unsaid_5 : decode cX6_unsaid 5 = .ok (.aload_n 0, 1) := by decide +kernel
theorem dX6_unsaid_6 : decode cX6_unsaid 6 = .ok (.getfield 25, 3) := by decide +kernel
theorem dX6_unsaid_9 : decode cX6_unsaid 9 = .ok (.if_icmp .ge 29, 3) := by decide +kernel
theorem dX6_unsaid_12 : decode cX6_unsaid 12 = .ok (.aload_n 0, 1) := by decide +kernel
theorem dX6_unsaid_13 : decode cX6_unsaid 13 = .ok (.iload_n 3, 1) := by decide +kernel
theorem dX6_unsaid_14 : decode cX6_unsaid 14 = .ok (.invokevirtual 91, 3) := by decide +kernel
theorem dX6_unsaid_17 : decode cX6_unsaid 17 = .ok (.ifCond .ne 15, 3) := by decide +kernel
theorem dX6_unsaid_20 : decode cX6_unsaid 20 = .ok (.aload_n 0, 1) := by decide +kernel
theorem dX6_unsaid_21 : decode cX6_unsaid 21 = .ok (.iload_n 1, 1) := by decide +kernel
theorem dX6_unsaid_22 : decode cX6_unsaid 22 = .ok (.iload_n 3, 1) := by decide +kernel
theorem dX6_unsaid_23 : decode cX6_unsaid 23 = .ok (.invokevirtual 101, 3) := by decide +kernel
theorem dX6_unsaid_26 : decode cX6_unsaid 26 = .ok (.ifCond .ne 6, 3) := by decide +kernel
theorem dX6_unsaid_29 : decode cX6_unsaid 29 = .ok (.iinc 2 1, 3) := by decide +kernel
theorem dX6_unsaid_32 : decode cX6_unsaid 32 = .ok (.iinc 3 1, 3) := by decide +kernel
theorem dX6_unsaid_35 : decode cX6_unsaid 35 = .ok (.goto (-31), 3) := by decide +kernel
theorem dX6_unsaid_38 : decode cX6_unsaid 38 = .ok (.iload_n 2, 1) := by decide +kernel
theorem dX6_unsaid_39 : decode cX6_unsaid 39 = .ok (.ireturn, 1) := by decide +kernel
noncomputable def fX6_unsaid_L4 (V : VT) (i : Nat) (u1 : Int32) (u2 : Int32) (u3 : Int32) : Option ((Int32 × Int32 × Int32) ⊕ Int32) := if (V i 4) ≤ u3 then (some (.inr (u2))) else (ob_R (fX6_isSo V i u3) fun y2 => if y2 = 0 then (ob_R (fX6_hasSaid V i u1 u3) fun y5 => if y5 = 0 then (lt_ (u2 + (1 : Int32)) fun y7 => lt_ (u3 + (1 : Int32)) fun y8 => some (.inl (u1, y7, y8))) else (lt_ (u3 + (1 : Int32)) fun y6 => some (.inl (u1, u2, y6)))) else (lt_ (u3 + (1 : Int32)) fun y3 => some (.inl (u1, u2, y3))))
noncomputable def iX6_unsaid_L4 (V : VT) (i : Nat) : (Int32 × Int32 × Int32) → Option ((Int32 × Int32 × Int32) ⊕ Int32) := fun q => fX6_unsaid_L4 V i (q.1) (q.2.1) (q.2.2)
noncomputable def fX6_unsaid (V : VT) (i : Nat) (x1 : Int32) : Option Int32 := ob_R (it_ (iX6_unsaid_L4 V i) FV (x1, (0 : Int32), (0 : Int32))) fun x13 => some x13
set_option maxHeartbeats 4000000 in
set_option maxRecDepth 100000 in
theorem wX6_unsaid_L4 {p : Program} {l : Launch} {e : Env} {s : State} {m : MethodId} {args : Array Value} {below : List Frame} {meth : Method} {c : Code} {G : GT} {B : BGt} {Q : State → Prop} (E : En p s m args c meth cX6_unsaid 4 RX6 (some .int) G B) {i : Nat} (hs_i : isSt i) {V : VT} {x : Int32} (kr : ∀ q : Int32, x = q → Q = MQ below (QI G s.heap.size q V) args s 0 0 (gA G s.heap.size)) : ∀ (n : Nat) (q : (Int32 × Int32 × Int32)), it_ (iX6_unsaid_L4 V i) n q = some x → ∀ (H : Heap) (locs : List Loc) (ls : Array Slot), HW G s.heap V H locs → lv_has ls 4 [(0, .ref (G.2.2 i)), (1, .int (q.1)), (2, .int (q.2.1)), (3, .int (q.2.2))] → W p l e (rmD 4) s m args below meth c H locs 0 0 Q (F0 m 4 ls []) := by
  have hx := en_x E
  have hb := en_b E
  have hB := en_B E
  refine it_W (fun q : (Int32 × Int32 × Int32) => ∀ (H : Heap) (locs : List Loc) (ls : Array Slot), HW G s.heap V H locs → lv_has ls 4 [(0, .ref (G.2.2 i)), (1, .int (q.1)), (2, .int (q.2.1)), (3, .int (q.2.2))] → W p l e (rmD 4) s m args below meth c H locs 0 0 Q (F0 m 4 ls [])) x ?_
  intro q r h kc kx
  obtain ⟨u1, u2, u3⟩ := q
  intro H locs ls hw hl
  have h : fX6_unsaid_L4 V i u1 u2 u3 = some r := h
  have hw : HW G s.heap V H locs := hw
  have hl : lv_has ls 4 [(0, .ref (G.2.2 i)), (1, .int u1), (2, .int u2), (3, .int u3)] := hl
  have kr : ∀ q : Int32, r = .inr (q) → Q = MQ below (QI G s.heap.size q V) args s 0 0 (gA G s.heap.size) := fun q e => kr q (kx _ e).symm
  unfold fX6_unsaid_L4 at h
  refine lv_iload_n hx hb dX6_unsaid_4 rfl (lv_at hl 3 rfl) ?_
  refine lv_aload_n hx hb dX6_unsaid_5 rfl (lv_at hl 0 rfl) ?_
  refine r_gi E hw i 4 (N := 13) (C := RX6) (T := TX6) (st_lt hs_i) (st_c hs_i) (st_N hs_i) (by decide) (st_n hs_i (k := 4) (by decide)) iw_6 rfl lf_RX6_25 dX6_unsaid_6 ?_
  refine lv_icmp_ge (tgt := 38) hx hb dX6_unsaid_9 (by decide) (fun c11 => ?_) (fun c11 => ?_)
  · rw [if_pos c11] at h
    refine lv_iload_n hx hb dX6_unsaid_38 rfl (lv_at hl 2 rfl) ?_
    rw [kr u2 (Option.some.inj h).symm]
    exact r_ri E hw dX6_unsaid_39
  · rw [if_neg c11] at h
    refine lv_aload_n hx hb dX6_unsaid_12 rfl (lv_at hl 0 rfl) ?_
    refine lv_iload_n hx hb dX6_unsaid_13 rfl (lv_at hl 3 rfl) ?_
    obtain ⟨y2, h1, h⟩ := ob_R_some h
    refine c_VI E hw (kX6_isSo (l := l) (G := G) hB hs_i h1) yy_X6_isSo lm_RX6_91 rfl (st_lt hs_i) (st_c hs_i) rfl hl.1 (by decide) (by decide) rfl (Nat.le_of_ble_eq_true rfl) dX6_unsaid_14 (fun H locs hw => ?_)
    refine lv_if_ne (tgt := 32) hx hb dX6_unsaid_17 (by decide) (fun c10 => ?_) (fun c10 => ?_)
    · rw [if_neg c10] at h
      obtain ⟨y3, ey3, h⟩ := lt_some h
      refine lv_iinc (v := y3) (lv' := [(3, .int y3), (0, .ref (G.2.2 i)), (1, .int u1), (2, .int u2)]) hx hb dX6_unsaid_32 hl (k := 3) rfl (by rw [ey3]; rfl) (by decide) rfl (fun ls hl => ?_)
      refine lv_goto (tgt := 4) hx hb dX6_unsaid_35 (by decide) ?_
      exact kc (u1, u2, y3) (Option.some.inj h).symm H locs ls hw (lv_sub hl [1, 2, 3, 0] rfl)
    · rw [if_pos c10] at h
      refine lv_aload_n hx hb dX6_unsaid_20 rfl (lv_at hl 0 rfl) ?_
      refine lv_iload_n hx hb dX6_unsaid_21 rfl (lv_at hl 1 rfl) ?_
      refine lv_iload_n hx hb dX6_unsaid_22 rfl (lv_at hl 3 rfl) ?_
      obtain ⟨y5, h4, h⟩ := ob_R_some h
      refine c_VI E hw (kX6_hasSaid (l := l) (G := G) hB hs_i h4) yy_X6_hasSaid lm_RX6_101 rfl (st_lt hs_i) (st_c hs_i) rfl hl.1 (by decide) (by decide) rfl (Nat.le_of_ble_eq_true rfl) dX6_unsaid_23 (fun H locs hw => ?_)
      refine lv_if_ne (tgt := 32) hx hb dX6_unsaid_26 (by decide) (fun c9 => ?_) (fun c9 => ?_)
      · rw [if_neg c9] at h
        obtain ⟨y6, ey6, h⟩ := lt_some h
        refine lv_iinc (v := y6) (lv' := [(3, .int y6), (0, .ref (G.2.2 i)), (1, .int u1), (2, .int u2)]) hx hb dX6_unsaid_32 hl (k := 3) rfl (by rw [ey6]; rfl) (by decide) rfl (fun ls hl => ?_)
        refine lv_goto (tgt := 4) hx hb dX6_unsaid_35 (by decide) ?_
        exact kc (u1, u2, y6) (Option.some.inj h).symm H locs ls hw (lv_sub hl [1, 2, 3, 0] rfl)
      · rw [if_pos c9] at h
        obtain ⟨y7, ey7, h⟩ := lt_some h
        refine lv_iinc (v := y7) (lv' := [(2, .int y7), (0, .ref (G.2.2 i)), (1, .int u1), (3, .int u3)]) hx hb dX6_unsaid_29 hl (k := 2) rfl (by rw [ey7]; rfl) (by decide) rfl (fun ls hl => ?_)
        obtain ⟨y8, ey8, h⟩ := lt_some h
        refine lv_iinc (v := y8) (lv' := [(3, .int y8), (2, .int y7), (0, .ref (G.2.2 i)), (1, .int u1)]) hx hb dX6_unsaid_32 hl (k := 3) rfl (by rw [ey8]; rfl) (by decide) rfl (fun ls hl => ?_)
        refine lv_goto (tgt := 4) hx hb dX6_unsaid_35 (by decide) ?_
        exact kc (u1, y7, y8) (Option.some.inj h).symm H locs ls hw (lv_sub hl [2, 3, 1, 0] rfl)
set_option maxHeartbeats 4000000 in
set_option maxRecDepth 100000 in
theorem kX6_unsaid {l : Launch} {G : GT} {B : BGt} (hB : BGok B) {V : VT} {i : Nat} (hs_i : isSt i) {x1 : Int32} {r : Int32} (h : fX6_unsaid V i x1 = some r) : CI l G B yX6_unsaid (.code yX6_unsaid cX6_unsaid 4 (some .int)) 4 [.ref (G.2.2 i), .int x1] V r V := by
  intro sz
  refine met_of (Qs := fun sz => QI G sz r V) hB (by decide) (Nat.le_of_ble_eq_true rfl) ?_ sz
  intro p e s m args below meth c ls E hw hl
  have hx := en_x E
  have hb := en_b E
  generalize hQ : MQ _ _ _ _ _ _ _ = Q
  have kr : Q = MQ below (QI G s.heap.size r V) args s 0 0 (gA G s.heap.size) := hQ.symm
  have hl : lv_has ls 4 [(0, .ref (G.2.2 i)), (1, .int x1)] := hl
  obtain ⟨H, eH⟩ : ∃ H, H = s.heap := ⟨_, rfl⟩
  obtain ⟨locs, elocs⟩ : ∃ z : List Loc, z = [] := ⟨_, rfl⟩
  have hw : HW G s.heap V H locs := by rw [eH, elocs]; exact hw
  show W p l e _ s m args below meth c s.heap [] 0 0 Q (F0 m 0 ls [])
  rw [← eH, ← elocs]
  unfold fX6_unsaid at h
  refine lv_iconst (v := (0 : Int32)) hx hb dX6_unsaid_0 (by decide) ?_
  refine lv_istore_n (lv' := [(2, .int (0 : Int32)), (0, .ref (G.2.2 i)), (1, .int x1)]) hx hb dX6_unsaid_1 rfl hl (by decide) rfl (fun ls hl => ?_)
  refine lv_iconst (v := (0 : Int32)) hx hb dX6_unsaid_2 (by decide) ?_
  refine lv_istore_n (lv' := [(3, .int (0 : Int32)), (2, .int (0 : Int32)), (0, .ref (G.2.2 i)), (1, .int x1)]) hx hb dX6_unsaid_3 rfl hl (by decide) rfl (fun ls hl => ?_)
  obtain ⟨x13, h12, h⟩ := ob_R_some h
  have h := Option.some.inj h
  subst h
  exact wX6_unsaid_L4 E hs_i (fun q e => by subst e; exact kr) FV (x1, (0 : Int32), (0 : Int32)) h12 H locs ls hw (lv_sub hl [2, 3, 1, 0] rfl)
/-! ===== AllSawIt$State.halfBook()I ===== -/
theorem dX6_halfBook_0 : decode cX6_halfBook 0 = .ok (.iconst 0, 1) := by decide +kernel
theorem dX6_halfBook_1 : decode cX6_halfBook 1 = .ok (.istore_n 1, 1) := by decide +kernel
theorem dX6_halfBook_2 : decode cX6_halfBook 2 = .ok (.iconst 0, 1) := by decide +kernel
theorem dX6_halfBook_3 : decode cX6_halfBook 3 = .ok (.istore_n 2, 1) := by decide +kernel
theorem dX6_halfBook_4 : decode cX6_halfBook 4 = .ok (.iload_n 2, 1) := by decide +kernel
theorem dX6_halfBook_5 : decode cX6_halfBook 5 = .ok (.aload_n 0, 1) := by decide +kernel
theorem dX6_halfBook_6 : decode cX6_halfBook 6 = .ok (.getfield 25, 3) := by decide +kernel
theorem dX6_halfBook_9 : decode cX6_halfBook 9 = .ok (.if_icmp .ge 32, 3) := by decide +kernel
theorem dX6_halfBook_12 : decode cX6_halfBook 12 = .ok (.aload_n 0, 1) := by decide +kernel
theorem dX6_halfBook_13 : decode cX6_halfBook 13 = .ok (.iload_n 2, 1) := by decide +kernel
theorem dX6_halfBook_14 : decode cX6_halfBook 14 = .ok (.invokevirtual 91, 3) := by decide +kernel
theorem dX6_halfBook_17 : decode cX6_halfBook 17 = .ok (.ifCond .ne 18, 3) := by decide +kernel
theorem dX6_halfBook_20 : decode cX6_halfBook 20 = .ok (.aload_n 0, 1) := by decide +kernel
theorem dX6_halfBook_21 : decode cX6_halfBook 21 = .ok (.iload_n 2, 1) := by decide +kernel
theorem dX6_halfBook_22 : decode cX6_halfBook 22 = .ok (.iconst 3, 1) := by decide +kernel
theorem dX6_halfBook_23 : decode cX6_halfBook 23 = .ok (.invokevirtual 85, 3) := by decide +kernel
theorem dX6_halfBook_26 : decode cX6_halfBook 26 = .ok (.ifCond .eq 9, 3) := by decide +kernel
theorem dX6_halfBook_29 : decode cX6_halfBook 29 = .ok (.iload_n 1, 1) := by decide +kernel
theorem dX6_halfBook_30 : decode cX6_halfBook 30 = .ok (.iconst 1, 1) := by decide +kernel
theorem dX6_halfBook_31 : decode cX6_halfBook 31 = .ok (.iload_n 2, 1) := by decide +kernel
theorem dX6_halfBook_32 : decode cX6_halfBook 32 = .ok (.ishl, 1) := by decide +kernel
theorem dX6_halfBook_33 : decode cX6_halfBook 33 = .ok (.ior, 1) := by decide +kernel
theorem dX6_halfBook_34 : decode cX6_halfBook 34 = .ok (.istore_n 1, 1) := by decide +kernel
theorem dX6_halfBook_35 : decode cX6_halfBook 35 = .ok (.iinc 2 1, 3) := by decide +kernel
theorem dX6_halfBook_38 : decode cX6_halfBook 38 = .ok (.goto (-34), 3) := by decide +kernel
theorem dX6_halfBook_41 : decode cX6_halfBook 41 = .ok (.iload_n 1, 1) := by decide +kernel
theorem dX6_halfBook_42 : decode cX6_halfBook 42 = .ok (.ireturn, 1) := by decide +kernel
noncomputable def fX6_halfBook_L4 (V : VT) (i : Nat) (u1 : Int32) (u2 : Int32) : Option ((Int32 × Int32) ⊕ Int32) := if (V i 4) ≤ u2 then (some (.inr (u1))) else (ob_R (fX6_isSo V i u2) fun y2 => if y2 = 0 then (ob_R (fX6_ofDeed V i u2 (3 : Int32)) fun y5 => if y5 = 0 then (lt_ (u2 + (1 : Int32)) fun y6 => some (.inl (u1, y6))) else (lt_ (u1 ||| ((1 : Int32) <<< (u2 &&& 31))) fun y7 => lt_ (u2 + (1 : Int32)) fun y8 => some (.inl (y7, y8)))) else (lt_ (u2 + (1 : Int32)) fun y3 => some (.inl (u1, y3))))
noncomputable def iX6_halfBook_L4 (V : VT) (i : Nat) : (Int32 × Int32) → Option ((Int32 × Int32) ⊕ Int32) := fun q => fX6_halfBook_L4 V i (q.1) (q.2)
noncomputable def fX6_halfBook (V : VT) (i : Nat) : Option Int32 := ob_R (it_ (iX6_halfBook_L4 V i) FV ((0 : Int32), (0 : Int32))) fun x13 => some x13
set_option maxHeartbeats 4000000 in
set_option maxRecDepth 100000 in
theorem wX6_halfBook_L4 {p : Program} {l : Launch} {e : Env} {s : State} {m : MethodId} {args : Array Value} {below : List Frame} {meth : Method} {c : Code} {G : GT} {B : BGt} {Q : State → Prop} (E : En p s m args c meth cX6_halfBook 3 RX6 (some .int) G B) {i : Nat} (hs_i : isSt i) {V : VT} {x : Int32} (kr : ∀ q : Int32, x = q → Q = MQ below (QI G s.heap.size q V) args s 0 0 (gA G s.heap.size)) : ∀ (n : Nat) (q : (Int32 × Int32)), it_ (iX6_halfBook_L4 V i) n q = some x → ∀ (H : Heap) (locs : List Loc) (ls : Array Slot), HW G s.heap V H locs → lv_has ls 3 [(0, .ref (G.2.2 i)), (1, .int (q.1)), (2, .int (q.2))] → W p l e (rmD 3) s m args below meth c H locs 0 0 Q (F0 m 4 ls []) := by
  have hx := en_x E
  have hb := en_b E
  have hB := en_B E
  refine it_W (fun q : (Int32 × Int32) => ∀ (H : Heap) (locs : List Loc) (ls : Array Slot), HW G s.heap V H locs → lv_has ls 3 [(0, .ref (G.2.2 i)), (1, .int (q.1)), (2, .int (q.2))] → W p l e (rmD 3) s m args below meth c H locs 0 0 Q (F0 m 4 ls [])) x ?_
  intro q r h kc kx
  obtain ⟨u1, u2⟩ := q
  intro H locs ls hw hl
  have h : fX6_halfBook_L4 V i u1 u2 = some r := h
  have hw : HW G s.heap V H locs := hw
  have hl : lv_has ls 3 [(0, .ref (G.2.2 i)), (1, .int u1), (2, .int u2)] := hl
  have kr : ∀ q : Int32, r = .inr (q) → Q = MQ below (QI G s.heap.size q V) args s 0 0 (gA G s.heap.size) := fun q e => kr q (kx _ e).symm
  unfold fX6_halfBook_L4 at h
  refine lv_iload_n hx hb dX6_halfBook_4 rfl (lv_at hl 2 rfl) ?_
  refine lv_aload_n hx hb dX6_halfBook_5 rfl (lv_at hl 0 rfl) ?_
  refine r_gi E hw i 4 (N := 13) (C := RX6) (T := TX6) (st_lt hs_i) (st_c hs_i) (st_N hs_i) (by decide) (st_n hs_i (k := 4) (by decide)) iw_6 rfl lf_RX6_25 dX6_halfBook_6 ?_
  refine lv_icmp_ge (tgt := 41) hx hb dX6_halfBook_9 (by decide) (fun c11 => ?_) (fun c11 => ?_)
  · rw [if_pos c11] at h
    refine lv_iload_n hx hb dX6_halfBook_41 rfl (lv_at hl 1 rfl) ?_
    rw [kr u1 (Option.some.inj h).symm]
    exact r_ri E hw dX6_halfBook_42
  · rw [if_neg c11] at h
    refine lv_aload_n hx hb dX6_halfBook_12 rfl (lv_at hl 0 rfl) ?_
    refine lv_iload_n hx hb dX6_halfBook_13 rfl (lv_at hl 2 rfl) ?_
    obtain ⟨y2, h1, h⟩ := ob_R_some h
    refine c_VI E hw (kX6_isSo (l := l) (G := G) hB hs_i h1) yy_X6_isSo lm_RX6_91 rfl (st_lt hs_i) (st_c hs_i) rfl hl.1 (by decide) (by decide) rfl (Nat.le_of_ble_eq_true rfl) dX6_halfBook_14 (fun H locs hw => ?_)
    refine lv_if_ne (tgt := 35) hx hb dX6_halfBook_17 (by decide) (fun c10 => ?_) (fun c10 => ?_)
    · rw [if_neg c10] at h
      obtain ⟨y3, ey3, h⟩ := lt_some h
      refine lv_iinc (v := y3) (lv' := [(2, .int y3), (0, .ref (G.2.2 i)), (1, .int u1)]) hx hb dX6_halfBook_35 hl (k := 2) rfl (by rw [ey3]; rfl) (by decide) rfl (fun ls hl => ?_)
      refine lv_goto (tgt := 4) hx hb dX6_halfBook_38 (by decide) ?_
      exact kc (u1, y3) (Option.some.inj h).symm H locs ls hw (lv_sub hl [1, 2, 0] rfl)
    · rw [if_pos c10] at h
      refine lv_aload_n hx hb dX6_halfBook_20 rfl (lv_at hl 0 rfl) ?_
      refine lv_iload_n hx hb dX6_halfBook_21 rfl (lv_at hl 2 rfl) ?_
      refine lv_iconst (v := (3 : Int32)) hx hb dX6_halfBook_22 (by decide) ?_
      obtain ⟨y5, h4, h⟩ := ob_R_some h
      refine c_VI E hw (kX6_ofDeed (l := l) (G := G) hB hs_i h4) yy_X6_ofDeed lm_RX6_85 rfl (st_lt hs_i) (st_c hs_i) rfl hl.1 (by decide) (by decide) rfl (Nat.le_of_ble_eq_true rfl) dX6_halfBook_23 (fun H locs hw => ?_)
      refine lv_if_eq (tgt := 35) hx hb dX6_halfBook_26 (by decide) (fun c9 => ?_) (fun c9 => ?_)
      · rw [if_pos c9] at h
        obtain ⟨y6, ey6, h⟩ := lt_some h
        refine lv_iinc (v := y6) (lv' := [(2, .int y6), (0, .ref (G.2.2 i)), (1, .int u1)]) hx hb dX6_halfBook_35 hl (k := 2) rfl (by rw [ey6]; rfl) (by decide) rfl (fun ls hl => ?_)
        refine lv_goto (tgt := 4) hx hb dX6_halfBook_38 (by decide) ?_
        exact kc (u1, y6) (Option.some.inj h).symm H locs ls hw (lv_sub hl [1, 2, 0] rfl)
      · rw [if_neg c9] at h
        refine lv_iload_n hx hb dX6_halfBook_29 rfl (lv_at hl 1 rfl) ?_
        refine lv_iconst (v := (1 : Int32)) hx hb dX6_halfBook_30 (by decide) ?_
        refine lv_iload_n hx hb dX6_halfBook_31 rfl (lv_at hl 2 rfl) ?_
        refine lv_ishl hx hb dX6_halfBook_32 ?_
        refine lv_ior hx hb dX6_halfBook_33 ?_
        obtain ⟨y7, ey7, h⟩ := lt_some h
        refine lv_eqi ey7 ?_
        refine lv_istore_n (lv' := [(1, .int y7), (0, .ref (G.2.2 i)), (2, .int u2)]) hx hb dX6_halfBook_34 rfl hl (by decide) rfl (fun ls hl => ?_)
        obtain ⟨y8, ey8, h⟩ := lt_some h
        refine lv_iinc (v := y8) (lv' := [(2, .int y8), (1, .int y7), (0, .ref (G.2.2 i))]) hx hb dX6_halfBook_35 hl (k := 2) rfl (by rw [ey8]; rfl) (by decide) rfl (fun ls hl => ?_)
        refine lv_goto (tgt := 4) hx hb dX6_halfBook_38 (by decide) ?_
        exact kc (y7, y8) (Option.some.inj h).symm H locs ls hw (lv_sub hl [2, 1, 0] rfl)
set_option maxHeartbeats 4000000 in
set_option maxRecDepth 100000 in
theorem kX6_halfBook {l : Launch} {G : GT} {B : BGt} (hB : BGok B) {V : VT} {i : Nat} (hs_i : isSt i) {r : Int32} (h : fX6_halfBook V i = some r) : CI l G B yX6_halfBook (.code yX6_halfBook cX6_halfBook 3 (some .int)) 3 [.ref (G.2.2 i)] V r V := by
  intro sz
  refine met_of (Qs := fun sz => QI G sz r V) hB (by decide) (Nat.le_of_ble_eq_true rfl) ?_ sz
  intro p e s m args below meth c ls E hw hl
  have hx := en_x E
  have hb := en_b E
  generalize hQ : MQ _ _ _ _ _ _ _ = Q
  have kr : Q = MQ below (QI G s.heap.size r V) args s 0 0 (gA G s.heap.size) := hQ.symm
  have hl : lv_has ls 3 [(0, .ref (G.2.2 i))] := hl
  obtain ⟨H, eH⟩ : ∃ H, H = s.heap := ⟨_, rfl⟩
  obtain ⟨locs, elocs⟩ : ∃ z : List Loc, z = [] := ⟨_, rfl⟩
  have hw : HW G s.heap V H locs := by rw [eH, elocs]; exact hw
  show W p l e _ s m args below meth c s.heap [] 0 0 Q (F0 m 0 ls [])
  rw [← eH, ← elocs]
  unfold fX6_halfBook at h
  refine lv_iconst (v := (0 : Int32)) hx hb dX6_halfBook_0 (by decide) ?_
  refine lv_istore_n (lv' := [(1, .int (0 : Int32)), (0, .ref (G.2.2 i))]) hx hb dX6_halfBook_1 rfl hl (by decide) rfl (fun ls hl => ?_)
  refine lv_iconst (v := (0 : Int32)) hx hb dX6_halfBook_2 (by decide) ?_
  refine lv_istore_n (lv' := [(2, .int (0 : Int32)), (1, .int (0 : Int32)), (0, .ref (G.2.2 i))]) hx hb dX6_halfBook_3 rfl hl (by decide) rfl (fun ls hl => ?_)
  obtain ⟨x13, h12, h⟩ := ob_R_some h
  have h := Option.some.inj h
  subst h
  exact wX6_halfBook_L4 E hs_i (fun q e => by subst e; exact kr) FV ((0 : Int32), (0 : Int32)) h12 H locs ls hw (lv_sub hl [2, 1, 0] rfl)
/-! ===== AllSawIt$State.draw()I ===== -/
theorem dX6_draw_0 : decode cX6_draw 0 = .ok (.aload_n 0, 1) := by decide +kernel
theorem dX6_draw_1 : decode cX6_draw 1 = .ok (.ldc 108, 2) := by decide +kernel
theorem dX6_draw_3 : decode cX6_draw 3 = .ok (.aload_n 0, 1) := by decide +kernel
theorem dX6_draw_4 : decode cX6_draw 4 = .ok (.getfield 46, 3) := by decide +kernel
theorem dX6_draw_7 : decode cX6_draw 7 = .ok (.imul, 1) := by decide +kernel
theorem dX6_draw_8 : decode cX6_draw 8 = .ok (.sipush 12345, 3) := by decide +kernel
theorem dX6_draw_11 : decode cX6_draw 11 = .ok (.iadd, 1) := by decide +kernel
theorem dX6_draw_12 : decode cX6_draw 12 = .ok (.putfield 46, 3) := by decide +kernel
theorem dX6_draw_15 : decode cX6_draw 15 = .ok (.aload_n 0, 1) := by decide +kernel
theorem dX6_draw_16 : decode cX6_draw 16 = .ok (.getfield 46, 3) := by decide +kernel
theorem dX6_draw_19 : decode cX6_draw 19 = .ok (.bipush 16, 2) := by decide +kernel
theorem dX6_draw_21 : decode cX6_draw 21 = .ok (.iushr, 1) := by decide +kernel
theorem dX6_draw_22 : decode cX6_draw 22 = .ok (.sipush 32767, 3) := by decide +kernel
theorem dX6_draw_25 : decode cX6_draw 25 = .ok (.iand, 1) := by decide +kernel
theorem dX6_draw_26 : decode cX6_draw 26 = .ok (.ireturn, 1) := by decide +kernel
noncomputable def fX6_draw (V : VT) (i : Nat) : Option (Int32 × VT) := lt_ (va_up V i (upd (V i) 11 (((1103515245 : Int32) * (V i 11)) + (12345 : Int32)))) fun V1 => some ((((V1 i 11).toUInt32 >>> ((16 : Int32).toUInt32 &&& Int32.toUInt32 31)).toInt32 &&& (32767 : Int32)), V1)
set_option maxHeartbeats 4000000 in
set_option maxRecDepth 100000 in
theorem kX6_draw {l : Launch} {G : GT} {B : BGt} (hB : BGok B) {V : VT} {i : Nat} (hs_i : isSt i) {r : (Int32 × VT)} (h : fX6_draw V i = some r) : CI l G B yX6_draw (.code yX6_draw cX6_draw 1 (some .int)) 2 [.ref (G.2.2 i)] V r.1 r.2 := by
  intro sz
  refine met_of (Qs := fun sz => QI G sz (r.1) (r.2)) hB (by decide) (Nat.le_of_ble_eq_true rfl) ?_ sz
  intro p e s m args below meth c ls E hw hl
  have hx := en_x E
  have hb := en_b E
  generalize hQ : MQ _ _ _ _ _ _ _ = Q
  have kr : Q = MQ below (QI G s.heap.size r.1 r.2) args s 0 0 (gA G s.heap.size) := hQ.symm
  have hl : lv_has ls 1 [(0, .ref (G.2.2 i))] := hl
  obtain ⟨H, eH⟩ : ∃ H, H = s.heap := ⟨_, rfl⟩
  obtain ⟨locs, elocs⟩ : ∃ z : List Loc, z = [] := ⟨_, rfl⟩
  have hw : HW G s.heap V H locs := by rw [eH, elocs]; exact hw
  show W p l e _ s m args below meth c s.heap [] 0 0 Q (F0 m 0 ls [])
  rw [← eH, ← elocs]
  unfold fX6_draw at h
  refine lv_aload_n hx hb dX6_draw_0 rfl (lv_at hl 0 rfl) ?_
  refine lv_ldc (own := RX6) (v := (1103515245 : Int32)) hx hb E.2.2.2.1 (en_w E kn_RX6_108 rfl) dX6_draw_1 ?_
  refine lv_aload_n hx hb dX6_draw_3 rfl (lv_at hl 0 rfl) ?_
  refine r_gi E hw i 11 (N := 13) (C := RX6) (T := TX6) (st_lt hs_i) (st_c hs_i) (st_N hs_i) (by decide) (st_n hs_i (k := 11) (by decide)) iw_6 rfl lf_RX6_46 dX6_draw_4 ?_
  refine lv_imul hx hb dX6_draw_7 ?_
  refine lv_sipush (v := (12345 : Int32)) hx hb dX6_draw_8 (by decide) ?_
  refine lv_iadd hx hb dX6_draw_11 ?_
  obtain ⟨V1, eV1, h⟩ := lt_some h
  refine r_pi E hw i 11 (N := 13) (C := RX6) (T := TX6) (ty0 := tyX6) (ty := .int) (st_lt hs_i) (st_c hs_i) (st_N hs_i) (by decide) (st_n hs_i (k := 11) (by decide)) iw_6 rfl tyX6_ok nmX6 rfl rfl (vp_nar_int _) rfl lf_RX6_46 eV1 dX6_draw_12 (fun H locs hw => ?_)
  refine lv_aload_n hx hb dX6_draw_15 rfl (lv_at hl 0 rfl) ?_
  refine r_gi E hw i 11 (N := 13) (C := RX6) (T := TX6) (st_lt hs_i) (st_c hs_i) (st_N hs_i) (by decide) (st_n hs_i (k := 11) (by decide)) iw_6 rfl lf_RX6_46 dX6_draw_16 ?_
  refine lv_bipush (v := (16 : Int32)) hx hb dX6_draw_19 (by decide) ?_
  refine lv_iushr hx hb dX6_draw_21 rfl ?_
  refine lv_sipush (v := (32767 : Int32)) hx hb dX6_draw_22 (by decide) ?_
  refine lv_iand hx hb dX6_draw_25 ?_
  have h := Option.some.inj h
  subst h
  rw [kr]
  exact r_ri E hw dX6_draw_26
/-! ===== AllSawIt$State.addWord(II)V ===== -/
theorem dX6_addWord_0 : decode cX6_addWord 0 = .ok (.aload_n 0, 1) := by decide +kernel
theorem dX6_addWord_1 : decode cX6_addWord 1 = .ok (.iload_n 2, 1) := by decide +kernel
theorem dX6_addWord_2 : decode cX6_addWord 2 = .ok (.iconst 4, 1) := by decide +kernel
theorem dX6_addWord_3 : decode cX6_addWord 3 = .ok (.aload_n 0, 1) := by decide +kernel
theorem dX6_addWord_4 : decode cX6_addWord 4 = .ok (.iload_n 2, 1) := by decide +kernel
theorem dX6_addWord_5 : decode cX6_addWord 5 = .ok (.iconst 4, 1) := by decide +kernel
theorem dX6_addWord_6 : decode cX6_addWord 6 = .ok (.invokevirtual 85, 3) := by decide +kernel
theorem dX6_addWord_9 : decode cX6_addWord 9 = .ok (.iconst 1, 1) := by decide +kernel
theorem dX6_addWord_10 : decode cX6_addWord 10 = .ok (.iload_n 1, 1) := by decide +kernel
theorem dX6_addWord_11 : decode cX6_addWord 11 = .ok (.ishl, 1) := by decide +kernel
theorem dX6_addWord_12 : decode cX6_addWord 12 = .ok (.ior, 1) := by decide +kernel
theorem dX6_addWord_13 : decode cX6_addWord 13 = .ok (.invokevirtual 88, 3) := by decide +kernel
theorem dX6_addWord_16 : decode cX6_addWord 16 = .ok (.aload_n 0, 1) := by decide +kernel
theorem dX6_addWord_17 : decode cX6_addWord 17 = .ok (.getfield 49, 3) := by decide +kernel
theorem dX6_addWord_20 : decode cX6_addWord 20 = .ok (.bipush 60, 2) := by decide +kernel
theorem dX6_addWord_22 : decode cX6_addWord 22 = .ok (.irem, 1) := by decide +kernel
theorem dX6_addWord_23 : decode cX6_addWord 23 = .ok (.istore_n 3, 1) := by decide +kernel
theorem dX6_addWord_24 : decode cX6_addWord 24 = .ok (.iload_n 3, 1) := by decide +kernel
theorem dX6_addWord_25 : decode cX6_addWord 25 = .ok (.ifCond .lt 32, 3) := by decide +kernel
theorem dX6_addWord_28 : decode cX6_addWord 28 = .ok (.iload_n 3, 1) := by decide +kernel
theorem dX6_addWord_29 : decode cX6_addWord 29 = .ok (.aload_n 0, 1) := by decide +kernel
theorem dX6_addWord_30 : decode cX6_addWord 30 = .ok (.getfield 18, 3) := by decide +kernel
theorem dX6_addWord_33 : decode cX6_addWord 33 = .ok (.arraylength, 1) := by decide +kernel
theorem dX6_addWord_34 : decode cX6_addWord 34 = .ok (.if_icmp .ge 23, 3) := by decide +kernel
theorem dX6_addWord_37 : decode cX6_addWord 37 = .ok (.aload_n 0, 1) := by decide +kernel
theorem dX6_addWord_38 : decode cX6_addWord 38 = .ok (.getfield 18, 3) := by decide +kernel
theorem dX6_addWord_41 : decode cX6_addWord 41 = .ok (.iload_n 3, 1) := by decide +kernel
theorem dX6_addWord_42 : decode cX6_addWord 42 = .ok (.aload_n 0, 1) := by decide +kernel
theorem dX6_addWord_43 : decode cX6_addWord 43 = .ok (.getfield 43, 3) := by decide +kernel
theorem dX6_addWord_46 : decode cX6_addWord 46 = .ok (.bipush 8, 2) := by decide +kernel
theorem dX6_addWord_48 : decode cX6_addWord 48 = .ok (.imul, 1) := by decide +kernel
theorem dX6_addWord_49 : decode cX6_addWord 49 = .ok (.iload_n 1, 1) := by decide +kernel
theorem dX6_addWord_50 : decode cX6_addWord 50 = .ok (.iadd, 1) := by decide +kernel
theorem dX6_addWord_51 : decode cX6_addWord 51 = .ok (.bipush 10, 2) := by decide +kernel
theorem dX6_addWord_53 : decode cX6_addWord 53 = .ok (.imul, 1) := by decide +kernel
theorem dX6_addWord_54 : decode cX6_addWord 54 = .ok (.iload_n 2, 1) := by decide +kernel
theorem dX6_addWord_55 : decode cX6_addWord 55 = .ok (.iadd, 1) := by decide +kernel
theorem dX6_addWord_56 : decode cX6_addWord 56 = .ok (.iastore, 1) := by decide +kernel
theorem dX6_addWord_57 : decode cX6_addWord 57 = .ok (.aload_n 0, 1) := by decide +kernel
theorem dX6_addWord_58 : decode cX6_addWord 58 = .ok (.dup, 1) := by decide +kernel
theorem dX6_addWord_59 : decode cX6_addWord 59 = .ok (.getfield 49, 3) := by decide +kernel
theorem dX6_addWord_62 : decode cX6_addWord 62 = .ok (.iconst 1, 1) := by decide +kernel
theorem dX6_addWord_63 : decode cX6_addWord 63 = .ok (.iadd, 1) := by decide +kernel
theorem dX6_addWord_64 : decode cX6_addWord 64 = .ok (.putfield 49, 3) := by decide +kernel
theorem dX6_addWord_67 : decode cX6_addWord 67 = .ok (.return_, 1) := by decide +kernel
noncomputable def fX6_addWord (V : VT) (i : Nat) (x1 : Int32) (x2 : Int32) : Option VT := ob_R (fX6_ofDeed V i x2 (4 : Int32)) fun y2 => ob_R (fX6_setDeed V i x2 (4 : Int32) (y2 ||| ((1 : Int32) <<< (x1 &&& 31)))) fun V4 => lt_ ((V4 i 12) - (V4 i 12) / (60 : Int32) * (60 : Int32)) fun y5 => if y5 < 0 then (lt_ (va_up V4 i (upd (V4 i) 12 ((V4 i 12) + (1 : Int32)))) fun V6 => some V6) else (if (nI 60) ≤ y5 then (lt_ (va_up V4 i (upd (V4 i) 12 ((V4 i 12) + (1 : Int32)))) fun V7 => some V7) else (rd_ y5 60 (lt_ (va_up V4 (18 + 3 * i + 2) (upd (V4 (18 + 3 * i + 2)) y5.toNatClampNeg (((((V4 i 10) * (8 : Int32)) + x1) * (10 : Int32)) + x2))) fun V9 => lt_ (va_up V9 i (upd (V9 i) 12 ((V9 i 12) + (1 : Int32)))) fun V10 => some V10)))
set_option maxHeartbeats 4000000 in
set_option maxRecDepth 100000 in
theorem kX6_addWord {l : Launch} {G : GT} {B : BGt} (hB : BGok B) {V : VT} {i : Nat} (hs_i : isSt i) {x1 : Int32} {x2 : Int32} {r : VT} (h : fX6_addWord V i x1 x2 = some r) : CV l G B yX6_addWord (.code yX6_addWord cX6_addWord 4 none) 3 [.ref (G.2.2 i), .int x1, .int x2] V r := by
  intro sz
  refine met_of (Qs := fun sz => QV G sz r) hB (by decide) (Nat.le_of_ble_eq_true rfl) ?_ sz
  intro p e s m args below meth c ls E hw hl
  have hx := en_x E
  have hb := en_b E
  generalize hQ : MQ _ _ _ _ _ _ _ = Q
  have kr : Q = MQ below (QV G s.heap.size r) args s 0 0 (gA G s.heap.size) := hQ.symm
  have hl : lv_has ls 4 [(0, .ref (G.2.2 i)), (1, .int x1), (2, .int x2)] := hl
  obtain ⟨H, eH⟩ : ∃ H, H = s.heap := ⟨_, rfl⟩
  obtain ⟨locs, elocs⟩ : ∃ z : List Loc, z = [] := ⟨_, rfl⟩
  have hw : HW G s.heap V H locs := by rw [eH, elocs]; exact hw
  show W p l e _ s m args below meth c s.heap [] 0 0 Q (F0 m 0 ls [])
  rw [← eH, ← elocs]
  unfold fX6_addWord at h
  refine lv_aload_n hx hb dX6_addWord_0 rfl (lv_at hl 0 rfl) ?_
  refine lv_iload_n hx hb dX6_addWord_1 rfl (lv_at hl 2 rfl) ?_
  refine lv_iconst (v := (4 : Int32)) hx hb dX6_addWord_2 (by decide) ?_
  refine lv_aload_n hx hb dX6_addWord_3 rfl (lv_at hl 0 rfl) ?_
  refine lv_iload_n hx hb dX6_addWord_4 rfl (lv_at hl 2 rfl) ?_
  refine lv_iconst (v := (4 : Int32)) hx hb dX6_addWord_5 (by decide) ?_
  obtain ⟨y2, h1, h⟩ := ob_R_some h
  refine c_VI E hw (kX6_ofDeed (l := l) (G := G) hB hs_i h1) yy_X6_ofDeed lm_RX6_85 rfl (st_lt hs_i) (st_c hs_i) rfl hl.1 (by decide) (by decide) rfl (Nat.le_of_ble_eq_true rfl) dX6_addWord_6 (fun H locs hw => ?_)
  refine lv_iconst (v := (1 : Int32)) hx hb dX6_addWord_9 (by decide) ?_
  refine lv_iload_n hx hb dX6_addWord_10 rfl (lv_at hl 1 rfl) ?_
  refine lv_ishl hx hb dX6_addWord_11 ?_
  refine lv_ior hx hb dX6_addWord_12 ?_
  obtain ⟨V4, h3, h⟩ := ob_R_some h
  refine c_VV E hw (kX6_setDeed (l := l) (G := G) hB hs_i h3) yy_X6_setDeed lm_RX6_88 rfl (st_lt hs_i) (st_c hs_i) rfl hl.1 (by decide) (by decide) rfl (Nat.le_of_ble_eq_true rfl) dX6_addWord_13 (fun H locs hw => ?_)
  refine lv_aload_n hx hb dX6_addWord_16 rfl (lv_at hl 0 rfl) ?_
  refine r_gi E hw i 12 (N := 13) (C := RX6) (T := TX6) (st_lt hs_i) (st_c hs_i) (st_N hs_i) (by decide) (st_n hs_i (k := 12) (by decide)) iw_6 rfl lf_RX6_49 dX6_addWord_17 ?_
  refine lv_bipush (v := (60 : Int32)) hx hb dX6_addWord_20 (by decide) ?_
  refine lv_irem hx hb dX6_addWord_22 (by decide) ?_
  obtain ⟨y5, ey5, h⟩ := lt_some h
  refine lv_eqi ey5 ?_
  refine lv_istore_n (lv' := [(3, .int y5), (0, .ref (G.2.2 i)), (1, .int x1), (2, .int x2)]) hx hb dX6_addWord_23 rfl hl (by decide) rfl (fun ls hl => ?_)
  refine lv_iload_n hx hb dX6_addWord_24 rfl (lv_at hl 0 rfl) ?_
  refine lv_if_lt (tgt := 57) hx hb dX6_addWord_25 (by decide) (fun c12 => ?_) (fun c12 => ?_)
  · rw [if_pos c12] at h
    refine lv_aload_n hx hb dX6_addWord_57 rfl (lv_at hl 1 rfl) ?_
    refine lv_dup hx hb dX6_addWord_58 rfl ?_
    refine r_gi E hw i 12 (N := 13) (C := RX6) (T := TX6) (st_lt hs_i) (st_c hs_i) (st_N hs_i) (by decide) (st_n hs_i (k := 12) (by decide)) iw_6 rfl lf_RX6_49 dX6_addWord_59 ?_
    refine lv_iconst (v := (1 : Int32)) hx hb dX6_addWord_62 (by decide) ?_
    refine lv_iadd hx hb dX6_addWord_63 ?_
    obtain ⟨V6, eV6, h⟩ := lt_some h
    refine r_pi E hw i 12 (N := 13) (C := RX6) (T := TX6) (ty0 := tyX6) (ty := .int) (st_lt hs_i) (st_c hs_i) (st_N hs_i) (by decide) (st_n hs_i (k := 12) (by decide)) iw_6 rfl tyX6_ok nmX6 rfl rfl (vp_nar_int _) rfl lf_RX6_49 eV6 dX6_addWord_64 (fun H locs hw => ?_)
    have h := Option.some.inj h
    subst h
    rw [kr]
    exact r_rv E hw dX6_addWord_67
  · rw [if_neg c12] at h
    refine lv_iload_n hx hb dX6_addWord_28 rfl (lv_at hl 0 rfl) ?_
    refine lv_aload_n hx hb dX6_addWord_29 rfl (lv_at hl 1 rfl) ?_
    refine r_gr E hw i 2 (18 + 3 * i + 2) (N := 13) (C := RX6) (T := TX6) (st_lt hs_i) (st_c hs_i) (st_N hs_i) (by decide) (st_R hs_i (k := 2) (by decide)) iw_6 rfl lf_RX6_18 dX6_addWord_30 ?_
    refine r_al E hw (18 + 3 * i + 2) 60 (st_a1 hs_i (by decide)) (st_a2 hs_i (by decide)) (st_a3 hs_i (by decide)) (st_L2 hs_i) dX6_addWord_33 ?_
    refine lv_icmp_ge (tgt := 57) hx hb dX6_addWord_34 (by decide) (fun c11 => ?_) (fun c11 => ?_)
    · rw [if_pos c11] at h
      refine lv_aload_n hx hb dX6_addWord_57 rfl (lv_at hl 1 rfl) ?_
      refine lv_dup hx hb dX6_addWord_58 rfl ?_
      refine r_gi E hw i 12 (N := 13) (C := RX6) (T := TX6) (st_lt hs_i) (st_c hs_i) (st_N hs_i) (by decide) (st_n hs_i (k := 12) (by decide)) iw_6 rfl lf_RX6_49 dX6_addWord_59 ?_
      refine lv_iconst (v := (1 : Int32)) hx hb dX6_addWord_62 (by decide) ?_
      refine lv_iadd hx hb dX6_addWord_63 ?_
      obtain ⟨V7, eV7, h⟩ := lt_some h
      refine r_pi E hw i 12 (N := 13) (C := RX6) (T := TX6) (ty0 := tyX6) (ty := .int) (st_lt hs_i) (st_c hs_i) (st_N hs_i) (by decide) (st_n hs_i (k := 12) (by decide)) iw_6 rfl tyX6_ok nmX6 rfl rfl (vp_nar_int _) rfl lf_RX6_49 eV7 dX6_addWord_64 (fun H locs hw => ?_)
      have h := Option.some.inj h
      subst h
      rw [kr]
      exact r_rv E hw dX6_addWord_67
    · rw [if_neg c11] at h
      refine lv_aload_n hx hb dX6_addWord_37 rfl (lv_at hl 1 rfl) ?_
      refine r_gr E hw i 2 (18 + 3 * i + 2) (N := 13) (C := RX6) (T := TX6) (st_lt hs_i) (st_c hs_i) (st_N hs_i) (by decide) (st_R hs_i (k := 2) (by decide)) iw_6 rfl lf_RX6_18 dX6_addWord_38 ?_
      refine lv_iload_n hx hb dX6_addWord_41 rfl (lv_at hl 0 rfl) ?_
      refine lv_aload_n hx hb dX6_addWord_42 rfl (lv_at hl 1 rfl) ?_
      refine r_gi E hw i 10 (N := 13) (C := RX6) (T := TX6) (st_lt hs_i) (st_c hs_i) (st_N hs_i) (by decide) (st_n hs_i (k := 10) (by decide)) iw_6 rfl lf_RX6_43 dX6_addWord_43 ?_
      refine lv_bipush (v := (8 : Int32)) hx hb dX6_addWord_46 (by decide) ?_
      refine lv_imul hx hb dX6_addWord_48 ?_
      refine lv_iload_n hx hb dX6_addWord_49 rfl (lv_at hl 2 rfl) ?_
      refine lv_iadd hx hb dX6_addWord_50 ?_
      refine lv_bipush (v := (10 : Int32)) hx hb dX6_addWord_51 (by decide) ?_
      refine lv_imul hx hb dX6_addWord_53 ?_
      refine lv_iload_n hx hb dX6_addWord_54 rfl (lv_at hl 3 rfl) ?_
      refine lv_iadd hx hb dX6_addWord_55 ?_
      obtain ⟨b8, h⟩ := rd_some h
      obtain ⟨V9, eV9, h⟩ := lt_some h
      refine r_is E hw (18 + 3 * i + 2) 60 (st_a1 hs_i (by decide)) (st_a2 hs_i (by decide)) (st_a3 hs_i (by decide)) (st_a4 hs_i (by decide)) (st_L2 hs_i) b8 eV9 dX6_addWord_56 (fun H locs hw => ?_)
      refine lv_aload_n hx hb dX6_addWord_57 rfl (lv_at hl 1 rfl) ?_
      refine lv_dup hx hb dX6_addWord_58 rfl ?_
      refine r_gi E hw i 12 (N := 13) (C := RX6) (T := TX6) (st_lt hs_i) (st_c hs_i) (st_N hs_i) (by decide) (st_n hs_i (k := 12) (by decide)) iw_6 rfl lf_RX6_49 dX6_addWord_59 ?_
      refine lv_iconst (v := (1 : Int32)) hx hb dX6_addWord_62 (by decide) ?_
      refine lv_iadd hx hb dX6_addWord_63 ?_
      obtain ⟨V10, eV10, h⟩ := lt_some h
      refine r_pi E hw i 12 (N := 13) (C := RX6) (T := TX6) (ty0 := tyX6) (ty := .int) (st_lt hs_i) (st_c hs_i) (st_N hs_i) (by decide) (st_n hs_i (k := 12) (by decide)) iw_6 rfl tyX6_ok nmX6 rfl rfl (vp_nar_int _) rfl lf_RX6_49 eV10 dX6_addWord_64 (fun H locs hw => ?_)
      have h := Option.some.inj h
      subst h
      rw [kr]
      exact r_rv E hw dX6_addWord_67
/-! ===== AllSawIt$State.sayAll(I)V ===== -/
theorem dX6_sayAll_0 : decode cX6_sayAll 0 = .ok (.iconst 0, 1) := by decide +kernel
theorem dX6_sayAll_1 : decode cX6_sayAll 1 = .ok (.istore_n 2, 1) := by decide +kernel
theorem dX6_sayAll_2 : decode cX6_sayAll 2 = .ok (.iload_n 2, 1) := by decide +kernel
theorem dX6_sayAll_3 : decode cX6_sayAll 3 = .ok (.aload_n 0, 1) := by decide +kernel
theorem dX6_sayAll_4 : decode cX6_sayAll 4 = .ok (.getfield 25, 3) := by decide +kernel
theorem dX6_sayAll_7 : decode cX6_sayAll 7 = .ok (.if_icmp .ge 33, 3) := by decide +kernel
theorem dX6_sayAll_10 : decode cX6_sayAll 10 = .ok (.aload_n 0, 1) := by decide +kernel
theorem dX6_sayAll_11 : decode cX6_sayAll 11 = .ok (.iload_n 1, 1) := by decide +kernel
theorem dX6_sayAll_12 : decode cX6_sayAll 12 = .ok (.iload_n 2, 1) := by decide +kernel
theorem dX6_sayAll_13 : decode cX6_sayAll 13 = .ok (.invokevirtual 105, 3) := by decide +kernel
theorem dX6_sayAll_16 : decode cX6_sayAll 16 = .ok (.ifCond .eq 18, 3) := by decide +kernel
theorem dX6_sayAll_19 : decode cX6_sayAll 19 = .ok (.aload_n 0, 1) := by decide +kernel
theorem dX6_sayAll_20 : decode cX6_sayAll 20 = .ok (.iload_n 1, 1) := by decide +kernel
theorem dX6_sayAll_21 : decode cX6_sayAll 21 = .ok (.iload_n 2, 1) := by decide +kernel
theorem dX6_sayAll_22 : decode cX6_sayAll 22 = .ok (.invokevirtual 101, 3) := by decide +kernel
theorem dX6_sayAll_25 : decode cX6_sayAll 25 = .ok (.ifCond .ne 9, 3) := by decide +kernel
theorem dX6_sayAll_28 : decode cX6_sayAll 28 = .ok (.aload_n 0, 1) := by decide +kernel
theorem dX6_sayAll_29 : decode cX6_sayAll 29 = .ok (.iload_n 1, 1) := by decide +kernel
theorem dX6_sayAll_30 : decode cX6_sayAll 30 = .ok (.iload_n 2, 1) := by decide +kernel
theorem dX6_sayAll_31 : decode cX6_sayAll 31 = .ok (.invokevirtual 109, 3) := by decide +kernel
theorem dX6_sayAll_34 : decode cX6_sayAll 34 = .ok (.iinc 2 1, 3) := by decide +kernel
theorem dX6_sayAll_37 : decode cX6_sayAll 37 = .ok (.goto (-35), 3) := by decide +kernel
theorem dX6_sayAll_40 : decode cX6_sayAll 40 = .ok (.return_, 1) := by decide +kernel
noncomputable def fX6_sayAll_L2 (V : VT) (i : Nat) (u1 : Int32) (u2 : Int32) : Option ((VT × Int32 × Int32) ⊕ VT) := if (V i 4) ≤ u2 then (some (.inr (V))) else (ob_R (fX6_hasSeen V i u1 u2) fun y2 => if y2 = 0 then (lt_ (u2 + (1 : Int32)) fun y3 => some (.inl (V, u1, y3))) else (ob_R (fX6_hasSaid V i u1 u2) fun y5 => if y5 = 0 then (ob_R (fX6_addWord V i u1 u2) fun V8 => lt_ (u2 + (1 : Int32)) fun y9 => some (.inl (V8, u1, y9))) else (lt_ (u2 + (1 : Int32)) fun y6 => some (.inl (V, u1, y6)))))
noncomputable def iX6_sayAll_L2 (i : Nat) : (VT × Int32 × Int32) → Option ((VT × Int32 × Int32) ⊕ VT) := fun q => fX6_sayAll_L2 (q.1) i (q.2.1) (q.2.2)
noncomputable def fX6_sayAll (V : VT) (i : Nat) (x1 : Int32) : Option VT := ob_R (it_ (iX6_sayAll_L2 i) FV (V, x1, (0 : Int32))) fun x14 => some x14
set_option maxHeartbeats 4000000 in
set_option maxRecDepth 100000 in
theorem wX6_sayAll_L2 {p : Program} {l : Launch} {e : Env} {s : State} {m : MethodId} {args : Array Value} {below : List Frame} {meth : Method} {c : Code} {G : GT} {B : BGt} {Q : State → Prop} (E : En p s m args c meth cX6_sayAll 3 RX6 none G B) {i : Nat} (hs_i : isSt i) {x : VT} (kr : ∀ q : VT, x = q → Q = MQ below (QV G s.heap.size q) args s 0 0 (gA G s.heap.size)) : ∀ (n : Nat) (q : (VT × Int32 × Int32)), it_ (iX6_sayAll_L2 i) n q = some x → ∀ (H : Heap) (locs : List Loc) (ls : Array Slot), HW G s.heap (q.1) H locs → lv_has ls 3 [(0, .ref (G.2.2 i)), (1, .int (q.2.1)), (2, .int (q.2.2))] → W p l e (rmD 4) s m args below meth c H locs 0 0 Q (F0 m 2 ls []) := by
  have hx := en_x E
  have hb := en_b E
  have hB := en_B E
  refine it_W (fun q : (VT × Int32 × Int32) => ∀ (H : Heap) (locs : List Loc) (ls : Array Slot), HW G s.heap (q.1) H locs → lv_has ls 3 [(0, .ref (G.2.2 i)), (1, .int (q.2.1)), (2, .int (q.2.2))] → W p l e (rmD 4) s m args below meth c H locs 0 0 Q (F0 m 2 ls [])) x ?_
  intro q r h kc kx
  obtain ⟨V, u1, u2⟩ := q
  intro H locs ls hw hl
  have h : fX6_sayAll_L2 V i u1 u2 = some r := h
  have hw : HW G s.heap V H locs := hw
  have hl : lv_has ls 3 [(0, .ref (G.2.2 i)), (1, .int u1), (2, .int u2)] := hl
  have kr : ∀ q : VT, r = .inr (q) → Q = MQ below (QV G s.heap.size q) args s 0 0 (gA G s.heap.size) := fun q e => kr q (kx _ e).symm
  unfold fX6_sayAll_L2 at h
  refine lv_iload_n hx hb dX6_sayAll_2 rfl (lv_at hl 2 rfl) ?_
  refine lv_aload_n hx hb dX6_sayAll_3 rfl (lv_at hl 0 rfl) ?_
  refine r_gi E hw i 4 (N := 13) (C := RX6) (T := TX6) (st_lt hs_i) (st_c hs_i) (st_N hs_i) (by decide) (st_n hs_i (k := 4) (by decide)) iw_6 rfl lf_RX6_25 dX6_sayAll_4 ?_
  refine lv_icmp_ge (tgt := 40) hx hb dX6_sayAll_7 (by decide) (fun c12 => ?_) (fun c12 => ?_)
  · rw [if_pos c12] at h
    rw [kr V (Option.some.inj h).symm]
    exact r_rv E hw dX6_sayAll_40
  · rw [if_neg c12] at h
    refine lv_aload_n hx hb dX6_sayAll_10 rfl (lv_at hl 0 rfl) ?_
    refine lv_iload_n hx hb dX6_sayAll_11 rfl (lv_at hl 1 rfl) ?_
    refine lv_iload_n hx hb dX6_sayAll_12 rfl (lv_at hl 2 rfl) ?_
    obtain ⟨y2, h1, h⟩ := ob_R_some h
    refine c_VI E hw (kX6_hasSeen (l := l) (G := G) hB hs_i h1) yy_X6_hasSeen lm_RX6_105 rfl (st_lt hs_i) (st_c hs_i) rfl hl.1 (by decide) (by decide) rfl (Nat.le_of_ble_eq_true rfl) dX6_sayAll_13 (fun H locs hw => ?_)
    refine lv_if_eq (tgt := 34) hx hb dX6_sayAll_16 (by decide) (fun c11 => ?_) (fun c11 => ?_)
    · rw [if_pos c11] at h
      obtain ⟨y3, ey3, h⟩ := lt_some h
      refine lv_iinc (v := y3) (lv' := [(2, .int y3), (0, .ref (G.2.2 i)), (1, .int u1)]) hx hb dX6_sayAll_34 hl (k := 2) rfl (by rw [ey3]; rfl) (by decide) rfl (fun ls hl => ?_)
      refine lv_goto (tgt := 2) hx hb dX6_sayAll_37 (by decide) ?_
      exact kc (V, u1, y3) (Option.some.inj h).symm H locs ls hw (lv_sub hl [1, 2, 0] rfl)
    · rw [if_neg c11] at h
      refine lv_aload_n hx hb dX6_sayAll_19 rfl (lv_at hl 0 rfl) ?_
      refine lv_iload_n hx hb dX6_sayAll_20 rfl (lv_at hl 1 rfl) ?_
      refine lv_iload_n hx hb dX6_sayAll_21 rfl (lv_at hl 2 rfl) ?_
      obtain ⟨y5, h4, h⟩ := ob_R_some h
      refine c_VI E hw (kX6_hasSaid (l := l) (G := G) hB hs_i h4) yy_X6_hasSaid lm_RX6_101 rfl (st_lt hs_i) (st_c hs_i) rfl hl.1 (by decide) (by decide) rfl (Nat.le_of_ble_eq_true rfl) dX6_sayAll_22 (fun H locs hw => ?_)
      refine lv_if_ne (tgt := 34) hx hb dX6_sayAll_25 (by decide) (fun c10 => ?_) (fun c10 => ?_)
      · rw [if_neg c10] at h
        obtain ⟨y6, ey6, h⟩ := lt_some h
        refine lv_iinc (v := y6) (lv' := [(2, .int y6), (0, .ref (G.2.2 i)), (1, .int u1)]) hx hb dX6_sayAll_34 hl (k := 2) rfl (by rw [ey6]; rfl) (by decide) rfl (fun ls hl => ?_)
        refine lv_goto (tgt := 2) hx hb dX6_sayAll_37 (by decide) ?_
        exact kc (V, u1, y6) (Option.some.inj h).symm H locs ls hw (lv_sub hl [1, 2, 0] rfl)
      · rw [if_pos c10] at h
        refine lv_aload_n hx hb dX6_sayAll_28 rfl (lv_at hl 0 rfl) ?_
        refine lv_iload_n hx hb dX6_sayAll_29 rfl (lv_at hl 1 rfl) ?_
        refine lv_iload_n hx hb dX6_sayAll_30 rfl (lv_at hl 2 rfl) ?_
        obtain ⟨V8, h7, h⟩ := ob_R_some h
        refine c_VV E hw (kX6_addWord (l := l) (G := G) hB hs_i h7) yy_X6_addWord lm_RX6_109 rfl (st_lt hs_i) (st_c hs_i) rfl hl.1 (by decide) (by decide) rfl (Nat.le_of_ble_eq_true rfl) dX6_sayAll_31 (fun H locs hw => ?_)
        obtain ⟨y9, ey9, h⟩ := lt_some h
        refine lv_iinc (v := y9) (lv' := [(2, .int y9), (0, .ref (G.2.2 i)), (1, .int u1)]) hx hb dX6_sayAll_34 hl (k := 2) rfl (by rw [ey9]; rfl) (by decide) rfl (fun ls hl => ?_)
        refine lv_goto (tgt := 2) hx hb dX6_sayAll_37 (by decide) ?_
        exact kc (V8, u1, y9) (Option.some.inj h).symm H locs ls hw (lv_sub hl [1, 2, 0] rfl)
set_option maxHeartbeats 4000000 in
set_option maxRecDepth 100000 in
theorem kX6_sayAll {l : Launch} {G : GT} {B : BGt} (hB : BGok B) {V : VT} {i : Nat} (hs_i : isSt i) {x1 : Int32} {r : VT} (h : fX6_sayAll V i x1 = some r) : CV l G B yX6_sayAll (.code yX6_sayAll cX6_sayAll 3 none) 4 [.ref (G.2.2 i), .int x1] V r := by
  intro sz
  refine met_of (Qs := fun sz => QV G sz r) hB (by decide) (Nat.le_of_ble_eq_true rfl) ?_ sz
  intro p e s m args below meth c ls E hw hl
  have hx := en_x E
  have hb := en_b E
  generalize hQ : MQ _ _ _ _ _ _ _ = Q
  have kr : Q = MQ below (QV G s.heap.size r) args s 0 0 (gA G s.heap.size) := hQ.symm
  have hl : lv_has ls 3 [(0, .ref (G.2.2 i)), (1, .int x1)] := hl
  obtain ⟨H, eH⟩ : ∃ H, H = s.heap := ⟨_, rfl⟩
  obtain ⟨locs, elocs⟩ : ∃ z : List Loc, z = [] := ⟨_, rfl⟩
  have hw : HW G s.heap V H locs := by rw [eH, elocs]; exact hw
  show W p l e _ s m args below meth c s.heap [] 0 0 Q (F0 m 0 ls [])
  rw [← eH, ← elocs]
  unfold fX6_sayAll at h
  refine lv_iconst (v := (0 : Int32)) hx hb dX6_sayAll_0 (by decide) ?_
  refine lv_istore_n (lv' := [(2, .int (0 : Int32)), (0, .ref (G.2.2 i)), (1, .int x1)]) hx hb dX6_sayAll_1 rfl hl (by decide) rfl (fun ls hl => ?_)
  obtain ⟨x14, h13, h⟩ := ob_R_some h
  have h := Option.some.inj h
  subst h
  exact wX6_sayAll_L2 E hs_i (fun q e => by subst e; exact kr) FV (V, x1, (0 : Int32)) h13 H locs ls hw (lv_sub hl [1, 2, 0] rfl)
/-! ===== AllSawIt$State.endDay()V ===== -/
theorem dX6_endDay_0 : decode cX6_endDay 0 = .ok (.aload_n 0, 1) := by decide +kernel
theorem dX6_endDay_1 : decode cX6_endDay 1 = .ok (.invokevirtual 113, 3) := by decide +kernel
theorem dX6_endDay_4 : decode cX6_endDay 4 = .ok (.aload_n 0, 1) := by decide +kernel
theorem dX6_endDay_5 : decode cX6_endDay 5 = .ok (.aload_n 0, 1) := by decide +kernel
theorem dX6_endDay_6 : decode cX6_endDay 6 = .ok (.getfield 43, 3) := by decide +kernel
theorem dX6_endDay_9 : decode cX6_endDay 9 = .ok (.iconst 1, 1) := by decide +kernel
theorem dX6_endDay_10 : decode cX6_endDay 10 = .ok (.iadd, 1) := by decide +kernel
theorem dX6_endDay_11 : decode cX6_endDay 11 = .ok (.sipush 9999, 3) := by decide +kernel
theorem dX6_endDay_14 : decode cX6_endDay 14 = .ok (.invokestatic 52, 3) := by decide +kernel
theorem dX6_endDay_17 : decode cX6_endDay 17 = .ok (.putfield 43, 3) := by decide +kernel
theorem dX6_endDay_20 : decode cX6_endDay 20 = .ok (.return_, 1) := by decide +kernel
noncomputable def fX6_endDay (V : VT) (i : Nat) : Option VT := ob_R (fX6_askAnew V i) fun V2 => lt_ (va_up V2 i (upd (V2 i) 10 (if (9999 : Int32) < ((V2 i 10) + (1 : Int32)) then (9999 : Int32) else ((V2 i 10) + (1 : Int32))))) fun V3 => some V3
set_option maxHeartbeats 4000000 in
set_option maxRecDepth 100000 in
theorem kX6_endDay {l : Launch} {G : GT} {B : BGt} (hB : BGok B) {V : VT} {i : Nat} (hs_i : isSt i) {r : VT} (h : fX6_endDay V i = some r) : CV l G B yX6_endDay (.code yX6_endDay cX6_endDay 1 none) 5 [.ref (G.2.2 i)] V r := by
  intro sz
  refine met_of (Qs := fun sz => QV G sz r) hB (by decide) (Nat.le_of_ble_eq_true rfl) ?_ sz
  intro p e s m args below meth c ls E hw hl
  have hx := en_x E
  have hb := en_b E
  generalize hQ : MQ _ _ _ _ _ _ _ = Q
  have kr : Q = MQ below (QV G s.heap.size r) args s 0 0 (gA G s.heap.size) := hQ.symm
  have hl : lv_has ls 1 [(0, .ref (G.2.2 i))] := hl
  obtain ⟨H, eH⟩ : ∃ H, H = s.heap := ⟨_, rfl⟩
  obtain ⟨locs, elocs⟩ : ∃ z : List Loc, z = [] := ⟨_, rfl⟩
  have hw : HW G s.heap V H locs := by rw [eH, elocs]; exact hw
  show W p l e _ s m args below meth c s.heap [] 0 0 Q (F0 m 0 ls [])
  rw [← eH, ← elocs]
  unfold fX6_endDay at h
  refine lv_aload_n hx hb dX6_endDay_0 rfl (lv_at hl 0 rfl) ?_
  obtain ⟨V2, h1, h⟩ := ob_R_some h
  refine c_VV E hw (kX6_askAnew (l := l) (G := G) hB hs_i h1) yy_X6_askAnew lm_RX6_113 rfl (st_lt hs_i) (st_c hs_i) rfl hl.1 (by decide) (by decide) rfl (Nat.le_of_ble_eq_true rfl) dX6_endDay_1 (fun H locs hw => ?_)
  refine lv_aload_n hx hb dX6_endDay_4 rfl (lv_at hl 0 rfl) ?_
  refine lv_aload_n hx hb dX6_endDay_5 rfl (lv_at hl 0 rfl) ?_
  refine r_gi E hw i 10 (N := 13) (C := RX6) (T := TX6) (st_lt hs_i) (st_c hs_i) (st_N hs_i) (by decide) (st_n hs_i (k := 10) (by decide)) iw_6 rfl lf_RX6_43 dX6_endDay_6 ?_
  refine lv_iconst (v := (1 : Int32)) hx hb dX6_endDay_9 (by decide) ?_
  refine lv_iadd hx hb dX6_endDay_10 ?_
  refine lv_sipush (v := (9999 : Int32)) hx hb dX6_endDay_11 (by decide) ?_
  refine r_min E hl.1 lm_RX6_52 (by decide) (Nat.le_of_ble_eq_true rfl) dX6_endDay_14 ?_
  obtain ⟨V3, eV3, h⟩ := lt_some h
  refine r_pi E hw i 10 (N := 13) (C := RX6) (T := TX6) (ty0 := tyX6) (ty := .int) (st_lt hs_i) (st_c hs_i) (st_N hs_i) (by decide) (st_n hs_i (k := 10) (by decide)) iw_6 rfl tyX6_ok nmX6 rfl rfl (vp_nar_int _) rfl lf_RX6_43 eV3 dX6_endDay_17 (fun H locs hw => ?_)
  have h := Option.some.inj h
  subst h
  rw [kr]
  exact r_rv E hw dX6_endDay_20
/-! ===== AllSawIt$State.logSize()I ===== -/
theorem dX6_logSize_0 : decode cX6_logSize 0 = .ok (.aload_n 0, 1) := by decide +kernel
theorem dX6_logSize_1 : decode cX6_logSize 1 = .ok (.getfield 49, 3) := by decide +kernel
theorem dX6_logSize_4 : decode cX6_logSize 4 = .ok (.bipush 60, 2) := by decide +kernel
theorem dX6_logSize_6 : decode cX6_logSize 6 = .ok (.invokestatic 52, 3) := by decide +kernel
theorem dX6_logSize_9 : decode cX6_logSize 9 = .ok (.ireturn, 1) := by decide +kernel
noncomputable def fX6_logSize (V : VT) (i : Nat) : Option Int32 := some (if (60 : Int32) < (V i 12) then (60 : Int32) else (V i 12))
set_option maxHeartbeats 4000000 in
set_option maxRecDepth 100000 in
theorem kX6_logSize {l : Launch} {G : GT} {B : BGt} (hB : BGok B) {V : VT} {i : Nat} (hs_i : isSt i) {r : Int32} (h : fX6_logSize V i = some r) : CI l G B yX6_logSize (.code yX6_logSize cX6_logSize 1 (some .int)) 2 [.ref (G.2.2 i)] V r V := by
  intro sz
  refine met_of (Qs := fun sz => QI G sz r V) hB (by decide) (Nat.le_of_ble_eq_true rfl) ?_ sz
  intro p e s m args below meth c ls E hw hl
  have hx := en_x E
  have hb := en_b E
  generalize hQ : MQ _ _ _ _ _ _ _ = Q
  have kr : Q = MQ below (QI G s.heap.size r V) args s 0 0 (gA G s.heap.size) := hQ.symm
  have hl : lv_has ls 1 [(0, .ref (G.2.2 i))] := hl
  obtain ⟨H, eH⟩ : ∃ H, H = s.heap := ⟨_, rfl⟩
  obtain ⟨locs, elocs⟩ : ∃ z : List Loc, z = [] := ⟨_, rfl⟩
  have hw : HW G s.heap V H locs := by rw [eH, elocs]; exact hw
  show W p l e _ s m args below meth c s.heap [] 0 0 Q (F0 m 0 ls [])
  rw [← eH, ← elocs]
  unfold fX6_logSize at h
  refine lv_aload_n hx hb dX6_logSize_0 rfl (lv_at hl 0 rfl) ?_
  refine r_gi E hw i 12 (N := 13) (C := RX6) (T := TX6) (st_lt hs_i) (st_c hs_i) (st_N hs_i) (by decide) (st_n hs_i (k := 12) (by decide)) iw_6 rfl lf_RX6_49 dX6_logSize_1 ?_
  refine lv_bipush (v := (60 : Int32)) hx hb dX6_logSize_4 (by decide) ?_
  refine r_min E hl.1 lm_RX6_52 (by decide) (Nat.le_of_ble_eq_true rfl) dX6_logSize_6 ?_
  have h := Option.some.inj h
  subst h
  rw [kr]
  exact r_ri E hw dX6_logSize_9
/-! ===== AllSawIt$State.logRow(I)I ===== -/
theorem dX6_logRow_0 : decode cX6_logRow 0 = .ok (.iload_n 1, 1) := by decide +kernel
theorem dX6_logRow_1 : decode cX6_logRow 1 = .ok (.ifCond .lt 11, 3) := by decide +kernel
theorem dX6_logRow_4 : decode cX6_logRow 4 = .ok (.iload_n 1, 1) := by decide +kernel
theorem dX6_logRow_5 : decode cX6_logRow 5 = .ok (.aload_n 0, 1) := by decide +kernel
theorem dX6_logRow_6 : decode cX6_logRow 6 = .ok (.invokevirtual 116, 3) := by decide +kernel
theorem dX6_logRow_9 : decode cX6_logRow 9 = .ok (.if_icmp .lt 5, 3) := by decide +kernel
theorem dX6_logRow_12 : decode cX6_logRow 12 = .ok (.iconst (-1), 1) := by decide +kernel
theorem dX6_logRow_13 : decode cX6_logRow 13 = .ok (.ireturn, 1) := by decide +kernel
theorem dX6_logRow_14 : decode cX6_logRow 14 = .ok (.aload_n 0, 1) := by decide +kernel
theorem dX6_logRow_15 : decode cX6_logRow 15 = .ok (.getfield 49, 3) := by decide +kernel
theorem dX6_logRow_18 : decode cX6_logRow 18 = .ok (.iconst 1, 1) := by decide +kernel
theorem dX6_logRow_19 : decode cX6_logRow 19 = .ok (.isub, 1) := by decide +kernel
theorem dX6_logRow_20 : decode cX6_logRow 20 = .ok (.iload_n 1, 1) := by decide +kernel
theorem dX6_logRow_21 : decode cX6_logRow 21 = .ok (.isub, 1) := by decide +kernel
theorem dX6_logRow_22 : decode cX6_logRow 22 = .ok (.bipush 60, 2) := by decide +kernel
theorem dX6_logRow_24 : decode cX6_logRow 24 = .ok (.irem, 1) := by decide +kernel
theorem dX6_logRow_25 : decode cX6_logRow 25 = .ok (.istore_n 2, 1) := by decide +kernel
theorem dX6_logRow_26 : decode cX6_logRow 26 = .ok (.iload_n 2, 1) := by decide +kernel
theorem dX6_logRow_27 : decode cX6_logRow 27 = .ok (.ifCond .lt 21, 3) := by decide +kernel
theorem dX6_logRow_30 : decode cX6_logRow 30 = .ok (.iload_n 2, 1) := by decide +kernel
theorem dX6_logRow_31 : decode cX6_logRow 31 = .ok (.aload_n 0, 1) := by decide +kernel
theorem dX6_logRow_32 : decode cX6_logRow 32 = .ok (.getfield 18, 3) := by decide +kernel
theorem dX6_logRow_35 : decode cX6_logRow 35 = .ok (.arraylength, 1) := by decide +kernel
theorem dX6_logRow_36 : decode cX6_logRow 36 = .ok (.if_icmp .ge 12, 3) := by decide +kernel
theorem dX6_logRow_39 : decode cX6_logRow 39 = .ok (.aload_n 0, 1) := by decide +kernel
theorem dX6_logRow_40 : decode cX6_logRow 40 = .ok (.getfield 18, 3) := by decide +kernel
theorem dX6_logRow_43 : decode cX6_logRow 43 = .ok (.iload_n 2, 1) := by decide +kernel
theorem dX6_logRow_44 : decode cX6_logRow 44 = .ok (.iaload, 1) := by decide +kernel
theorem dX6_logRow_45 : decode cX6_logRow 45 = .ok (.goto 4, 3) := by decide +kernel
theorem dX6_logRow_48 : decode cX6_logRow 48 = .ok (.iconst (-1), 1) := by decide +kernel
theorem dX6_logRow_49 : decode cX6_logRow 49 = .ok (.ireturn, 1) := by decide +kernel
noncomputable def fX6_logRow (V : VT) (i : Nat) (x1 : Int32) : Option Int32 := if x1 < 0 then (some (-1 : Int32)) else (ob_R (fX6_logSize V i) fun y2 => if x1 < y2 then (lt_ ((((V i 12) - (1 : Int32)) - x1) - (((V i 12) - (1 : Int32)) - x1) / (60 : Int32) * (60 : Int32)) fun y3 => if y3 < 0 then (some (-1 : Int32)) else (if (nI 60) ≤ y3 then (some (-1 : Int32)) else (rd_ y3 60 (some (V (18 + 3 * i + 2) y3.toNatClampNeg))))) else (some (-1 : Int32)))
set_option maxHeartbeats 4000000 in
set_option maxRecDepth 100000 in
theorem kX6_logRow {l : Launch} {G : GT} {B : BGt} (hB : BGok B) {V : VT} {i : Nat} (hs_i : isSt i) {x1 : Int32} {r : Int32} (h : fX6_logRow V i x1 = some r) : CI l G B yX6_logRow (.code yX6_logRow cX6_logRow 3 (some .int)) 3 [.ref (G.2.2 i), .int x1] V r V := by
  intro sz
  refine met_of (Qs := fun sz => QI G sz r V) hB (by decide) (Nat.le_of_ble_eq_true rfl) ?_ sz
  intro p e s m args below meth c ls E hw hl
  have hx := en_x E
  have hb := en_b E
  generalize hQ : MQ _ _ _ _ _ _ _ = Q
  have kr : Q = MQ below (QI G s.heap.size r V) args s 0 0 (gA G s.heap.size) := hQ.symm
  have hl : lv_has ls 3 [(0, .ref (G.2.2 i)), (1, .int x1)] := hl
  obtain ⟨H, eH⟩ : ∃ H, H = s.heap := ⟨_, rfl⟩
  obtain ⟨locs, elocs⟩ : ∃ z : List Loc, z = [] := ⟨_, rfl⟩
  have hw : HW G s.heap V H locs := by rw [eH, elocs]; exact hw
  show W p l e _ s m args below meth c s.heap [] 0 0 Q (F0 m 0 ls [])
  rw [← eH, ← elocs]
  unfold fX6_logRow at h
  refine lv_iload_n hx hb dX6_logRow_0 rfl (lv_at hl 1 rfl) ?_
  refine lv_if_lt (tgt := 12) hx hb dX6_logRow_1 (by decide) (fun c8 => ?_) (fun c8 => ?_)
  · rw [if_pos c8] at h
    refine lv_iconst (v := (-1 : Int32)) hx hb dX6_logRow_12 (by decide) ?_
    have h := Option.some.inj h
    subst h
    rw [kr]
    exact r_ri E hw dX6_logRow_13
  · rw [if_neg c8] at h
    refine lv_iload_n hx hb dX6_logRow_4 rfl (lv_at hl 1 rfl) ?_
    refine lv_aload_n hx hb dX6_logRow_5 rfl (lv_at hl 0 rfl) ?_
    obtain ⟨y2, h1, h⟩ := ob_R_some h
    refine c_VI E hw (kX6_logSize (l := l) (G := G) hB hs_i h1) yy_X6_logSize lm_RX6_116 rfl (st_lt hs_i) (st_c hs_i) rfl hl.1 (by decide) (by decide) rfl (Nat.le_of_ble_eq_true rfl) dX6_logRow_6 (fun H locs hw => ?_)
    refine lv_icmp_lt (tgt := 14) hx hb dX6_logRow_9 (by decide) (fun c7 => ?_) (fun c7 => ?_)
    · rw [if_pos c7] at h
      refine lv_aload_n hx hb dX6_logRow_14 rfl (lv_at hl 0 rfl) ?_
      refine r_gi E hw i 12 (N := 13) (C := RX6) (T := TX6) (st_lt hs_i) (st_c hs_i) (st_N hs_i) (by decide) (st_n hs_i (k := 12) (by decide)) iw_6 rfl lf_RX6_49 dX6_logRow_15 ?_
      refine lv_iconst (v := (1 : Int32)) hx hb dX6_logRow_18 (by decide) ?_
      refine lv_isub hx hb dX6_logRow_19 ?_
      refine lv_iload_n hx hb dX6_logRow_20 rfl (lv_at hl 1 rfl) ?_
      refine lv_isub hx hb dX6_logRow_21 ?_
      refine lv_bipush (v := (60 : Int32)) hx hb dX6_logRow_22 (by decide) ?_
      refine lv_irem hx hb dX6_logRow_24 (by decide) ?_
      obtain ⟨y3, ey3, h⟩ := lt_some h
      refine lv_eqi ey3 ?_
      refine lv_istore_n (lv' := [(2, .int y3), (0, .ref (G.2.2 i)), (1, .int x1)]) hx hb dX6_logRow_25 rfl hl (by decide) rfl (fun ls hl => ?_)
      refine lv_iload_n hx hb dX6_logRow_26 rfl (lv_at hl 0 rfl) ?_
      refine lv_if_lt (tgt := 48) hx hb dX6_logRow_27 (by decide) (fun c6 => ?_) (fun c6 => ?_)
      · rw [if_pos c6] at h
        refine lv_iconst (v := (-1 : Int32)) hx hb dX6_logRow_48 (by decide) ?_
        have h := Option.some.inj h
        subst h
        rw [kr]
        exact r_ri E hw dX6_logRow_49
      · rw [if_neg c6] at h
        refine lv_iload_n hx hb dX6_logRow_30 rfl (lv_at hl 0 rfl) ?_
        refine lv_aload_n hx hb dX6_logRow_31 rfl (lv_at hl 1 rfl) ?_
        refine r_gr E hw i 2 (18 + 3 * i + 2) (N := 13) (C := RX6) (T := TX6) (st_lt hs_i) (st_c hs_i) (st_N hs_i) (by decide) (st_R hs_i (k := 2) (by decide)) iw_6 rfl lf_RX6_18 dX6_logRow_32 ?_
        refine r_al E hw (18 + 3 * i + 2) 60 (st_a1 hs_i (by decide)) (st_a2 hs_i (by decide)) (st_a3 hs_i (by decide)) (st_L2 hs_i) dX6_logRow_35 ?_
        refine lv_icmp_ge (tgt := 48) hx hb dX6_logRow_36 (by decide) (fun c5 => ?_) (fun c5 => ?_)
        · rw [if_pos c5] at h
          refine lv_iconst (v := (-1 : Int32)) hx hb dX6_logRow_48 (by decide) ?_
          have h := Option.some.inj h
          subst h
          rw [kr]
          exact r_ri E hw dX6_logRow_49
        · rw [if_neg c5] at h
          refine lv_aload_n hx hb dX6_logRow_39 rfl (lv_at hl 1 rfl) ?_
          refine r_gr E hw i 2 (18 + 3 * i + 2) (N := 13) (C := RX6) (T := TX6) (st_lt hs_i) (st_c hs_i) (st_N hs_i) (by decide) (st_R hs_i (k := 2) (by decide)) iw_6 rfl lf_RX6_18 dX6_logRow_40 ?_
          refine lv_iload_n hx hb dX6_logRow_43 rfl (lv_at hl 0 rfl) ?_
          obtain ⟨b4, h⟩ := rd_some h
          refine r_ia E hw (18 + 3 * i + 2) 60 (st_a1 hs_i (by decide)) (st_a2 hs_i (by decide)) (st_a3 hs_i (by decide)) (st_a4 hs_i (by decide)) (st_L2 hs_i) b4 dX6_logRow_44 ?_
          refine lv_goto (tgt := 49) hx hb dX6_logRow_45 (by decide) ?_
          have h := Option.some.inj h
          subst h
          rw [kr]
          exact r_ri E hw dX6_logRow_49
    · rw [if_neg c7] at h
      refine lv_iconst (v := (-1 : Int32)) hx hb dX6_logRow_12 (by decide) ?_
      have h := Option.some.inj h
      subst h
      rw [kr]
      exact r_ri E hw dX6_logRow_13
/-! ===== AllSawIt$State.logDay(I)I ===== -/
theorem dX6_logDay_0 : decode cX6_logDay 0 = .ok (.aload_n 0, 1) := by decide +kernel
theorem dX6_logDay_1 : decode cX6_logDay 1 = .ok (.iload_n 1, 1) := by decide +kernel
theorem dX6_logDay_2 : decode cX6_logDay 2 = .ok (.invokevirtual 119, 3) := by decide +kernel
theorem dX6_logDay_5 : decode cX6_logDay 5 = .ok (.istore_n 2, 1) := by decide +kernel
theorem dX6_logDay_6 : decode cX6_logDay 6 = .ok (.iload_n 2, 1) := by decide +kernel
theorem dX6_logDay_7 : decode cX6_logDay 7 = .ok (.iconst (-1), 1) := by decide +kernel
theorem dX6_logDay_8 : decode cX6_logDay 8 = .ok (.if_icmp .ne 7, 3) := by decide +kernel
theorem dX6_logDay_11 : decode cX6_logDay 11 = .ok (.iconst (-1), 1) := by decide +kernel
theorem dX6_logDay_12 : decode cX6_logDay 12 = .ok (.goto 7, 3) := by decide +kernel
theorem dX6_logDay_15 : decode cX6_logDay 15 = .ok (.iload_n 2, 1) := by decide +kernel
theorem dX6_logDay_16 : decode cX6_logDay 16 = .ok (.bipush 80, 2) := by decide +kernel
theorem dX6_logDay_18 : decode cX6_logDay 18 = .ok (.idiv, 1) := by decide +kernel
theorem dX6_logDay_19 : decode cX6_logDay 19 = .ok (.ireturn, 1) := by decide +kernel
noncomputable def fX6_logDay (V : VT) (i : Nat) (x1 : Int32) : Option Int32 := ob_R (fX6_logRow V i x1) fun y2 => if y2 = (-1 : Int32) then (some (-1 : Int32)) else (some (y2 / (80 : Int32)))
set_option maxHeartbeats 4000000 in
set_option maxRecDepth 100000 in
theorem kX6_logDay {l : Launch} {G : GT} {B : BGt} (hB : BGok B) {V : VT} {i : Nat} (hs_i : isSt i) {x1 : Int32} {r : Int32} (h : fX6_logDay V i x1 = some r) : CI l G B yX6_logDay (.code yX6_logDay cX6_logDay 3 (some .int)) 4 [.ref (G.2.2 i), .int x1] V r V := by
  intro sz
  refine met_of (Qs := fun sz => QI G sz r V) hB (by decide) (Nat.le_of_ble_eq_true rfl) ?_ sz
  intro p e s m args below meth c ls E hw hl
  have hx := en_x E
  have hb := en_b E
  generalize hQ : MQ _ _ _ _ _ _ _ = Q
  have kr : Q = MQ below (QI G s.heap.size r V) args s 0 0 (gA G s.heap.size) := hQ.symm
  have hl : lv_has ls 3 [(0, .ref (G.2.2 i)), (1, .int x1)] := hl
  obtain ⟨H, eH⟩ : ∃ H, H = s.heap := ⟨_, rfl⟩
  obtain ⟨locs, elocs⟩ : ∃ z : List Loc, z = [] := ⟨_, rfl⟩
  have hw : HW G s.heap V H locs := by rw [eH, elocs]; exact hw
  show W p l e _ s m args below meth c s.heap [] 0 0 Q (F0 m 0 ls [])
  rw [← eH, ← elocs]
  unfold fX6_logDay at h
  refine lv_aload_n hx hb dX6_logDay_0 rfl (lv_at hl 0 rfl) ?_
  refine lv_iload_n hx hb dX6_logDay_1 rfl (lv_at hl 1 rfl) ?_
  obtain ⟨y2, h1, h⟩ := ob_R_some h
  refine c_VI E hw (kX6_logRow (l := l) (G := G) hB hs_i h1) yy_X6_logRow lm_RX6_119 rfl (st_lt hs_i) (st_c hs_i) rfl hl.1 (by decide) (by decide) rfl (Nat.le_of_ble_eq_true rfl) dX6_logDay_2 (fun H locs hw => ?_)
  refine lv_istore_n (lv' := [(2, .int y2), (0, .ref (G.2.2 i)), (1, .int x1)]) hx hb dX6_logDay_5 rfl hl (by decide) rfl (fun ls hl => ?_)
  refine lv_iload_n hx hb dX6_logDay_6 rfl (lv_at hl 0 rfl) ?_
  refine lv_iconst (v := (-1 : Int32)) hx hb dX6_logDay_7 (by decide) ?_
  refine lv_icmp_ne (tgt := 15) hx hb dX6_logDay_8 (by decide) (fun c3 => ?_) (fun c3 => ?_)
  · rw [if_neg c3] at h
    refine lv_iload_n hx hb dX6_logDay_15 rfl (lv_at hl 0 rfl) ?_
    refine lv_bipush (v := (80 : Int32)) hx hb dX6_logDay_16 (by decide) ?_
    refine lv_idiv hx hb dX6_logDay_18 (by decide) ?_
    have h := Option.some.inj h
    subst h
    rw [kr]
    exact r_ri E hw dX6_logDay_19
  · rw [if_pos c3] at h
    refine lv_iconst (v := (-1 : Int32)) hx hb dX6_logDay_11 (by decide) ?_
    refine lv_goto (tgt := 19) hx hb dX6_logDay_12 (by decide) ?_
    have h := Option.some.inj h
    subst h
    rw [kr]
    exact r_ri E hw dX6_logDay_19
/-! ===== AllSawIt$State.logHouse(I)I ===== -/
theorem dX6_logHouse_0 : decode cX6_logHouse 0 = .ok (.aload_n 0, 1) := by decide +kernel
theorem dX6_logHouse_1 : decode cX6_logHouse 1 = .ok (.iload_n 1, 1) := by decide +kernel
theorem dX6_logHouse_2 : decode cX6_logHouse 2 = .ok (.invokevirtual 119, 3) := by decide +kernel
theorem dX6_logHouse_5 : decode cX6_logHouse 5 = .ok (.istore_n 2, 1) := by decide +kernel
theorem dX6_logHouse_6 : decode cX6_logHouse 6 = .ok (.iload_n 2, 1) := by decide +kernel
theorem dX6_logHouse_7 : decode cX6_logHouse 7 = .ok (.iconst (-1), 1) := by decide +kernel
theorem dX6_logHouse_8 : decode cX6_logHouse 8 = .ok (.if_icmp .ne 7, 3) := by decide +kernel
theorem dX6_logHouse_11 : decode cX6_logHouse 11 = .ok (.iconst (-1), 1) := by decide +kernel
theorem dX6_logHouse_12 : decode cX6_logHouse 12 = .ok (.goto 10, 3) := by decide +kernel
theorem dX6_logHouse_15 : decode cX6_logHouse 15 = .ok (.iload_n 2, 1) := by decide +kernel
theorem dX6_logHouse_16 : decode cX6_logHouse 16 = .ok (.bipush 10, 2) := by decide +kernel
theorem dX6_logHouse_18 : decode cX6_logHouse 18 = .ok (.idiv, 1) := by decide +kernel
theorem dX6_logHouse_19 : decode cX6_logHouse 19 = .ok (.bipush 8, 2) := by decide +kernel
theorem dX6_logHouse_21 : decode cX6_logHouse 21 = .ok (.irem, 1) := by decide +kernel
theorem dX6_logHouse_22 : decode cX6_logHouse 22 = .ok (.ireturn, 1) := by decide +kernel
noncomputable def fX6_logHouse (V : VT) (i : Nat) (x1 : Int32) : Option Int32 := ob_R (fX6_logRow V i x1) fun y2 => if y2 = (-1 : Int32) then (some (-1 : Int32)) else (some ((y2 / (10 : Int32)) - (y2 / (10 : Int32)) / (8 : Int32) * (8 : Int32)))
set_option maxHeartbeats 4000000 in
set_option maxRecDepth 100000 in
theorem kX6_logHouse {l : Launch} {G : GT} {B : BGt} (hB : BGok B) {V : VT} {i : Nat} (hs_i : isSt i) {x1 : Int32} {r : Int32} (h : fX6_logHouse V i x1 = some r) : CI l G B yX6_logHouse (.code yX6_logHouse cX6_logHouse 3 (some .int)) 4 [.ref (G.2.2 i), .int x1] V r V := by
  intro sz
  refine met_of (Qs := fun sz => QI G sz r V) hB (by decide) (Nat.le_of_ble_eq_true rfl) ?_ sz
  intro p e s m args below meth c ls E hw hl
  have hx := en_x E
  have hb := en_b E
  generalize hQ : MQ _ _ _ _ _ _ _ = Q
  have kr : Q = MQ below (QI G s.heap.size r V) args s 0 0 (gA G s.heap.size) := hQ.symm
  have hl : lv_has ls 3 [(0, .ref (G.2.2 i)), (1, .int x1)] := hl
  obtain ⟨H, eH⟩ : ∃ H, H = s.heap := ⟨_, rfl⟩
  obtain ⟨locs, elocs⟩ : ∃ z : List Loc, z = [] := ⟨_, rfl⟩
  have hw : HW G s.heap V H locs := by rw [eH, elocs]; exact hw
  show W p l e _ s m args below meth c s.heap [] 0 0 Q (F0 m 0 ls [])
  rw [← eH, ← elocs]
  unfold fX6_logHouse at h
  refine lv_aload_n hx hb dX6_logHouse_0 rfl (lv_at hl 0 rfl) ?_
  refine lv_iload_n hx hb dX6_logHouse_1 rfl (lv_at hl 1 rfl) ?_
  obtain ⟨y2, h1, h⟩ := ob_R_some h
  refine c_VI E hw (kX6_logRow (l := l) (G := G) hB hs_i h1) yy_X6_logRow lm_RX6_119 rfl (st_lt hs_i) (st_c hs_i) rfl hl.1 (by decide) (by decide) rfl (Nat.le_of_ble_eq_true rfl) dX6_logHouse_2 (fun H locs hw => ?_)
  refine lv_istore_n (lv' := [(2, .int y2), (0, .ref (G.2.2 i)), (1, .int x1)]) hx hb dX6_logHouse_5 rfl hl (by decide) rfl (fun ls hl => ?_)
  refine lv_iload_n hx hb dX6_logHouse_6 rfl (lv_at hl 0 rfl) ?_
  refine lv_iconst (v := (-1 : Int32)) hx hb dX6_logHouse_7 (by decide) ?_
  refine lv_icmp_ne (tgt := 15) hx hb dX6_logHouse_8 (by decide) (fun c3 => ?_) (fun c3 => ?_)
  · rw [if_neg c3] at h
    refine lv_iload_n hx hb dX6_logHouse_15 rfl (lv_at hl 0 rfl) ?_
    refine lv_bipush (v := (10 : Int32)) hx hb dX6_logHouse_16 (by decide) ?_
    refine lv_idiv hx hb dX6_logHouse_18 (by decide) ?_
    refine lv_bipush (v := (8 : Int32)) hx hb dX6_logHouse_19 (by decide) ?_
    refine lv_irem hx hb dX6_logHouse_21 (by decide) ?_
    have h := Option.some.inj h
    subst h
    rw [kr]
    exact r_ri E hw dX6_logHouse_22
  · rw [if_pos c3] at h
    refine lv_iconst (v := (-1 : Int32)) hx hb dX6_logHouse_11 (by decide) ?_
    refine lv_goto (tgt := 22) hx hb dX6_logHouse_12 (by decide) ?_
    have h := Option.some.inj h
    subst h
    rw [kr]
    exact r_ri E hw dX6_logHouse_22
/-! ===== AllSawIt$State.logDeed(I)I ===== -/
theorem dX6_logDeed_0 : decode cX6_logDeed 0 = .ok (.aload_n 0, 1) := by decide +kernel
theorem dX6_logDeed_1 : decode cX6_logDeed 1 = .ok (.iload_n 1, 1) := by decide +kernel
theorem dX6_logDeed_2 : decode cX6_logDeed 2 = .ok (.invokevirtual 119, 3) := by decide +kernel
theorem dX6_logDeed_5 : decode cX6_logDeed 5 = .ok (.istore_n 2, 1) := by decide +kernel
theorem dX6_logDeed_6 : decode cX6_logDeed 6 = .ok (.iload_n 2, 1) := by decide +kernel
theorem dX6_logDeed_7 : decode cX6_logDeed 7 = .ok (.iconst (-1), 1) := by decide +kernel
theorem dX6_logDeed_8 : decode cX6_logDeed 8 = .ok (.if_icmp .ne 7, 3) := by decide +kernel
theorem dX6_logDeed_11 : decode cX6_logDeed 11 = .ok (.iconst (-1), 1) := by decide +kernel
theorem dX6_logDeed_12 : decode cX6_logDeed 12 = .ok (.goto 7, 3) := by decide +kernel
theorem dX6_logDeed_15 : decode cX6_logDeed 15 = .ok (.iload_n 2, 1) := by decide +kernel
theorem dX6_logDeed_16 : decode cX6_logDeed 16 = .ok (.bipush 10, 2) := by decide +kernel
theorem dX6_logDeed_18 : decode cX6_logDeed 18 = .ok (.irem, 1) := by decide +kernel
theorem dX6_logDeed_19 : decode cX6_logDeed 19 = .ok (.ireturn, 1) := by decide +kernel
noncomputable def fX6_logDeed (V : VT) (i : Nat) (x1 : Int32) : Option Int32 := ob_R (fX6_logRow V i x1) fun y2 => if y2 = (-1 : Int32) then (some (-1 : Int32)) else (some (y2 - y2 / (10 : Int32) * (10 : Int32)))
set_option maxHeartbeats 4000000 in
set_option maxRecDepth 100000 in
theorem kX6_logDeed {l : Launch} {G : GT} {B : BGt} (hB : BGok B) {V : VT} {i : Nat} (hs_i : isSt i) {x1 : Int32} {r : Int32} (h : fX6_logDeed V i x1 = some r) : CI l G B yX6_logDeed (.code yX6_logDeed cX6_logDeed 3 (some .int)) 4 [.ref (G.2.2 i), .int x1] V r V := by
  intro sz
  refine met_of (Qs := fun sz => QI G sz r V) hB (by decide) (Nat.le_of_ble_eq_true rfl) ?_ sz
  intro p e s m args below meth c ls E hw hl
  have hx := en_x E
  have hb := en_b E
  generalize hQ : MQ _ _ _ _ _ _ _ = Q
  have kr : Q = MQ below (QI G s.heap.size r V) args s 0 0 (gA G s.heap.size) := hQ.symm
  have hl : lv_has ls 3 [(0, .ref (G.2.2 i)), (1, .int x1)] := hl
  obtain ⟨H, eH⟩ : ∃ H, H = s.heap := ⟨_, rfl⟩
  obtain ⟨locs, elocs⟩ : ∃ z : List Loc, z = [] := ⟨_, rfl⟩
  have hw : HW G s.heap V H locs := by rw [eH, elocs]; exact hw
  show W p l e _ s m args below meth c s.heap [] 0 0 Q (F0 m 0 ls [])
  rw [← eH, ← elocs]
  unfold fX6_logDeed at h
  refine lv_aload_n hx hb dX6_logDeed_0 rfl (lv_at hl 0 rfl) ?_
  refine lv_iload_n hx hb dX6_logDeed_1 rfl (lv_at hl 1 rfl) ?_
  obtain ⟨y2, h1, h⟩ := ob_R_some h
  refine c_VI E hw (kX6_logRow (l := l) (G := G) hB hs_i h1) yy_X6_logRow lm_RX6_119 rfl (st_lt hs_i) (st_c hs_i) rfl hl.1 (by decide) (by decide) rfl (Nat.le_of_ble_eq_true rfl) dX6_logDeed_2 (fun H locs hw => ?_)
  refine lv_istore_n (lv' := [(2, .int y2), (0, .ref (G.2.2 i)), (1, .int x1)]) hx hb dX6_logDeed_5 rfl hl (by decide) rfl (fun ls hl => ?_)
  refine lv_iload_n hx hb dX6_logDeed_6 rfl (lv_at hl 0 rfl) ?_
  refine lv_iconst (v := (-1 : Int32)) hx hb dX6_logDeed_7 (by decide) ?_
  refine lv_icmp_ne (tgt := 15) hx hb dX6_logDeed_8 (by decide) (fun c3 => ?_) (fun c3 => ?_)
  · rw [if_neg c3] at h
    refine lv_iload_n hx hb dX6_logDeed_15 rfl (lv_at hl 0 rfl) ?_
    refine lv_bipush (v := (10 : Int32)) hx hb dX6_logDeed_16 (by decide) ?_
    refine lv_irem hx hb dX6_logDeed_18 (by decide) ?_
    have h := Option.some.inj h
    subst h
    rw [kr]
    exact r_ri E hw dX6_logDeed_19
  · rw [if_pos c3] at h
    refine lv_iconst (v := (-1 : Int32)) hx hb dX6_logDeed_11 (by decide) ?_
    refine lv_goto (tgt := 19) hx hb dX6_logDeed_12 (by decide) ?_
    have h := Option.some.inj h
    subst h
    rw [kr]
    exact r_ri E hw dX6_logDeed_19
/-! ===== AllSawIt$State.rowsOf(I)I ===== -/
theorem dX6_rowsOf_0 : decode cX6_rowsOf 0 = .ok (.iconst 0, 1) := by decide +kernel
theorem dX6_rowsOf_1 : decode cX6_rowsOf 1 = .ok (.istore_n 2, 1) := by decide +kernel
theorem dX6_rowsOf_2 : decode cX6_rowsOf 2 = .ok (.iconst 0, 1) := by decide +kernel
theorem dX6_rowsOf_3 : decode cX6_rowsOf 3 = .ok (.istore_n 3, 1) := by decide +kernel
theorem dX6_rowsOf_4 : decode cX6_rowsOf 4 = .ok (.iload_n 3, 1) := by decide +kernel
theorem dX6_rowsOf_5 : decode cX6_rowsOf 5 = .ok (.aload_n 0, 1) := by decide +kernel
theorem dX6_rowsOf_6 : decode cX6_rowsOf 6 = .ok (.invokevirtual 116, 3) := by decide +kernel
theorem dX6_rowsOf_9 : decode cX6_rowsOf 9 = .ok (.if_icmp .ge 21, 3) := by decide +kernel
theorem dX6_rowsOf_12 : decode cX6_rowsOf 12 = .ok (.aload_n 0, 1) := by decide +kernel
theorem dX6_rowsOf_13 : decode cX6_rowsOf 13 = .ok (.iload_n 3, 1) := by decide +kernel
theorem dX6_rowsOf_14 : decode cX6_rowsOf 14 = .ok (.invokevirtual 122, 3) := by decide +kernel
theorem dX6_rowsOf_17 : decode cX6_rowsOf 17 = .ok (.iload_n 1, 1) := by decide +kernel
theorem dX6_rowsOf_18 : decode cX6_rowsOf 18 = .ok (.if_icmp .ne 6, 3) := by decide +kernel
theorem dX6_rowsOf_21 : decode cX6_rowsOf 21 = .ok (.iinc 2 1, 3) := by decide +kernel
theorem dX6_rowsOf_24 : decode cX6_rowsOf 24 = .ok (.iinc 3 1, 3) := by decide +kernel
theorem dX6_rowsOf_27 : decode cX6_rowsOf 27 = .ok (.goto (-23), 3) := by decide +kernel
theorem dX6_rowsOf_30 : decode cX6_rowsOf 30 = .ok (.iload_n 2, 1) := by decide +kernel
theorem dX6_rowsOf_31 : decode cX6_rowsOf 31 = .ok (.ireturn, 1) := by decide +kernel
noncomputable def fX6_rowsOf_L4 (V : VT) (i : Nat) (u1 : Int32) (u2 : Int32) (u3 : Int32) : Option ((Int32 × Int32 × Int32) ⊕ Int32) := ob_R (fX6_logSize V i) fun y2 => if y2 ≤ u3 then (some (.inr (u2))) else (ob_R (fX6_logHouse V i u3) fun y4 => if y4 = u1 then (lt_ (u2 + (1 : Int32)) fun y6 => lt_ (u3 + (1 : Int32)) fun y7 => some (.inl (u1, y6, y7))) else (lt_ (u3 + (1 : Int32)) fun y5 => some (.inl (u1, u2, y5))))
noncomputable def iX6_rowsOf_L4 (V : VT) (i : Nat) : (Int32 × Int32 × Int32) → Option ((Int32 × Int32 × Int32) ⊕ Int32) := fun q => fX6_rowsOf_L4 V i (q.1) (q.2.1) (q.2.2)
noncomputable def fX6_rowsOf (V : VT) (i : Nat) (x1 : Int32) : Option Int32 := ob_R (it_ (iX6_rowsOf_L4 V i) FV (x1, (0 : Int32), (0 : Int32))) fun x11 => some x11
set_option maxHeartbeats 4000000 in
set_option maxRecDepth 100000 in
theorem wX6_rowsOf_L4 {p : Program} {l : Launch} {e : Env} {s : State} {m : MethodId} {args : Array Value} {below : List Frame} {meth : Method} {c : Code} {G : GT} {B : BGt} {Q : State → Prop} (E : En p s m args c meth cX6_rowsOf 4 RX6 (some .int) G B) {i : Nat} (hs_i : isSt i) {V : VT} {x : Int32} (kr : ∀ q : Int32, x = q → Q = MQ below (QI G s.heap.size q V) args s 0 0 (gA G s.heap.size)) : ∀ (n : Nat) (q : (Int32 × Int32 × Int32)), it_ (iX6_rowsOf_L4 V i) n q = some x → ∀ (H : Heap) (locs : List Loc) (ls : Array Slot), HW G s.heap V H locs → lv_has ls 4 [(0, .ref (G.2.2 i)), (1, .int (q.1)), (2, .int (q.2.1)), (3, .int (q.2.2))] → W p l e (rmD 5) s m args below meth c H locs 0 0 Q (F0 m 4 ls []) := by
  have hx := en_x E
  have hb := en_b E
  have hB := en_B E
  refine it_W (fun q : (Int32 × Int32 × Int32) => ∀ (H : Heap) (locs : List Loc) (ls : Array Slot), HW G s.heap V H locs → lv_has ls 4 [(0, .ref (G.2.2 i)), (1, .int (q.1)), (2, .int (q.2.1)), (3, .int (q.2.2))] → W p l e (rmD 5) s m args below meth c H locs 0 0 Q (F0 m 4 ls [])) x ?_
  intro q r h kc kx
  obtain ⟨u1, u2, u3⟩ := q
  intro H locs ls hw hl
  have h : fX6_rowsOf_L4 V i u1 u2 u3 = some r := h
  have hw : HW G s.heap V H locs := hw
  have hl : lv_has ls 4 [(0, .ref (G.2.2 i)), (1, .int u1), (2, .int u2), (3, .int u3)] := hl
  have kr : ∀ q : Int32, r = .inr (q) → Q = MQ below (QI G s.heap.size q V) args s 0 0 (gA G s.heap.size) := fun q e => kr q (kx _ e).symm
  unfold fX6_rowsOf_L4 at h
  refine lv_iload_n hx hb dX6_rowsOf_4 rfl (lv_at hl 3 rfl) ?_
  refine lv_aload_n hx hb dX6_rowsOf_5 rfl (lv_at hl 0 rfl) ?_
  obtain ⟨y2, h1, h⟩ := ob_R_some h
  refine c_VI E hw (kX6_logSize (l := l) (G := G) hB hs_i h1) yy_X6_logSize lm_RX6_116 rfl (st_lt hs_i) (st_c hs_i) rfl hl.1 (by decide) (by decide) rfl (Nat.le_of_ble_eq_true rfl) dX6_rowsOf_6 (fun H locs hw => ?_)
  refine lv_icmp_ge (tgt := 30) hx hb dX6_rowsOf_9 (by decide) (fun c9 => ?_) (fun c9 => ?_)
  · rw [if_pos c9] at h
    refine lv_iload_n hx hb dX6_rowsOf_30 rfl (lv_at hl 2 rfl) ?_
    rw [kr u2 (Option.some.inj h).symm]
    exact r_ri E hw dX6_rowsOf_31
  · rw [if_neg c9] at h
    refine lv_aload_n hx hb dX6_rowsOf_12 rfl (lv_at hl 0 rfl) ?_
    refine lv_iload_n hx hb dX6_rowsOf_13 rfl (lv_at hl 3 rfl) ?_
    obtain ⟨y4, h3, h⟩ := ob_R_some h
    refine c_VI E hw (kX6_logHouse (l := l) (G := G) hB hs_i h3) yy_X6_logHouse lm_RX6_122 rfl (st_lt hs_i) (st_c hs_i) rfl hl.1 (by decide) (by decide) rfl (Nat.le_of_ble_eq_true rfl) dX6_rowsOf_14 (fun H locs hw => ?_)
    refine lv_iload_n hx hb dX6_rowsOf_17 rfl (lv_at hl 1 rfl) ?_
    refine lv_icmp_ne (tgt := 24) hx hb dX6_rowsOf_18 (by decide) (fun c8 => ?_) (fun c8 => ?_)
    · rw [if_neg c8] at h
      obtain ⟨y5, ey5, h⟩ := lt_some h
      refine lv_iinc (v := y5) (lv' := [(3, .int y5), (0, .ref (G.2.2 i)), (1, .int u1), (2, .int u2)]) hx hb dX6_rowsOf_24 hl (k := 3) rfl (by rw [ey5]; rfl) (by decide) rfl (fun ls hl => ?_)
      refine lv_goto (tgt := 4) hx hb dX6_rowsOf_27 (by decide) ?_
      exact kc (u1, u2, y5) (Option.some.inj h).symm H locs ls hw (lv_sub hl [1, 2, 3, 0] rfl)
    · rw [if_pos c8] at h
      obtain ⟨y6, ey6, h⟩ := lt_some h
      refine lv_iinc (v := y6) (lv' := [(2, .int y6), (0, .ref (G.2.2 i)), (1, .int u1), (3, .int u3)]) hx hb dX6_rowsOf_21 hl (k := 2) rfl (by rw [ey6]; rfl) (by decide) rfl (fun ls hl => ?_)
      obtain ⟨y7, ey7, h⟩ := lt_some h
      refine lv_iinc (v := y7) (lv' := [(3, .int y7), (2, .int y6), (0, .ref (G.2.2 i)), (1, .int u1)]) hx hb dX6_rowsOf_24 hl (k := 3) rfl (by rw [ey7]; rfl) (by decide) rfl (fun ls hl => ?_)
      refine lv_goto (tgt := 4) hx hb dX6_rowsOf_27 (by decide) ?_
      exact kc (u1, y6, y7) (Option.some.inj h).symm H locs ls hw (lv_sub hl [2, 3, 1, 0] rfl)
set_option maxHeartbeats 4000000 in
set_option maxRecDepth 100000 in
theorem kX6_rowsOf {l : Launch} {G : GT} {B : BGt} (hB : BGok B) {V : VT} {i : Nat} (hs_i : isSt i) {x1 : Int32} {r : Int32} (h : fX6_rowsOf V i x1 = some r) : CI l G B yX6_rowsOf (.code yX6_rowsOf cX6_rowsOf 4 (some .int)) 5 [.ref (G.2.2 i), .int x1] V r V := by
  intro sz
  refine met_of (Qs := fun sz => QI G sz r V) hB (by decide) (Nat.le_of_ble_eq_true rfl) ?_ sz
  intro p e s m args below meth c ls E hw hl
  have hx := en_x E
  have hb := en_b E
  generalize hQ : MQ _ _ _ _ _ _ _ = Q
  have kr : Q = MQ below (QI G s.heap.size r V) args s 0 0 (gA G s.heap.size) := hQ.symm
  have hl : lv_has ls 4 [(0, .ref (G.2.2 i)), (1, .int x1)] := hl
  obtain ⟨H, eH⟩ : ∃ H, H = s.heap := ⟨_, rfl⟩
  obtain ⟨locs, elocs⟩ : ∃ z : List Loc, z = [] := ⟨_, rfl⟩
  have hw : HW G s.heap V H locs := by rw [eH, elocs]; exact hw
  show W p l e _ s m args below meth c s.heap [] 0 0 Q (F0 m 0 ls [])
  rw [← eH, ← elocs]
  unfold fX6_rowsOf at h
  refine lv_iconst (v := (0 : Int32)) hx hb dX6_rowsOf_0 (by decide) ?_
  refine lv_istore_n (lv' := [(2, .int (0 : Int32)), (0, .ref (G.2.2 i)), (1, .int x1)]) hx hb dX6_rowsOf_1 rfl hl (by decide) rfl (fun ls hl => ?_)
  refine lv_iconst (v := (0 : Int32)) hx hb dX6_rowsOf_2 (by decide) ?_
  refine lv_istore_n (lv' := [(3, .int (0 : Int32)), (2, .int (0 : Int32)), (0, .ref (G.2.2 i)), (1, .int x1)]) hx hb dX6_rowsOf_3 rfl hl (by decide) rfl (fun ls hl => ?_)
  obtain ⟨x11, h10, h⟩ := ob_R_some h
  have h := Option.some.inj h
  subst h
  exact wX6_rowsOf_L4 E hs_i (fun q e => by subst e; exact kr) FV (x1, (0 : Int32), (0 : Int32)) h10 H locs ls hw (lv_sub hl [2, 3, 1, 0] rfl)
/-! ===== AllSawIt$State.lastDayOf(I)I ===== -/
theorem dX6_lastDayOf_0 : decode cX6_lastDayOf 0 = .ok (.iconst 0, 1) := by decide +kernel
theorem dX6_lastDayOf_1 : decode cX6_lastDayOf 1 = .ok (.istore_n 2, 1) := by decide +kernel
theorem dX6_lastDayOf_2 : decode cX6_lastDayOf 2 = .ok (.iload_n 2, 1) := by decide +kernel
theorem dX6_lastDayOf_3 : decode cX6_lastDayOf 3 = .ok (.aload_n 0, 1) := by decide +kernel
theorem dX6_lastDayOf_4 : decode cX6_lastDayOf 4 = .ok (.invokevirtual 116, 3) := by decide +kernel
theorem dX6_lastDayOf_7 : decode cX6_lastDayOf 7 = .ok (.if_icmp .ge 24, 3) := by decide +kernel
theorem dX6_lastDayOf_10 : decode cX6_lastDayOf 10 = .ok (.aload_n 0, 1) := by decide +kernel
theorem dX6_lastDayOf_11 : decode cX6_lastDayOf 11 = .ok (.iload_n 2, 1) := by decide +kernel
theorem dX6_lastDayOf_12 : decode cX6_lastDayOf 12 = .ok (.invokevirtual 122, 3) := by decide +kernel
theorem dX6_lastDayOf_15 : decode cX6_lastDayOf 15 = .ok (.iload_n 1, 1) := by decide +kernel
theorem dX6_lastDayOf_16 : decode cX6_lastDayOf 16 = .ok (.if_icmp .ne 9, 3) := by decide +kernel
theorem dX6_lastDayOf_19 : decode cX6_lastDayOf 19 = .ok (.aload_n 0, 1) := by decide +kernel
theorem dX6_lastDayOf_20 : decode cX6_lastDayOf 20 = .ok (.iload_n 2, 1) := by decide +kernel
theorem dX6_lastDayOf_21 : decode cX6_lastDayOf 21 = .ok (.invokevirtual 125, 3) := by decide +kernel
theorem dX6_lastDayOf_24 : decode cX6_lastDayOf 24 = .ok (.ireturn, 1) := by decide +kernel
theorem dX6_lastDayOf_25 : decode cX6_lastDayOf 25 = .ok (.iinc 2 1, 3) := by decide +kernel
theorem dX6_lastDayOf_28 : decode cX6_lastDayOf 28 = .ok (.goto (-26), 3) := by decide +kernel
theorem dX6_lastDayOf_31 : decode cX6_lastDayOf 31 = .ok (.iconst (-1), 1) := by decide +kernel
theorem dX6_lastDayOf_32 : decode cX6_lastDayOf 32 = .ok (.ireturn, 1) := by decide +kernel
noncomputable def fX6_lastDayOf_L2 (V : VT) (i : Nat) (u1 : Int32) (u2 : Int32) : Option ((Int32 × Int32) ⊕ Int32) := ob_R (fX6_logSize V i) fun y2 => if y2 ≤ u2 then (some (.inr ((-1 : Int32)))) else (ob_R (fX6_logHouse V i u2) fun y4 => if y4 = u1 then (ob_R (fX6_logDay V i u2) fun y7 => some (.inr (y7))) else (lt_ (u2 + (1 : Int32)) fun y5 => some (.inl (u1, y5))))
noncomputable def iX6_lastDayOf_L2 (V : VT) (i : Nat) : (Int32 × Int32) → Option ((Int32 × Int32) ⊕ Int32) := fun q => fX6_lastDayOf_L2 V i (q.1) (q.2)
noncomputable def fX6_lastDayOf (V : VT) (i : Nat) (x1 : Int32) : Option Int32 := ob_R (it_ (iX6_lastDayOf_L2 V i) FV (x1, (0 : Int32))) fun x11 => some x11
set_option maxHeartbeats 4000000 in
set_option maxRecDepth 100000 in
theorem wX6_lastDayOf_L2 {p : Program} {l : Launch} {e : Env} {s : State} {m : MethodId} {args : Array Value} {below : List Frame} {meth : Method} {c : Code} {G : GT} {B : BGt} {Q : State → Prop} (E : En p s m args c meth cX6_lastDayOf 3 RX6 (some .int) G B) {i : Nat} (hs_i : isSt i) {V : VT} {x : Int32} (kr : ∀ q : Int32, x = q → Q = MQ below (QI G s.heap.size q V) args s 0 0 (gA G s.heap.size)) : ∀ (n : Nat) (q : (Int32 × Int32)), it_ (iX6_lastDayOf_L2 V i) n q = some x → ∀ (H : Heap) (locs : List Loc) (ls : Array Slot), HW G s.heap V H locs → lv_has ls 3 [(0, .ref (G.2.2 i)), (1, .int (q.1)), (2, .int (q.2))] → W p l e (rmD 5) s m args below meth c H locs 0 0 Q (F0 m 2 ls []) := by
  have hx := en_x E
  have hb := en_b E
  have hB := en_B E
  refine it_W (fun q : (Int32 × Int32) => ∀ (H : Heap) (locs : List Loc) (ls : Array Slot), HW G s.heap V H locs → lv_has ls 3 [(0, .ref (G.2.2 i)), (1, .int (q.1)), (2, .int (q.2))] → W p l e (rmD 5) s m args below meth c H locs 0 0 Q (F0 m 2 ls [])) x ?_
  intro q r h kc kx
  obtain ⟨u1, u2⟩ := q
  intro H locs ls hw hl
  have h : fX6_lastDayOf_L2 V i u1 u2 = some r := h
  have hw : HW G s.heap V H locs := hw
  have hl : lv_has ls 3 [(0, .ref (G.2.2 i)), (1, .int u1), (2, .int u2)] := hl
  have kr : ∀ q : Int32, r = .inr (q) → Q = MQ below (QI G s.heap.size q V) args s 0 0 (gA G s.heap.size) := fun q e => kr q (kx _ e).symm
  unfold fX6_lastDayOf_L2 at h
  refine lv_iload_n hx hb dX6_lastDayOf_2 rfl (lv_at hl 2 rfl) ?_
  refine lv_aload_n hx hb dX6_lastDayOf_3 rfl (lv_at hl 0 rfl) ?_
  obtain ⟨y2, h1, h⟩ := ob_R_some h
  refine c_VI E hw (kX6_logSize (l := l) (G := G) hB hs_i h1) yy_X6_logSize lm_RX6_116 rfl (st_lt hs_i) (st_c hs_i) rfl hl.1 (by decide) (by decide) rfl (Nat.le_of_ble_eq_true rfl) dX6_lastDayOf_4 (fun H locs hw => ?_)
  refine lv_icmp_ge (tgt := 31) hx hb dX6_lastDayOf_7 (by decide) (fun c9 => ?_) (fun c9 => ?_)
  · rw [if_pos c9] at h
    refine lv_iconst (v := (-1 : Int32)) hx hb dX6_lastDayOf_31 (by decide) ?_
    rw [kr (-1 : Int32) (Option.some.inj h).symm]
    exact r_ri E hw dX6_lastDayOf_32
  · rw [if_neg c9] at h
    refine lv_aload_n hx hb dX6_lastDayOf_10 rfl (lv_at hl 0 rfl) ?_
    refine lv_iload_n hx hb dX6_lastDayOf_11 rfl (lv_at hl 2 rfl) ?_
    obtain ⟨y4, h3, h⟩ := ob_R_some h
    refine c_VI E hw (kX6_logHouse (l := l) (G := G) hB hs_i h3) yy_X6_logHouse lm_RX6_122 rfl (st_lt hs_i) (st_c hs_i) rfl hl.1 (by decide) (by decide) rfl (Nat.le_of_ble_eq_true rfl) dX6_lastDayOf_12 (fun H locs hw => ?_)
    refine lv_iload_n hx hb dX6_lastDayOf_15 rfl (lv_at hl 1 rfl) ?_
    refine lv_icmp_ne (tgt := 25) hx hb dX6_lastDayOf_16 (by decide) (fun c8 => ?_) (fun c8 => ?_)
    · rw [if_neg c8] at h
      obtain ⟨y5, ey5, h⟩ := lt_some h
      refine lv_iinc (v := y5) (lv' := [(2, .int y5), (0, .ref (G.2.2 i)), (1, .int u1)]) hx hb dX6_lastDayOf_25 hl (k := 2) rfl (by rw [ey5]; rfl) (by decide) rfl (fun ls hl => ?_)
      refine lv_goto (tgt := 2) hx hb dX6_lastDayOf_28 (by decide) ?_
      exact kc (u1, y5) (Option.some.inj h).symm H locs ls hw (lv_sub hl [1, 2, 0] rfl)
    · rw [if_pos c8] at h
      refine lv_aload_n hx hb dX6_lastDayOf_19 rfl (lv_at hl 0 rfl) ?_
      refine lv_iload_n hx hb dX6_lastDayOf_20 rfl (lv_at hl 2 rfl) ?_
      obtain ⟨y7, h6, h⟩ := ob_R_some h
      refine c_VI E hw (kX6_logDay (l := l) (G := G) hB hs_i h6) yy_X6_logDay lm_RX6_125 rfl (st_lt hs_i) (st_c hs_i) rfl hl.1 (by decide) (by decide) rfl (Nat.le_of_ble_eq_true rfl) dX6_lastDayOf_21 (fun H locs hw => ?_)
      rw [kr y7 (Option.some.inj h).symm]
      exact r_ri E hw dX6_lastDayOf_24
set_option maxHeartbeats 4000000 in
set_option maxRecDepth 100000 in
theorem kX6_lastDayOf {l : Launch} {G : GT} {B : BGt} (hB : BGok B) {V : VT} {i : Nat} (hs_i : isSt i) {x1 : Int32} {r : Int32} (h : fX6_lastDayOf V i x1 = some r) : CI l G B yX6_lastDayOf (.code yX6_lastDayOf cX6_lastDayOf 3 (some .int)) 5 [.ref (G.2.2 i), .int x1] V r V := by
  intro sz
  refine met_of (Qs := fun sz => QI G sz r V) hB (by decide) (Nat.le_of_ble_eq_true rfl) ?_ sz
  intro p e s m args below meth c ls E hw hl
  have hx := en_x E
  have hb := en_b E
  generalize hQ : MQ _ _ _ _ _ _ _ = Q
  have kr : Q = MQ below (QI G s.heap.size r V) args s 0 0 (gA G s.heap.size) := hQ.symm
  have hl : lv_has ls 3 [(0, .ref (G.2.2 i)), (1, .int x1)] := hl
  obtain ⟨H, eH⟩ : ∃ H, H = s.heap := ⟨_, rfl⟩
  obtain ⟨locs, elocs⟩ : ∃ z : List Loc, z = [] := ⟨_, rfl⟩
  have hw : HW G s.heap V H locs := by rw [eH, elocs]; exact hw
  show W p l e _ s m args below meth c s.heap [] 0 0 Q (F0 m 0 ls [])
  rw [← eH, ← elocs]
  unfold fX6_lastDayOf at h
  refine lv_iconst (v := (0 : Int32)) hx hb dX6_lastDayOf_0 (by decide) ?_
  refine lv_istore_n (lv' := [(2, .int (0 : Int32)), (0, .ref (G.2.2 i)), (1, .int x1)]) hx hb dX6_lastDayOf_1 rfl hl (by decide) rfl (fun ls hl => ?_)
  obtain ⟨x11, h10, h⟩ := ob_R_some h
  have h := Option.some.inj h
  subst h
  exact wX6_lastDayOf_L2 E hs_i (fun q e => by subst e; exact kr) FV (x1, (0 : Int32)) h10 H locs ls hw (lv_sub hl [1, 2, 0] rfl)
