/-! ===== AllSawIt$Law.copyFrom(LAllSawIt$Law;)V ===== -/
theorem dX3_copyFrom_0 : decode cX3_copyFrom 0 = .ok (.aload_n 0, 1) := by decide +kernel
theorem dX3_copyFrom_1 : decode cX3_copyFrom 1 = .ok (.aload_n 1, 1) := by decide +kernel
theorem dX3_copyFrom_2 : decode cX3_copyFrom 2 = .ok (.getfield 15, 3) := by decide +kernel
theorem dX3_copyFrom_5 : decode cX3_copyFrom 5 = .ok (.putfield 15, 3) := by decide +kernel
theorem dX3_copyFrom_8 : decode cX3_copyFrom 8 = .ok (.aload_n 0, 1) := by decide +kernel
theorem dX3_copyFrom_9 : decode cX3_copyFrom 9 = .ok (.aload_n 1, 1) := by decide +kernel
theorem dX3_copyFrom_10 : decode cX3_copyFrom 10 = .ok (.getfield 19, 3) := by decide +kernel
theorem dX3_copyFrom_13 : decode cX3_copyFrom 13 = .ok (.putfield 19, 3) := by decide +kernel
theorem dX3_copyFrom_16 : decode cX3_copyFrom 16 = .ok (.iconst 0, 1) := by decide +kernel
theorem dX3_copyFrom_17 : decode cX3_copyFrom 17 = .ok (.istore_n 2, 1) := by decide +kernel
theorem dX3_copyFrom_18 : decode cX3_copyFrom 18 = .ok (.iload_n 2, 1) := by decide +kernel
theorem dX3_copyFrom_19 : decode cX3_copyFrom 19 = .ok (.aload_n 0, 1) := by decide +kernel
theorem dX3_copyFrom_20 : decode cX3_copyFrom 20 = .ok (.getfield 15, 3) := by decide +kernel
theorem dX3_copyFrom_23 : decode cX3_copyFrom 23 = .ok (.if_icmp .ge 39, 3) := by decide +kernel
theorem dX3_copyFrom_26 : decode cX3_copyFrom 26 = .ok (.iload_n 2, 1) := by decide +kernel
theorem dX3_copyFrom_27 : decode cX3_copyFrom 27 = .ok (.aload_n 0, 1) := by decide +kernel
theorem dX3_copyFrom_28 : decode cX3_copyFrom 28 = .ok (.getfield 9, 3) := by decide +kernel
theorem dX3_copyFrom_31 : decode cX3_copyFrom 31 = .ok (.arraylength, 1) := by decide +kernel
theorem dX3_copyFrom_32 : decode cX3_copyFrom 32 = .ok (.if_icmp .ge 30, 3) := by decide +kernel
theorem dX3_copyFrom_35 : decode cX3_copyFrom 35 = .ok (.iload_n 2, 1) := by decide +kernel
theorem dX3_copyFrom_36 : decode cX3_copyFrom 36 = .ok (.aload_n 1, 1) := by decide +kernel
theorem dX3_copyFrom_37 : decode cX3_copyFrom 37 = .ok (.getfield 9, 3) := by decide +kernel
theorem dX3_copyFrom_40 : decode cX3_copyFrom 40 = .ok (.arraylength, 1) := by decide +kernel
theorem dX3_copyFrom_41 : decode cX3_copyFrom 41 = .ok (.if_icmp .ge 21, 3) := by decide +kernel
theorem dX3_copyFrom_44 : decode cX3_copyFrom 44 = .ok (.aload_n 0, 1) := by decide +kernel
theorem dX3_copyFrom_45 : decode cX3_copyFrom 45 = .ok (.getfield 9, 3) := by decide +kernel
theorem dX3_copyFrom_48 : decode cX3_copyFrom 48 = .ok (.iload_n 2, 1) := by decide +kernel
theorem dX3_copyFrom_49 : decode cX3_copyFrom 49 = .ok (.aload_n 1, 1) := by decide +kernel
theorem dX3_copyFrom_50 : decode cX3_copyFrom 50 = .ok (.getfield 9, 3) := by decide +kernel
theorem dX3_copyFrom_53 : decode cX3_copyFrom 53 = .ok (.iload_n 2, 1) := by decide +kernel
theorem dX3_copyFrom_54 : decode cX3_copyFrom 54 = .ok (.iaload, 1) := by decide +kernel
theorem dX3_copyFrom_55 : decode cX3_copyFrom 55 = .ok (.iastore, 1) := by decide +kernel
theorem dX3_copyFrom_56 : decode cX3_copyFrom 56 = .ok (.iinc 2 1, 3) := by decide +kernel
theorem dX3_copyFrom_59 : decode cX3_copyFrom 59 = .ok (.goto (-41), 3) := by decide +kernel
theorem dX3_copyFrom_62 : decode cX3_copyFrom 62 = .ok (.return_, 1) := by decide +kernel
noncomputable def fX3_copyFrom_L18 (V : VT) (i : Nat) (j : Nat) (u2 : Int32) : Option ((VT × Int32) ⊕ VT) := if (V i 1) ≤ u2 then (some (.inr (V))) else (if (nI 400) ≤ u2 then (some (.inr (V))) else (if (nI 400) ≤ u2 then (some (.inr (V))) else (rd_ u2 400 (rd_ u2 400 (lt_ (va_up V (i + 52) (upd (V (i + 52)) u2.toNatClampNeg (V (j + 52) u2.toNatClampNeg))) fun V5 => lt_ (u2 + (1 : Int32)) fun y6 => some (.inl (V5, y6)))))))
noncomputable def iX3_copyFrom_L18 (i : Nat) (j : Nat) : (VT × Int32) → Option ((VT × Int32) ⊕ VT) := fun q => fX3_copyFrom_L18 (q.1) i j (q.2)
noncomputable def fX3_copyFrom (V : VT) (i : Nat) (j : Nat) : Option VT := lt_ (va_up V i (upd (V i) 1 (V j 1))) fun V1 => lt_ (va_up V1 i (upd (V1 i) 2 (V1 j 2))) fun V2 => ob_R (it_ (iX3_copyFrom_L18 i j) FV (V2, (0 : Int32))) fun x11 => some x11
set_option maxHeartbeats 4000000 in
set_option maxRecDepth 100000 in
theorem wX3_copyFrom_L18 {p : Program} {l : Launch} {e : Env} {s : State} {m : MethodId} {args : Array Value} {below : List Frame} {meth : Method} {c : Code} {G : GT} {B : BGt} {Q : State → Prop} (E : En p s m args c meth cX3_copyFrom 3 RX3 none G B) {i : Nat} (hs_i : isLo i) {j : Nat} (hs_j : isLo j) {x : VT} (kr : ∀ q : VT, x = q → Q = MQ below (QV G s.heap.size q) args s 0 0 (gA G s.heap.size)) : ∀ (n : Nat) (q : (VT × Int32)), it_ (iX3_copyFrom_L18 i j) n q = some x → ∀ (H : Heap) (locs : List Loc) (ls : Array Slot), HW G s.heap (q.1) H locs → lv_has ls 3 [(0, .ref (G.2.2 i)), (1, .ref (G.2.2 j)), (2, .int (q.2))] → W p l e (rmD 2) s m args below meth c H locs 0 0 Q (F0 m 18 ls []) := by
  have hx := en_x E
  have hb := en_b E
  have hB := en_B E
  refine it_W (fun q : (VT × Int32) => ∀ (H : Heap) (locs : List Loc) (ls : Array Slot), HW G s.heap (q.1) H locs → lv_has ls 3 [(0, .ref (G.2.2 i)), (1, .ref (G.2.2 j)), (2, .int (q.2))] → W p l e (rmD 2) s m args below meth c H locs 0 0 Q (F0 m 18 ls [])) x ?_
  intro q r h kc kx
  obtain ⟨V, u2⟩ := q
  intro H locs ls hw hl
  have h : fX3_copyFrom_L18 V i j u2 = some r := h
  have hw : HW G s.heap V H locs := hw
  have hl : lv_has ls 3 [(0, .ref (G.2.2 i)), (1, .ref (G.2.2 j)), (2, .int u2)] := hl
  have kr : ∀ q : VT, r = .inr (q) → Q = MQ below (QV G s.heap.size q) args s 0 0 (gA G s.heap.size) := fun q e => kr q (kx _ e).symm
  unfold fX3_copyFrom_L18 at h
  refine lv_iload_n hx hb dX3_copyFrom_18 rfl (lv_at hl 2 rfl) ?_
  refine lv_aload_n hx hb dX3_copyFrom_19 rfl (lv_at hl 0 rfl) ?_
  refine r_gi E hw i 1 (N := 10) (C := RX3) (T := TX3) (lo_lt hs_i) (lo_c hs_i) (lo_N hs_i) (by decide) (lo_n hs_i (k := 1) (by decide)) iw_3 rfl lf_RX3_15 dX3_copyFrom_20 ?_
  refine lv_icmp_ge (tgt := 62) hx hb dX3_copyFrom_23 (by decide) (fun c9 => ?_) (fun c9 => ?_)
  · rw [if_pos c9] at h
    rw [kr V (Option.some.inj h).symm]
    exact r_rv E hw dX3_copyFrom_62
  · rw [if_neg c9] at h
    refine lv_iload_n hx hb dX3_copyFrom_26 rfl (lv_at hl 2 rfl) ?_
    refine lv_aload_n hx hb dX3_copyFrom_27 rfl (lv_at hl 0 rfl) ?_
    refine r_gr E hw i 0 (i + 52) (N := 10) (C := RX3) (T := TX3) (lo_lt hs_i) (lo_c hs_i) (lo_N hs_i) (by decide) (lo_R hs_i (k := 0) (by decide)) iw_3 rfl lf_RX3_9 dX3_copyFrom_28 ?_
    refine r_al E hw (i + 52) 400 (lo_a1 hs_i) (lo_a2 hs_i) (lo_a3 hs_i) (lo_L hs_i) dX3_copyFrom_31 ?_
    refine lv_icmp_ge (tgt := 62) hx hb dX3_copyFrom_32 (by decide) (fun c8 => ?_) (fun c8 => ?_)
    · rw [if_pos c8] at h
      rw [kr V (Option.some.inj h).symm]
      exact r_rv E hw dX3_copyFrom_62
    · rw [if_neg c8] at h
      refine lv_iload_n hx hb dX3_copyFrom_35 rfl (lv_at hl 2 rfl) ?_
      refine lv_aload_n hx hb dX3_copyFrom_36 rfl (lv_at hl 1 rfl) ?_
      refine r_gr E hw j 0 (j + 52) (N := 10) (C := RX3) (T := TX3) (lo_lt hs_j) (lo_c hs_j) (lo_N hs_j) (by decide) (lo_R hs_j (k := 0) (by decide)) iw_3 rfl lf_RX3_9 dX3_copyFrom_37 ?_
      refine r_al E hw (j + 52) 400 (lo_a1 hs_j) (lo_a2 hs_j) (lo_a3 hs_j) (lo_L hs_j) dX3_copyFrom_40 ?_
      refine lv_icmp_ge (tgt := 62) hx hb dX3_copyFrom_41 (by decide) (fun c7 => ?_) (fun c7 => ?_)
      · rw [if_pos c7] at h
        rw [kr V (Option.some.inj h).symm]
        exact r_rv E hw dX3_copyFrom_62
      · rw [if_neg c7] at h
        refine lv_aload_n hx hb dX3_copyFrom_44 rfl (lv_at hl 0 rfl) ?_
        refine r_gr E hw i 0 (i + 52) (N := 10) (C := RX3) (T := TX3) (lo_lt hs_i) (lo_c hs_i) (lo_N hs_i) (by decide) (lo_R hs_i (k := 0) (by decide)) iw_3 rfl lf_RX3_9 dX3_copyFrom_45 ?_
        refine lv_iload_n hx hb dX3_copyFrom_48 rfl (lv_at hl 2 rfl) ?_
        refine lv_aload_n hx hb dX3_copyFrom_49 rfl (lv_at hl 1 rfl) ?_
        refine r_gr E hw j 0 (j + 52) (N := 10) (C := RX3) (T := TX3) (lo_lt hs_j) (lo_c hs_j) (lo_N hs_j) (by decide) (lo_R hs_j (k := 0) (by decide)) iw_3 rfl lf_RX3_9 dX3_copyFrom_50 ?_
        refine lv_iload_n hx hb dX3_copyFrom_53 rfl (lv_at hl 2 rfl) ?_
        obtain ⟨b3, h⟩ := rd_some h
        refine r_ia E hw (j + 52) 400 (lo_a1 hs_j) (lo_a2 hs_j) (lo_a3 hs_j) (lo_a4 hs_j) (lo_L hs_j) b3 dX3_copyFrom_54 ?_
        obtain ⟨b4, h⟩ := rd_some h
        obtain ⟨V5, eV5, h⟩ := lt_some h
        refine r_is E hw (i + 52) 400 (lo_a1 hs_i) (lo_a2 hs_i) (lo_a3 hs_i) (lo_a4 hs_i) (lo_L hs_i) b4 eV5 dX3_copyFrom_55 (fun H locs hw => ?_)
        obtain ⟨y6, ey6, h⟩ := lt_some h
        refine lv_iinc (v := y6) (lv' := [(2, .int y6), (0, .ref (G.2.2 i)), (1, .ref (G.2.2 j))]) hx hb dX3_copyFrom_56 hl (k := 2) rfl (by rw [ey6]; rfl) (by decide) rfl (fun ls hl => ?_)
        refine lv_goto (tgt := 18) hx hb dX3_copyFrom_59 (by decide) ?_
        exact kc (V5, y6) (Option.some.inj h).symm H locs ls hw (lv_sub hl [1, 2, 0] rfl)
set_option maxHeartbeats 4000000 in
set_option maxRecDepth 100000 in
theorem kX3_copyFrom {l : Launch} {G : GT} {B : BGt} (hB : BGok B) {V : VT} {i : Nat} (hs_i : isLo i) {j : Nat} (hs_j : isLo j) {r : VT} (h : fX3_copyFrom V i j = some r) : CV l G B yX3_copyFrom (.code yX3_copyFrom cX3_copyFrom 3 none) 2 [.ref (G.2.2 i), .ref (G.2.2 j)] V r := by
  intro sz
  refine met_of (Qs := fun sz => QV G sz r) hB (by decide) (Nat.le_of_ble_eq_true rfl) ?_ sz
  intro p e s m args below meth c ls E hw hl
  have hx := en_x E
  have hb := en_b E
  generalize hQ : MQ _ _ _ _ _ _ _ = Q
  have kr : Q = MQ below (QV G s.heap.size r) args s 0 0 (gA G s.heap.size) := hQ.symm
  have hl : lv_has ls 3 [(0, .ref (G.2.2 i)), (1, .ref (G.2.2 j))] := hl
  obtain ⟨H, eH⟩ : ∃ H, H = s.heap := ⟨_, rfl⟩
  obtain ⟨locs, elocs⟩ : ∃ z : List Loc, z = [] := ⟨_, rfl⟩
  have hw : HW G s.heap V H locs := by rw [eH, elocs]; exact hw
  show W p l e _ s m args below meth c s.heap [] 0 0 Q (F0 m 0 ls [])
  rw [← eH, ← elocs]
  unfold fX3_copyFrom at h
  refine lv_aload_n hx hb dX3_copyFrom_0 rfl (lv_at hl 0 rfl) ?_
  refine lv_aload_n hx hb dX3_copyFrom_1 rfl (lv_at hl 1 rfl) ?_
  refine r_gi E hw j 1 (N := 10) (C := RX3) (T := TX3) (lo_lt hs_j) (lo_c hs_j) (lo_N hs_j) (by decide) (lo_n hs_j (k := 1) (by decide)) iw_3 rfl lf_RX3_15 dX3_copyFrom_2 ?_
  obtain ⟨V1, eV1, h⟩ := lt_some h
  refine r_pi E hw i 1 (N := 10) (C := RX3) (T := TX3) (ty0 := tyX3) (ty := .int) (lo_lt hs_i) (lo_c hs_i) (lo_N hs_i) (by decide) (lo_n hs_i (k := 1) (by decide)) iw_3 rfl tyX3_ok nmX3 rfl rfl (vp_nar_int _) rfl lf_RX3_15 eV1 dX3_copyFrom_5 (fun H locs hw => ?_)
  refine lv_aload_n hx hb dX3_copyFrom_8 rfl (lv_at hl 0 rfl) ?_
  refine lv_aload_n hx hb dX3_copyFrom_9 rfl (lv_at hl 1 rfl) ?_
  refine r_gi E hw j 2 (N := 10) (C := RX3) (T := TX3) (lo_lt hs_j) (lo_c hs_j) (lo_N hs_j) (by decide) (lo_n hs_j (k := 2) (by decide)) iw_3 rfl lf_RX3_19 dX3_copyFrom_10 ?_
  obtain ⟨V2, eV2, h⟩ := lt_some h
  refine r_pi E hw i 2 (N := 10) (C := RX3) (T := TX3) (ty0 := tyX3) (ty := .int) (lo_lt hs_i) (lo_c hs_i) (lo_N hs_i) (by decide) (lo_n hs_i (k := 2) (by decide)) iw_3 rfl tyX3_ok nmX3 rfl rfl (vp_nar_int _) rfl lf_RX3_19 eV2 dX3_copyFrom_13 (fun H locs hw => ?_)
  refine lv_iconst (v := (0 : Int32)) hx hb dX3_copyFrom_16 (by decide) ?_
  refine lv_istore_n (lv' := [(2, .int (0 : Int32)), (0, .ref (G.2.2 i)), (1, .ref (G.2.2 j))]) hx hb dX3_copyFrom_17 rfl hl (by decide) rfl (fun ls hl => ?_)
  obtain ⟨x11, h10, h⟩ := ob_R_some h
  have h := Option.some.inj h
  subst h
  exact wX3_copyFrom_L18 E hs_i hs_j (fun q e => by subst e; exact kr) FV (V2, (0 : Int32)) h10 H locs ls hw (lv_sub hl [1, 2, 0] rfl)
/-! ===== AllSawIt$Law.empty()V ===== -/
theorem dX3_empty_0 : decode cX3_empty 0 = .ok (.aload_n 0, 1) := by decide +kernel
theorem dX3_empty_1 : decode cX3_empty 1 = .ok (.iconst 0, 1) := by decide +kernel
theorem dX3_empty_2 : decode cX3_empty 2 = .ok (.putfield 15, 3) := by decide +kernel
theorem dX3_empty_5 : decode cX3_empty 5 = .ok (.aload_n 0, 1) := by decide +kernel
theorem dX3_empty_6 : decode cX3_empty 6 = .ok (.iconst 0, 1) := by decide +kernel
theorem dX3_empty_7 : decode cX3_empty 7 = .ok (.putfield 19, 3) := by decide +kernel
theorem dX3_empty_10 : decode cX3_empty 10 = .ok (.return_, 1) := by decide +kernel
noncomputable def fX3_empty (V : VT) : Option VT := lt_ (va_up V 18 (upd (V 18) 1 (0 : Int32))) fun V1 => lt_ (va_up V1 18 (upd (V1 18) 2 (0 : Int32))) fun V2 => some V2
set_option maxHeartbeats 4000000 in
set_option maxRecDepth 100000 in
theorem kX3_empty {l : Launch} {G : GT} {B : BGt} (hB : BGok B) {V : VT} {r : VT} (h : fX3_empty V = some r) : CV l G B yX3_empty (.code yX3_empty cX3_empty 1 none) 2 [.ref (G.2.2 18)] V r := by
  intro sz
  refine met_of (Qs := fun sz => QV G sz r) hB (by decide) (Nat.le_of_ble_eq_true rfl) ?_ sz
  intro p e s m args below meth c ls E hw hl
  have hx := en_x E
  have hb := en_b E
  generalize hQ : MQ _ _ _ _ _ _ _ = Q
  have kr : Q = MQ below (QV G s.heap.size r) args s 0 0 (gA G s.heap.size) := hQ.symm
  have hl : lv_has ls 1 [(0, .ref (G.2.2 18))] := hl
  obtain ⟨H, eH⟩ : ∃ H, H = s.heap := ⟨_, rfl⟩
  obtain ⟨locs, elocs⟩ : ∃ z : List Loc, z = [] := ⟨_, rfl⟩
  have hw : HW G s.heap V H locs := by rw [eH, elocs]; exact hw
  show W p l e _ s m args below meth c s.heap [] 0 0 Q (F0 m 0 ls [])
  rw [← eH, ← elocs]
  unfold fX3_empty at h
  refine lv_aload_n hx hb dX3_empty_0 rfl (lv_at hl 0 rfl) ?_
  refine lv_iconst (v := (0 : Int32)) hx hb dX3_empty_1 (by decide) ?_
  obtain ⟨V1, eV1, h⟩ := lt_some h
  refine r_pi E hw 18 1 (N := 10) (C := RX3) (T := TX3) (ty0 := tyX3) (ty := .int) (by decide) rfl rfl (by decide) rfl iw_3 rfl tyX3_ok nmX3 rfl rfl (vp_nar_int _) rfl lf_RX3_15 eV1 dX3_empty_2 (fun H locs hw => ?_)
  refine lv_aload_n hx hb dX3_empty_5 rfl (lv_at hl 0 rfl) ?_
  refine lv_iconst (v := (0 : Int32)) hx hb dX3_empty_6 (by decide) ?_
  obtain ⟨V2, eV2, h⟩ := lt_some h
  refine r_pi E hw 18 2 (N := 10) (C := RX3) (T := TX3) (ty0 := tyX3) (ty := .int) (by decide) rfl rfl (by decide) rfl iw_3 rfl tyX3_ok nmX3 rfl rfl (vp_nar_int _) rfl lf_RX3_19 eV2 dX3_empty_7 (fun H locs hw => ?_)
  have h := Option.some.inj h
  subst h
  rw [kr]
  exact r_rv E hw dX3_empty_10
/-! ===== AllSawIt$Law.put(I)V ===== -/
theorem dX3_put_0 : decode cX3_put 0 = .ok (.aload_n 0, 1) := by decide +kernel
theorem dX3_put_1 : decode cX3_put 1 = .ok (.getfield 15, 3) := by decide +kernel
theorem dX3_put_4 : decode cX3_put 4 = .ok (.ifCond .lt 35, 3) := by decide +kernel
theorem dX3_put_7 : decode cX3_put 7 = .ok (.aload_n 0, 1) := by decide +kernel
theorem dX3_put_8 : decode cX3_put 8 = .ok (.getfield 15, 3) := by decide +kernel
theorem dX3_put_11 : decode cX3_put 11 = .ok (.aload_n 0, 1) := by decide +kernel
theorem dX3_put_12 : decode cX3_put 12 = .ok (.getfield 9, 3) := by decide +kernel
theorem dX3_put_15 : decode cX3_put 15 = .ok (.arraylength, 1) := by decide +kernel
theorem dX3_put_16 : decode cX3_put 16 = .ok (.if_icmp .ge 23, 3) := by decide +kernel
theorem dX3_put_19 : decode cX3_put 19 = .ok (.aload_n 0, 1) := by decide +kernel
theorem dX3_put_20 : decode cX3_put 20 = .ok (.getfield 9, 3) := by decide +kernel
theorem dX3_put_23 : decode cX3_put 23 = .ok (.aload_n 0, 1) := by decide +kernel
theorem dX3_put_24 : decode cX3_put 24 = .ok (.getfield 15, 3) := by decide +kernel
theorem dX3_put_27 : decode cX3_put 27 = .ok (.iload_n 1, 1) := by decide +kernel
theorem dX3_put_28 : decode cX3_put 28 = .ok (.iastore, 1) := by decide +kernel
theorem dX3_put_29 : decode cX3_put 29 = .ok (.aload_n 0, 1) := by decide +kernel
theorem dX3_put_30 : decode cX3_put 30 = .ok (.dup, 1) := by decide +kernel
theorem dX3_put_31 : decode cX3_put 31 = .ok (.getfield 15, 3) := by decide +kernel
theorem dX3_put_34 : decode cX3_put 34 = .ok (.iconst 1, 1) := by decide +kernel
theorem dX3_put_35 : decode cX3_put 35 = .ok (.iadd, 1) := by decide +kernel
theorem dX3_put_36 : decode cX3_put 36 = .ok (.putfield 15, 3) := by decide +kernel
theorem dX3_put_39 : decode cX3_put 39 = .ok (.return_, 1) := by decide +kernel
noncomputable def fX3_put (V : VT) (x1 : Int32) : Option VT := if (V 18 1) < 0 then (some V) else (if (nI 400) ≤ (V 18 1) then (some V) else (rd_ (V 18 1) 400 (lt_ (va_up V 70 (upd (V 70) (V 18 1).toNatClampNeg x1)) fun V2 => lt_ (va_up V2 18 (upd (V2 18) 1 ((V2 18 1) + (1 : Int32)))) fun V3 => some V3)))
set_option maxHeartbeats 4000000 in
set_option maxRecDepth 100000 in
theorem kX3_put {l : Launch} {G : GT} {B : BGt} (hB : BGok B) {V : VT} {x1 : Int32} {r : VT} (h : fX3_put V x1 = some r) : CV l G B yX3_put (.code yX3_put cX3_put 2 none) 2 [.ref (G.2.2 18), .int x1] V r := by
  intro sz
  refine met_of (Qs := fun sz => QV G sz r) hB (by decide) (Nat.le_of_ble_eq_true rfl) ?_ sz
  intro p e s m args below meth c ls E hw hl
  have hx := en_x E
  have hb := en_b E
  generalize hQ : MQ _ _ _ _ _ _ _ = Q
  have kr : Q = MQ below (QV G s.heap.size r) args s 0 0 (gA G s.heap.size) := hQ.symm
  have hl : lv_has ls 2 [(0, .ref (G.2.2 18)), (1, .int x1)] := hl
  obtain ⟨H, eH⟩ : ∃ H, H = s.heap := ⟨_, rfl⟩
  obtain ⟨locs, elocs⟩ : ∃ z : List Loc, z = [] := ⟨_, rfl⟩
  have hw : HW G s.heap V H locs := by rw [eH, elocs]; exact hw
  show W p l e _ s m args below meth c s.heap [] 0 0 Q (F0 m 0 ls [])
  rw [← eH, ← elocs]
  unfold fX3_put at h
  refine lv_aload_n hx hb dX3_put_0 rfl (lv_at hl 0 rfl) ?_
  refine r_gi E hw 18 1 (N := 10) (C := RX3) (T := TX3) (by decide) rfl rfl (by decide) rfl iw_3 rfl lf_RX3_15 dX3_put_1 ?_
  refine lv_if_lt (tgt := 39) hx hb dX3_put_4 (by decide) (fun c5 => ?_) (fun c5 => ?_)
  · rw [if_pos c5] at h
    have h := Option.some.inj h
    subst h
    rw [kr]
    exact r_rv E hw dX3_put_39
  · rw [if_neg c5] at h
    refine lv_aload_n hx hb dX3_put_7 rfl (lv_at hl 0 rfl) ?_
    refine r_gi E hw 18 1 (N := 10) (C := RX3) (T := TX3) (by decide) rfl rfl (by decide) rfl iw_3 rfl lf_RX3_15 dX3_put_8 ?_
    refine lv_aload_n hx hb dX3_put_11 rfl (lv_at hl 0 rfl) ?_
    refine r_gr E hw 18 0 70 (N := 10) (C := RX3) (T := TX3) (by decide) rfl rfl (by decide) rfl iw_3 rfl lf_RX3_9 dX3_put_12 ?_
    refine r_al E hw 70 400 (by decide) (by decide) (by decide) rfl dX3_put_15 ?_
    refine lv_icmp_ge (tgt := 39) hx hb dX3_put_16 (by decide) (fun c4 => ?_) (fun c4 => ?_)
    · rw [if_pos c4] at h
      have h := Option.some.inj h
      subst h
      rw [kr]
      exact r_rv E hw dX3_put_39
    · rw [if_neg c4] at h
      refine lv_aload_n hx hb dX3_put_19 rfl (lv_at hl 0 rfl) ?_
      refine r_gr E hw 18 0 70 (N := 10) (C := RX3) (T := TX3) (by decide) rfl rfl (by decide) rfl iw_3 rfl lf_RX3_9 dX3_put_20 ?_
      refine lv_aload_n hx hb dX3_put_23 rfl (lv_at hl 0 rfl) ?_
      refine r_gi E hw 18 1 (N := 10) (C := RX3) (T := TX3) (by decide) rfl rfl (by decide) rfl iw_3 rfl lf_RX3_15 dX3_put_24 ?_
      refine lv_iload_n hx hb dX3_put_27 rfl (lv_at hl 1 rfl) ?_
      obtain ⟨b1, h⟩ := rd_some h
      obtain ⟨V2, eV2, h⟩ := lt_some h
      refine r_is E hw 70 400 (by decide) (by decide) (by decide) rfl rfl b1 eV2 dX3_put_28 (fun H locs hw => ?_)
      refine lv_aload_n hx hb dX3_put_29 rfl (lv_at hl 0 rfl) ?_
      refine lv_dup hx hb dX3_put_30 rfl ?_
      refine r_gi E hw 18 1 (N := 10) (C := RX3) (T := TX3) (by decide) rfl rfl (by decide) rfl iw_3 rfl lf_RX3_15 dX3_put_31 ?_
      refine lv_iconst (v := (1 : Int32)) hx hb dX3_put_34 (by decide) ?_
      refine lv_iadd hx hb dX3_put_35 ?_
      obtain ⟨V3, eV3, h⟩ := lt_some h
      refine r_pi E hw 18 1 (N := 10) (C := RX3) (T := TX3) (ty0 := tyX3) (ty := .int) (by decide) rfl rfl (by decide) rfl iw_3 rfl tyX3_ok nmX3 rfl rfl (vp_nar_int _) rfl lf_RX3_15 eV3 dX3_put_36 (fun H locs hw => ?_)
      have h := Option.some.inj h
      subst h
      rw [kr]
      exact r_rv E hw dX3_put_39
/-! ===== AllSawIt$Law.endLine(Z)V ===== -/
theorem dX3_endLine_0 : decode cX3_endLine 0 = .ok (.aload_n 0, 1) := by decide +kernel
theorem dX3_endLine_1 : decode cX3_endLine 1 = .ok (.iload_n 1, 1) := by decide +kernel
theorem dX3_endLine_2 : decode cX3_endLine 2 = .ok (.ifCond .eq 8, 3) := by decide +kernel
theorem dX3_endLine_5 : decode cX3_endLine 5 = .ok (.bipush 10, 2) := by decide +kernel
theorem dX3_endLine_7 : decode cX3_endLine 7 = .ok (.goto 5, 3) := by decide +kernel
theorem dX3_endLine_10 : decode cX3_endLine 10 = .ok (.bipush 11, 2) := by decide +kernel
theorem dX3_endLine_12 : decode cX3_endLine 12 = .ok (.invokevirtual 44, 3) := by decide +kernel
theorem dX3_endLine_15 : decode cX3_endLine 15 = .ok (.aload_n 0, 1) := by decide +kernel
theorem dX3_endLine_16 : decode cX3_endLine 16 = .ok (.dup, 1) := by decide +kernel
theorem dX3_endLine_17 : decode cX3_endLine 17 = .ok (.getfield 19, 3) := by decide +kernel
theorem dX3_endLine_20 : decode cX3_endLine 20 = .ok (.iconst 1, 1) := by decide +kernel
theorem dX3_endLine_21 : decode cX3_endLine 21 = .ok (.iadd, 1) := by decide +kernel
theorem dX3_endLine_22 : decode cX3_endLine 22 = .ok (.putfield 19, 3) := by decide +kernel
theorem dX3_endLine_25 : decode cX3_endLine 25 = .ok (.return_, 1) := by decide +kernel
noncomputable def fX3_endLine (V : VT) (x1 : Int32) : Option VT := if x1 = 0 then (ob_R (fX3_put V (11 : Int32)) fun V2 => lt_ (va_up V2 18 (upd (V2 18) 2 ((V2 18 2) + (1 : Int32)))) fun V3 => some V3) else (ob_R (fX3_put V (10 : Int32)) fun V5 => lt_ (va_up V5 18 (upd (V5 18) 2 ((V5 18 2) + (1 : Int32)))) fun V6 => some V6)
set_option maxHeartbeats 4000000 in
set_option maxRecDepth 100000 in
theorem kX3_endLine {l : Launch} {G : GT} {B : BGt} (hB : BGok B) {V : VT} {x1 : Int32} {r : VT} (h : fX3_endLine V x1 = some r) : CV l G B yX3_endLine (.code yX3_endLine cX3_endLine 2 none) 3 [.ref (G.2.2 18), .int x1] V r := by
  intro sz
  refine met_of (Qs := fun sz => QV G sz r) hB (by decide) (Nat.le_of_ble_eq_true rfl) ?_ sz
  intro p e s m args below meth c ls E hw hl
  have hx := en_x E
  have hb := en_b E
  generalize hQ : MQ _ _ _ _ _ _ _ = Q
  have kr : Q = MQ below (QV G s.heap.size r) args s 0 0 (gA G s.heap.size) := hQ.symm
  have hl : lv_has ls 2 [(0, .ref (G.2.2 18)), (1, .int x1)] := hl
  obtain ⟨H, eH⟩ : ∃ H, H = s.heap := ⟨_, rfl⟩
  obtain ⟨locs, elocs⟩ : ∃ z : List Loc, z = [] := ⟨_, rfl⟩
  have hw : HW G s.heap V H locs := by rw [eH, elocs]; exact hw
  show W p l e _ s m args below meth c s.heap [] 0 0 Q (F0 m 0 ls [])
  rw [← eH, ← elocs]
  unfold fX3_endLine at h
  refine lv_aload_n hx hb dX3_endLine_0 rfl (lv_at hl 0 rfl) ?_
  refine lv_iload_n hx hb dX3_endLine_1 rfl (lv_at hl 1 rfl) ?_
  refine lv_if_eq (tgt := 10) hx hb dX3_endLine_2 (by decide) (fun c7 => ?_) (fun c7 => ?_)
  · rw [if_pos c7] at h
    refine lv_bipush (v := (11 : Int32)) hx hb dX3_endLine_10 (by decide) ?_
    obtain ⟨V2, h1, h⟩ := ob_R_some h
    refine c_VV E hw (kX3_put (l := l) (G := G) hB  h1) yy_X3_put lm_RX3_44 rfl (by decide) rfl rfl hl.1 (by decide) (by decide) rfl (Nat.le_of_ble_eq_true rfl) dX3_endLine_12 (fun H locs hw => ?_)
    refine lv_aload_n hx hb dX3_endLine_15 rfl (lv_at hl 0 rfl) ?_
    refine lv_dup hx hb dX3_endLine_16 rfl ?_
    refine r_gi E hw 18 2 (N := 10) (C := RX3) (T := TX3) (by decide) rfl rfl (by decide) rfl iw_3 rfl lf_RX3_19 dX3_endLine_17 ?_
    refine lv_iconst (v := (1 : Int32)) hx hb dX3_endLine_20 (by decide) ?_
    refine lv_iadd hx hb dX3_endLine_21 ?_
    obtain ⟨V3, eV3, h⟩ := lt_some h
    refine r_pi E hw 18 2 (N := 10) (C := RX3) (T := TX3) (ty0 := tyX3) (ty := .int) (by decide) rfl rfl (by decide) rfl iw_3 rfl tyX3_ok nmX3 rfl rfl (vp_nar_int _) rfl lf_RX3_19 eV3 dX3_endLine_22 (fun H locs hw => ?_)
    have h := Option.some.inj h
    subst h
    rw [kr]
    exact r_rv E hw dX3_endLine_25
  · rw [if_neg c7] at h
    refine lv_bipush (v := (10 : Int32)) hx hb dX3_endLine_5 (by decide) ?_
    refine lv_goto (tgt := 12) hx hb dX3_endLine_7 (by decide) ?_
    obtain ⟨V5, h4, h⟩ := ob_R_some h
    refine c_VV E hw (kX3_put (l := l) (G := G) hB  h4) yy_X3_put lm_RX3_44 rfl (by decide) rfl rfl hl.1 (by decide) (by decide) rfl (Nat.le_of_ble_eq_true rfl) dX3_endLine_12 (fun H locs hw => ?_)
    refine lv_aload_n hx hb dX3_endLine_15 rfl (lv_at hl 0 rfl) ?_
    refine lv_dup hx hb dX3_endLine_16 rfl ?_
    refine r_gi E hw 18 2 (N := 10) (C := RX3) (T := TX3) (by decide) rfl rfl (by decide) rfl iw_3 rfl lf_RX3_19 dX3_endLine_17 ?_
    refine lv_iconst (v := (1 : Int32)) hx hb dX3_endLine_20 (by decide) ?_
    refine lv_iadd hx hb dX3_endLine_21 ?_
    obtain ⟨V6, eV6, h⟩ := lt_some h
    refine r_pi E hw 18 2 (N := 10) (C := RX3) (T := TX3) (ty0 := tyX3) (ty := .int) (by decide) rfl rfl (by decide) rfl iw_3 rfl tyX3_ok nmX3 rfl rfl (vp_nar_int _) rfl lf_RX3_19 eV6 dX3_endLine_22 (fun H locs hw => ?_)
    have h := Option.some.inj h
    subst h
    rw [kr]
    exact r_rv E hw dX3_endLine_25
/-! ===== AllSawIt$Law.valueOf(ILAllSawIt$State;III)I ===== -/
theorem dX3_valueOf_0 : decode cX3_valueOf 0 = .ok (.iload_n 1, 1) := by decide +kernel
theorem dX3_valueOf_1 : decode cX3_valueOf 1 = .ok (.tableswitch 62 12 17 #[39, 41, 44, 47, 52, 57], 39) := by decide +kernel
theorem dX3_valueOf_40 : decode cX3_valueOf 40 = .ok (.iload_n 3, 1) := by decide +kernel
theorem dX3_valueOf_41 : decode cX3_valueOf 41 = .ok (.ireturn, 1) := by decide +kernel
theorem dX3_valueOf_42 : decode cX3_valueOf 42 = .ok (.iload 4, 2) := by decide +kernel
theorem dX3_valueOf_44 : decode cX3_valueOf 44 = .ok (.ireturn, 1) := by decide +kernel
theorem dX3_valueOf_45 : decode cX3_valueOf 45 = .ok (.iload 5, 2) := by decide +kernel
theorem dX3_valueOf_47 : decode cX3_valueOf 47 = .ok (.ireturn, 1) := by decide +kernel
theorem dX3_valueOf_48 : decode cX3_valueOf 48 = .ok (.aload_n 0, 1) := by decide +kernel
theorem dX3_valueOf_49 : decode cX3_valueOf 49 = .ok (.getfield 32, 3) := by decide +kernel
theorem dX3_valueOf_52 : decode cX3_valueOf 52 = .ok (.ireturn, 1) := by decide +kernel
theorem dX3_valueOf_53 : decode cX3_valueOf 53 = .ok (.aload_n 2, 1) := by decide +kernel
theorem dX3_valueOf_54 : decode cX3_valueOf 54 = .ok (.getfield 61, 3) := by decide +kernel
theorem dX3_valueOf_57 : decode cX3_valueOf 57 = .ok (.ireturn, 1) := by decide +kernel
theorem dX3_valueOf_58 : decode cX3_valueOf 58 = .ok (.aload_n 2, 1) := by decide +kernel
theorem dX3_valueOf_59 : decode cX3_valueOf 59 = .ok (.getfield 71, 3) := by decide +kernel
theorem dX3_valueOf_62 : decode cX3_valueOf 62 = .ok (.ireturn, 1) := by decide +kernel
theorem dX3_valueOf_63 : decode cX3_valueOf 63 = .ok (.iload_n 1, 1) := by decide +kernel
theorem dX3_valueOf_64 : decode cX3_valueOf 64 = .ok (.bipush 100, 2) := by decide +kernel
theorem dX3_valueOf_66 : decode cX3_valueOf 66 = .ok (.isub, 1) := by decide +kernel
theorem dX3_valueOf_67 : decode cX3_valueOf 67 = .ok (.ireturn, 1) := by decide +kernel
noncomputable def fX3_valueOf (V : VT) (i : Nat) (x1 : Int32) (x2 : Int32) (x3 : Int32) (x4 : Int32) : Option Int32 := if x1 = (12 : Int32) then (some x2) else if x1 = (13 : Int32) then (some x3) else if x1 = (14 : Int32) then (some x4) else if x1 = (15 : Int32) then (some (V 17 6)) else if x1 = (16 : Int32) then (some (V i 8)) else if x1 = (17 : Int32) then (some (V i 10)) else (some (x1 - (100 : Int32)))
set_option maxHeartbeats 4000000 in
set_option maxRecDepth 100000 in
theorem kX3_valueOf {l : Launch} {G : GT} {B : BGt} (hB : BGok B) {V : VT} {i : Nat} (hs_i : isSt i) {x1 : Int32} {x2 : Int32} {x3 : Int32} {x4 : Int32} {r : Int32} (h : fX3_valueOf V i x1 x2 x3 x4 = some r) : CI l G B yX3_valueOf (.code yX3_valueOf cX3_valueOf 6 (some .int)) 2 [.ref (G.2.2 17), .int x1, .ref (G.2.2 i), .int x2, .int x3, .int x4] V r V := by
  intro sz
  refine met_of (Qs := fun sz => QI G sz r V) hB (by decide) (Nat.le_of_ble_eq_true rfl) ?_ sz
  intro p e s m args below meth c ls E hw hl
  have hx := en_x E
  have hb := en_b E
  generalize hQ : MQ _ _ _ _ _ _ _ = Q
  have kr : Q = MQ below (QI G s.heap.size r V) args s 0 0 (gA G s.heap.size) := hQ.symm
  have hl : lv_has ls 6 [(0, .ref (G.2.2 17)), (1, .int x1), (2, .ref (G.2.2 i)), (3, .int x2), (4, .int x3), (5, .int x4)] := hl
  obtain ⟨H, eH⟩ : ∃ H, H = s.heap := ⟨_, rfl⟩
  obtain ⟨locs, elocs⟩ : ∃ z : List Loc, z = [] := ⟨_, rfl⟩
  have hw : HW G s.heap V H locs := by rw [eH, elocs]; exact hw
  show W p l e _ s m args below meth c s.heap [] 0 0 Q (F0 m 0 ls [])
  rw [← eH, ← elocs]
  unfold fX3_valueOf at h
  refine lv_iload_n hx hb dX3_valueOf_0 rfl (lv_at hl 1 rfl) ?_
  by_cases c1 : x1 = (12 : Int32)
  · rw [if_pos c1] at h
    refine lv_tableIn (tgt := 40) hx hb dX3_valueOf_1 (by rw [c1]; decide) (by rw [c1]; decide) (by rw [c1]; rfl) (by decide) ?_
    refine lv_iload_n hx hb dX3_valueOf_40 rfl (lv_at hl 3 rfl) ?_
    have h := Option.some.inj h
    subst h
    rw [kr]
    exact r_ri E hw dX3_valueOf_41
  · rw [if_neg c1] at h
    by_cases c2 : x1 = (13 : Int32)
    · rw [if_pos c2] at h
      refine lv_tableIn (tgt := 42) hx hb dX3_valueOf_1 (by rw [c2]; decide) (by rw [c2]; decide) (by rw [c2]; rfl) (by decide) ?_
      refine lv_iload hx hb dX3_valueOf_42 (lv_at hl 4 rfl) ?_
      have h := Option.some.inj h
      subst h
      rw [kr]
      exact r_ri E hw dX3_valueOf_44
    · rw [if_neg c2] at h
      by_cases c3 : x1 = (14 : Int32)
      · rw [if_pos c3] at h
        refine lv_tableIn (tgt := 45) hx hb dX3_valueOf_1 (by rw [c3]; decide) (by rw [c3]; decide) (by rw [c3]; rfl) (by decide) ?_
        refine lv_iload hx hb dX3_valueOf_45 (lv_at hl 5 rfl) ?_
        have h := Option.some.inj h
        subst h
        rw [kr]
        exact r_ri E hw dX3_valueOf_47
      · rw [if_neg c3] at h
        by_cases c4 : x1 = (15 : Int32)
        · rw [if_pos c4] at h
          refine lv_tableIn (tgt := 48) hx hb dX3_valueOf_1 (by rw [c4]; decide) (by rw [c4]; decide) (by rw [c4]; rfl) (by decide) ?_
          refine lv_aload_n hx hb dX3_valueOf_48 rfl (lv_at hl 0 rfl) ?_
          refine r_gi E hw 17 6 (N := 10) (C := RX3) (T := TX3) (by decide) rfl rfl (by decide) rfl iw_3 rfl lf_RX3_32 dX3_valueOf_49 ?_
          have h := Option.some.inj h
          subst h
          rw [kr]
          exact r_ri E hw dX3_valueOf_52
        · rw [if_neg c4] at h
          by_cases c5 : x1 = (16 : Int32)
          · rw [if_pos c5] at h
            refine lv_tableIn (tgt := 53) hx hb dX3_valueOf_1 (by rw [c5]; decide) (by rw [c5]; decide) (by rw [c5]; rfl) (by decide) ?_
            refine lv_aload_n hx hb dX3_valueOf_53 rfl (lv_at hl 2 rfl) ?_
            refine r_giN E hw i 8 (N := 13) (C := RX6) (T := TX6) (st_lt hs_i) (st_c hs_i) (st_N hs_i) (by decide) (st_n hs_i (k := 8) (by decide)) iw_6 rfl lf_RX3_61 dX3_valueOf_54 ?_
            have h := Option.some.inj h
            subst h
            rw [kr]
            exact r_ri E hw dX3_valueOf_57
          · rw [if_neg c5] at h
            by_cases c6 : x1 = (17 : Int32)
            · rw [if_pos c6] at h
              refine lv_tableIn (tgt := 58) hx hb dX3_valueOf_1 (by rw [c6]; decide) (by rw [c6]; decide) (by rw [c6]; rfl) (by decide) ?_
              refine lv_aload_n hx hb dX3_valueOf_58 rfl (lv_at hl 2 rfl) ?_
              refine r_giN E hw i 10 (N := 13) (C := RX6) (T := TX6) (st_lt hs_i) (st_c hs_i) (st_N hs_i) (by decide) (st_n hs_i (k := 10) (by decide)) iw_6 rfl lf_RX3_71 dX3_valueOf_59 ?_
              have h := Option.some.inj h
              subst h
              rw [kr]
              exact r_ri E hw dX3_valueOf_62
            · rw [if_neg c6] at h
              have nc1 := lv_neT (a := 12) c1 (by decide)
              have nc2 := lv_neT (a := 13) c2 (by decide)
              have nc3 := lv_neT (a := 14) c3 (by decide)
              have nc4 := lv_neT (a := 15) c4 (by decide)
              have nc5 := lv_neT (a := 16) c5 (by decide)
              have nc6 := lv_neT (a := 17) c6 (by decide)
              refine lv_tableOut (tgt := 63) hx hb dX3_valueOf_1 (by omega) (by decide) ?_
              refine lv_iload_n hx hb dX3_valueOf_63 rfl (lv_at hl 1 rfl) ?_
              refine lv_bipush (v := (100 : Int32)) hx hb dX3_valueOf_64 (by decide) ?_
              refine lv_isub hx hb dX3_valueOf_66 ?_
              have h := Option.some.inj h
              subst h
              rw [kr]
              exact r_ri E hw dX3_valueOf_67
/-! ===== AllSawIt$Law.push(Z)V ===== -/
theorem dX3_push_0 : decode cX3_push 0 = .ok (.aload_n 0, 1) := by decide +kernel
theorem dX3_push_1 : decode cX3_push 1 = .ok (.aload_n 0, 1) := by decide +kernel
theorem dX3_push_2 : decode cX3_push 2 = .ok (.getfield 35, 3) := by decide +kernel
theorem dX3_push_5 : decode cX3_push 5 = .ok (.iconst 1, 1) := by decide +kernel
theorem dX3_push_6 : decode cX3_push 6 = .ok (.ishl, 1) := by decide +kernel
theorem dX3_push_7 : decode cX3_push 7 = .ok (.iload_n 1, 1) := by decide +kernel
theorem dX3_push_8 : decode cX3_push 8 = .ok (.ifCond .eq 7, 3) := by decide +kernel
theorem dX3_push_11 : decode cX3_push 11 = .ok (.iconst 1, 1) := by decide +kernel
theorem dX3_push_12 : decode cX3_push 12 = .ok (.goto 4, 3) := by decide +kernel
theorem dX3_push_15 : decode cX3_push 15 = .ok (.iconst 0, 1) := by decide +kernel
theorem dX3_push_16 : decode cX3_push 16 = .ok (.ior, 1) := by decide +kernel
theorem dX3_push_17 : decode cX3_push 17 = .ok (.putfield 35, 3) := by decide +kernel
theorem dX3_push_20 : decode cX3_push 20 = .ok (.return_, 1) := by decide +kernel
noncomputable def fX3_push (V : VT) (x1 : Int32) : Option VT := if x1 = 0 then (lt_ (va_up V 17 (upd (V 17) 7 (((V 17 7) <<< ((1 : Int32) &&& 31)) ||| (0 : Int32)))) fun V1 => some V1) else (lt_ (va_up V 17 (upd (V 17) 7 (((V 17 7) <<< ((1 : Int32) &&& 31)) ||| (1 : Int32)))) fun V2 => some V2)
set_option maxHeartbeats 4000000 in
set_option maxRecDepth 100000 in
theorem kX3_push {l : Launch} {G : GT} {B : BGt} (hB : BGok B) {V : VT} {x1 : Int32} {r : VT} (h : fX3_push V x1 = some r) : CV l G B yX3_push (.code yX3_push cX3_push 2 none) 2 [.ref (G.2.2 17), .int x1] V r := by
  intro sz
  refine met_of (Qs := fun sz => QV G sz r) hB (by decide) (Nat.le_of_ble_eq_true rfl) ?_ sz
  intro p e s m args below meth c ls E hw hl
  have hx := en_x E
  have hb := en_b E
  generalize hQ : MQ _ _ _ _ _ _ _ = Q
  have kr : Q = MQ below (QV G s.heap.size r) args s 0 0 (gA G s.heap.size) := hQ.symm
  have hl : lv_has ls 2 [(0, .ref (G.2.2 17)), (1, .int x1)] := hl
  obtain ⟨H, eH⟩ : ∃ H, H = s.heap := ⟨_, rfl⟩
  obtain ⟨locs, elocs⟩ : ∃ z : List Loc, z = [] := ⟨_, rfl⟩
  have hw : HW G s.heap V H locs := by rw [eH, elocs]; exact hw
  show W p l e _ s m args below meth c s.heap [] 0 0 Q (F0 m 0 ls [])
  rw [← eH, ← elocs]
  unfold fX3_push at h
  refine lv_aload_n hx hb dX3_push_0 rfl (lv_at hl 0 rfl) ?_
  refine lv_aload_n hx hb dX3_push_1 rfl (lv_at hl 0 rfl) ?_
  refine r_gi E hw 17 7 (N := 10) (C := RX3) (T := TX3) (by decide) rfl rfl (by decide) rfl iw_3 rfl lf_RX3_35 dX3_push_2 ?_
  refine lv_iconst (v := (1 : Int32)) hx hb dX3_push_5 (by decide) ?_
  refine lv_ishl hx hb dX3_push_6 ?_
  refine lv_iload_n hx hb dX3_push_7 rfl (lv_at hl 1 rfl) ?_
  refine lv_if_eq (tgt := 15) hx hb dX3_push_8 (by decide) (fun c3 => ?_) (fun c3 => ?_)
  · rw [if_pos c3] at h
    refine lv_iconst (v := (0 : Int32)) hx hb dX3_push_15 (by decide) ?_
    refine lv_ior hx hb dX3_push_16 ?_
    obtain ⟨V1, eV1, h⟩ := lt_some h
    refine r_pi E hw 17 7 (N := 10) (C := RX3) (T := TX3) (ty0 := tyX3) (ty := .int) (by decide) rfl rfl (by decide) rfl iw_3 rfl tyX3_ok nmX3 rfl rfl (vp_nar_int _) rfl lf_RX3_35 eV1 dX3_push_17 (fun H locs hw => ?_)
    have h := Option.some.inj h
    subst h
    rw [kr]
    exact r_rv E hw dX3_push_20
  · rw [if_neg c3] at h
    refine lv_iconst (v := (1 : Int32)) hx hb dX3_push_11 (by decide) ?_
    refine lv_goto (tgt := 16) hx hb dX3_push_12 (by decide) ?_
    refine lv_ior hx hb dX3_push_16 ?_
    obtain ⟨V2, eV2, h⟩ := lt_some h
    refine r_pi E hw 17 7 (N := 10) (C := RX3) (T := TX3) (ty0 := tyX3) (ty := .int) (by decide) rfl rfl (by decide) rfl iw_3 rfl tyX3_ok nmX3 rfl rfl (vp_nar_int _) rfl lf_RX3_35 eV2 dX3_push_17 (fun H locs hw => ?_)
    have h := Option.some.inj h
    subst h
    rw [kr]
    exact r_rv E hw dX3_push_20
/-! ===== AllSawIt$Law.putForTwo(Z)V ===== -/
theorem dX3_putForTwo_0 : decode cX3_putForTwo 0 = .ok (.aload_n 0, 1) := by decide +kernel
theorem dX3_putForTwo_1 : decode cX3_putForTwo 1 = .ok (.aload_n 0, 1) := by decide +kernel
theorem dX3_putForTwo_2 : decode cX3_putForTwo 2 = .ok (.getfield 35, 3) := by decide +kernel
theorem dX3_putForTwo_5 : decode cX3_putForTwo 5 = .ok (.iconst 2, 1) := by decide +kernel
theorem dX3_putForTwo_6 : decode cX3_putForTwo 6 = .ok (.iushr, 1) := by decide +kernel
theorem dX3_putForTwo_7 : decode cX3_putForTwo 7 = .ok (.iconst 1, 1) := by decide +kernel
theorem dX3_putForTwo_8 : decode cX3_putForTwo 8 = .ok (.ishl, 1) := by decide +kernel
theorem dX3_putForTwo_9 : decode cX3_putForTwo 9 = .ok (.iload_n 1, 1) := by decide +kernel
theorem dX3_putForTwo_10 : decode cX3_putForTwo 10 = .ok (.ifCond .eq 7, 3) := by decide +kernel
theorem dX3_putForTwo_13 : decode cX3_putForTwo 13 = .ok (.iconst 1, 1) := by decide +kernel
theorem dX3_putForTwo_14 : decode cX3_putForTwo 14 = .ok (.goto 4, 3) := by decide +kernel
theorem dX3_putForTwo_17 : decode cX3_putForTwo 17 = .ok (.iconst 0, 1) := by decide +kernel
theorem dX3_putForTwo_18 : decode cX3_putForTwo 18 = .ok (.ior, 1) := by decide +kernel
theorem dX3_putForTwo_19 : decode cX3_putForTwo 19 = .ok (.putfield 35, 3) := by decide +kernel
theorem dX3_putForTwo_22 : decode cX3_putForTwo 22 = .ok (.return_, 1) := by decide +kernel
noncomputable def fX3_putForTwo (V : VT) (x1 : Int32) : Option VT := if x1 = 0 then (lt_ (va_up V 17 (upd (V 17) 7 ((((V 17 7).toUInt32 >>> ((2 : Int32).toUInt32 &&& Int32.toUInt32 31)).toInt32 <<< ((1 : Int32) &&& 31)) ||| (0 : Int32)))) fun V1 => some V1) else (lt_ (va_up V 17 (upd (V 17) 7 ((((V 17 7).toUInt32 >>> ((2 : Int32).toUInt32 &&& Int32.toUInt32 31)).toInt32 <<< ((1 : Int32) &&& 31)) ||| (1 : Int32)))) fun V2 => some V2)
set_option maxHeartbeats 4000000 in
set_option maxRecDepth 100000 in
theorem kX3_putForTwo {l : Launch} {G : GT} {B : BGt} (hB : BGok B) {V : VT} {x1 : Int32} {r : VT} (h : fX3_putForTwo V x1 = some r) : CV l G B yX3_putForTwo (.code yX3_putForTwo cX3_putForTwo 2 none) 2 [.ref (G.2.2 17), .int x1] V r := by
  intro sz
  refine met_of (Qs := fun sz => QV G sz r) hB (by decide) (Nat.le_of_ble_eq_true rfl) ?_ sz
  intro p e s m args below meth c ls E hw hl
  have hx := en_x E
  have hb := en_b E
  generalize hQ : MQ _ _ _ _ _ _ _ = Q
  have kr : Q = MQ below (QV G s.heap.size r) args s 0 0 (gA G s.heap.size) := hQ.symm
  have hl : lv_has ls 2 [(0, .ref (G.2.2 17)), (1, .int x1)] := hl
  obtain ⟨H, eH⟩ : ∃ H, H = s.heap := ⟨_, rfl⟩
  obtain ⟨locs, elocs⟩ : ∃ z : List Loc, z = [] := ⟨_, rfl⟩
  have hw : HW G s.heap V H locs := by rw [eH, elocs]; exact hw
  show W p l e _ s m args below meth c s.heap [] 0 0 Q (F0 m 0 ls [])
  rw [← eH, ← elocs]
  unfold fX3_putForTwo at h
  refine lv_aload_n hx hb dX3_putForTwo_0 rfl (lv_at hl 0 rfl) ?_
  refine lv_aload_n hx hb dX3_putForTwo_1 rfl (lv_at hl 0 rfl) ?_
  refine r_gi E hw 17 7 (N := 10) (C := RX3) (T := TX3) (by decide) rfl rfl (by decide) rfl iw_3 rfl lf_RX3_35 dX3_putForTwo_2 ?_
  refine lv_iconst (v := (2 : Int32)) hx hb dX3_putForTwo_5 (by decide) ?_
  refine lv_iushr hx hb dX3_putForTwo_6 rfl ?_
  refine lv_iconst (v := (1 : Int32)) hx hb dX3_putForTwo_7 (by decide) ?_
  refine lv_ishl hx hb dX3_putForTwo_8 ?_
  refine lv_iload_n hx hb dX3_putForTwo_9 rfl (lv_at hl 1 rfl) ?_
  refine lv_if_eq (tgt := 17) hx hb dX3_putForTwo_10 (by decide) (fun c3 => ?_) (fun c3 => ?_)
  · rw [if_pos c3] at h
    refine lv_iconst (v := (0 : Int32)) hx hb dX3_putForTwo_17 (by decide) ?_
    refine lv_ior hx hb dX3_putForTwo_18 ?_
    obtain ⟨V1, eV1, h⟩ := lt_some h
    refine r_pi E hw 17 7 (N := 10) (C := RX3) (T := TX3) (ty0 := tyX3) (ty := .int) (by decide) rfl rfl (by decide) rfl iw_3 rfl tyX3_ok nmX3 rfl rfl (vp_nar_int _) rfl lf_RX3_35 eV1 dX3_putForTwo_19 (fun H locs hw => ?_)
    have h := Option.some.inj h
    subst h
    rw [kr]
    exact r_rv E hw dX3_putForTwo_22
  · rw [if_neg c3] at h
    refine lv_iconst (v := (1 : Int32)) hx hb dX3_putForTwo_13 (by decide) ?_
    refine lv_goto (tgt := 18) hx hb dX3_putForTwo_14 (by decide) ?_
    refine lv_ior hx hb dX3_putForTwo_18 ?_
    obtain ⟨V2, eV2, h⟩ := lt_some h
    refine r_pi E hw 17 7 (N := 10) (C := RX3) (T := TX3) (ty0 := tyX3) (ty := .int) (by decide) rfl rfl (by decide) rfl iw_3 rfl tyX3_ok nmX3 rfl rfl (vp_nar_int _) rfl lf_RX3_35 eV2 dX3_putForTwo_19 (fun H locs hw => ?_)
    have h := Option.some.inj h
    subst h
    rw [kr]
    exact r_rv E hw dX3_putForTwo_22
/-! ===== AllSawIt$Sight.pairsParted(I)J ===== -/
theorem dX5_pairsParted_0 : decode cX5_pairsParted 0 = .ok (.lconst 0, 1) := by decide +kernel
theorem dX5_pairsParted_1 : decode cX5_pairsParted 1 = .ok (.lstore_n 2, 1) := by decide +kernel
theorem dX5_pairsParted_2 : decode cX5_pairsParted 2 = .ok (.iconst 0, 1) := by decide +kernel
theorem dX5_pairsParted_3 : decode cX5_pairsParted 3 = .ok (.istore 4, 2) := by decide +kernel
theorem dX5_pairsParted_5 : decode cX5_pairsParted 5 = .ok (.iload 4, 2) := by decide +kernel
theorem dX5_pairsParted_7 : decode cX5_pairsParted 7 = .ok (.iload_n 1, 1) := by decide +kernel
theorem dX5_pairsParted_8 : decode cX5_pairsParted 8 = .ok (.if_icmp .ge 65, 3) := by decide +kernel
theorem dX5_pairsParted_11 : decode cX5_pairsParted 11 = .ok (.iload 4, 2) := by decide +kernel
theorem dX5_pairsParted_13 : decode cX5_pairsParted 13 = .ok (.aload_n 0, 1) := by decide +kernel
theorem dX5_pairsParted_14 : decode cX5_pairsParted 14 = .ok (.getfield 18, 3) := by decide +kernel
theorem dX5_pairsParted_17 : decode cX5_pairsParted 17 = .ok (.arraylength, 1) := by decide +kernel
theorem dX5_pairsParted_18 : decode cX5_pairsParted 18 = .ok (.if_icmp .ge 55, 3) := by decide +kernel
theorem dX5_pairsParted_21 : decode cX5_pairsParted 21 = .ok (.iconst 0, 1) := by decide +kernel
theorem dX5_pairsParted_22 : decode cX5_pairsParted 22 = .ok (.istore 5, 2) := by decide +kernel
theorem dX5_pairsParted_24 : decode cX5_pairsParted 24 = .ok (.iload 5, 2) := by decide +kernel
theorem dX5_pairsParted_26 : decode cX5_pairsParted 26 = .ok (.iload 4, 2) := by decide +kernel
theorem dX5_pairsParted_28 : decode cX5_pairsParted 28 = .ok (.if_icmp .ge 39, 3) := by decide +kernel
theorem dX5_pairsParted_31 : decode cX5_pairsParted 31 = .ok (.aload_n 0, 1) := by decide +kernel
theorem dX5_pairsParted_32 : decode cX5_pairsParted 32 = .ok (.getfield 18, 3) := by decide +kernel
theorem dX5_pairsParted_35 : decode cX5_pairsParted 35 = .ok (.iload 4, 2) := by decide +kernel
theorem dX5_pairsParted_37 : decode cX5_pairsParted 37 = .ok (.iaload, 1) := by decide +kernel
theorem dX5_pairsParted_38 : decode cX5_pairsParted 38 = .ok (.aload_n 0, 1) := by decide +kernel
theorem dX5_pairsParted_39 : decode cX5_pairsParted 39 = .ok (.getfield 18, 3) := by decide +kernel
theorem dX5_pairsParted_42 : decode cX5_pairsParted 42 = .ok (.iload 5, 2) := by decide +kernel
theorem dX5_pairsParted_44 : decode cX5_pairsParted 44 = .ok (.iaload, 1) := by decide +kernel
theorem dX5_pairsParted_45 : decode cX5_pairsParted 45 = .ok (.if_icmp .eq 16, 3) := by decide +kernel
theorem dX5_pairsParted_48 : decode cX5_pairsParted 48 = .ok (.lload_n 2, 1) := by decide +kernel
theorem dX5_pairsParted_49 : decode cX5_pairsParted 49 = .ok (.lconst 1, 1) := by decide +kernel
theorem dX5_pairsParted_50 : decode cX5_pairsParted 50 = .ok (.bipush 8, 2) := by decide +kernel
theorem dX5_pairsParted_52 : decode cX5_pairsParted 52 = .ok (.iload 4, 2) := by decide +kernel
theorem dX5_pairsParted_54 : decode cX5_pairsParted 54 = .ok (.imul, 1) := by decide +kernel
theorem dX5_pairsParted_55 : decode cX5_pairsParted 55 = .ok (.iload 5, 2) := by decide +kernel
theorem dX5_pairsParted_57 : decode cX5_pairsParted 57 = .ok (.iadd, 1) := by decide +kernel
theorem dX5_pairsParted_58 : decode cX5_pairsParted 58 = .ok (.lshl, 1) := by decide +kernel
theorem dX5_pairsParted_59 : decode cX5_pairsParted 59 = .ok (.lor, 1) := by decide +kernel
theorem dX5_pairsParted_60 : decode cX5_pairsParted 60 = .ok (.lstore_n 2, 1) := by decide +kernel
theorem dX5_pairsParted_61 : decode cX5_pairsParted 61 = .ok (.iinc 5 1, 3) := by decide +kernel
theorem dX5_pairsParted_64 : decode cX5_pairsParted 64 = .ok (.goto (-40), 3) := by decide +kernel
theorem dX5_pairsParted_67 : decode cX5_pairsParted 67 = .ok (.iinc 4 1, 3) := by decide +kernel
theorem dX5_pairsParted_70 : decode cX5_pairsParted 70 = .ok (.goto (-65), 3) := by decide +kernel
theorem dX5_pairsParted_73 : decode cX5_pairsParted 73 = .ok (.lload_n 2, 1) := by decide +kernel
theorem dX5_pairsParted_74 : decode cX5_pairsParted 74 = .ok (.lreturn, 1) := by decide +kernel
noncomputable def fX5_pairsParted_L24 (V : VT) (u1 : Int32) (u2 : Int64) (u4 : Int32) (u5 : Int32) : Option ((Int32 × Int64 × Int32 × Int32) ⊕ (Int32 × Int64 × Int32)) := if u4 ≤ u5 then (some (.inr ((u1, u2, u4)))) else (rd_ u4 8 (rd_ u5 8 (if (V 75 u4.toNatClampNeg) = (V 75 u5.toNatClampNeg) then (lt_ (u5 + (1 : Int32)) fun y3 => some (.inl (u1, u2, u4, y3))) else (lt_ (u2 ||| ((1 : Int64) <<< ((((8 : Int32) * u4) + u5).toInt64 &&& 63))) fun y4 => lt_ (u5 + (1 : Int32)) fun y5 => some (.inl (u1, y4, u4, y5))))))
noncomputable def iX5_pairsParted_L24 (V : VT) : (Int32 × Int64 × Int32 × Int32) → Option ((Int32 × Int64 × Int32 × Int32) ⊕ (Int32 × Int64 × Int32)) := fun q => fX5_pairsParted_L24 V (q.1) (q.2.1) (q.2.2.1) (q.2.2.2)
noncomputable def fX5_pairsParted_L5 (V : VT) (u1 : Int32) (u2 : Int64) (u4 : Int32) : Option ((Int32 × Int64 × Int32) ⊕ Int64) := if u1 ≤ u4 then (some (.inr (u2))) else (if (nI 8) ≤ u4 then (some (.inr (u2))) else (ob_R (it_ (iX5_pairsParted_L24 V) FV (u1, u2, u4, (0 : Int32))) fun x9 => (dt3_ x9 fun y10 y11 y12 => lt_ (y12 + (1 : Int32)) fun y13 => some (.inl (y10, y11, y13)))))
noncomputable def iX5_pairsParted_L5 (V : VT) : (Int32 × Int64 × Int32) → Option ((Int32 × Int64 × Int32) ⊕ Int64) := fun q => fX5_pairsParted_L5 V (q.1) (q.2.1) (q.2.2)
noncomputable def fX5_pairsParted (V : VT) (x1 : Int32) : Option Int64 := ob_R (it_ (iX5_pairsParted_L5 V) FV (x1, (0 : Int64), (0 : Int32))) fun x17 => some x17
set_option maxHeartbeats 4000000 in
set_option maxRecDepth 100000 in
theorem wX5_pairsParted_L24 {p : Program} {l : Launch} {e : Env} {s : State} {m : MethodId} {args : Array Value} {below : List Frame} {meth : Method} {c : Code} {G : GT} {B : BGt} {Q : State → Prop} (E : En p s m args c meth cX5_pairsParted 6 RX5 (some .long) G B) {V : VT} {x : (Int32 × Int64 × Int32)} (ke : ∀ q : (Int32 × Int64 × Int32), x = q → ∀ (H : Heap) (locs : List Loc) (ls : Array Slot), HW G s.heap V H locs → lv_has ls 6 [(0, .ref (G.2.2 21)), (1, .int (q.1)), (2, .long (q.2.1)), (4, .int (q.2.2))] → W p l e (rmD 2) s m args below meth c H locs 0 0 Q (F0 m 67 ls [])) : ∀ (n : Nat) (q : (Int32 × Int64 × Int32 × Int32)), it_ (iX5_pairsParted_L24 V) n q = some x → ∀ (H : Heap) (locs : List Loc) (ls : Array Slot), HW G s.heap V H locs → lv_has ls 6 [(0, .ref (G.2.2 21)), (1, .int (q.1)), (2, .long (q.2.1)), (4, .int (q.2.2.1)), (5, .int (q.2.2.2))] → W p l e (rmD 2) s m args below meth c H locs 0 0 Q (F0 m 24 ls []) := by
  have hx := en_x E
  have hb := en_b E
  have hB := en_B E
  refine it_W (fun q : (Int32 × Int64 × Int32 × Int32) => ∀ (H : Heap) (locs : List Loc) (ls : Array Slot), HW G s.heap V H locs → lv_has ls 6 [(0, .ref (G.2.2 21)), (1, .int (q.1)), (2, .long (q.2.1)), (4, .int (q.2.2.1)), (5, .int (q.2.2.2))] → W p l e (rmD 2) s m args below meth c H locs 0 0 Q (F0 m 24 ls [])) x ?_
  intro q r h kc kx
  obtain ⟨u1, u2, u4, u5⟩ := q
  intro H locs ls hw hl
  have h : fX5_pairsParted_L24 V u1 u2 u4 u5 = some r := h
  have hw : HW G s.heap V H locs := hw
  have hl : lv_has ls 6 [(0, .ref (G.2.2 21)), (1, .int u1), (2, .long u2), (4, .int u4), (5, .int u5)] := hl
  have ke : ∀ q : (Int32 × Int64 × Int32), r = .inr (q) → ∀ (H : Heap) (locs : List Loc) (ls : Array Slot), HW G s.heap V H locs → lv_has ls 6 [(0, .ref (G.2.2 21)), (1, .int (q.1)), (2, .long (q.2.1)), (4, .int (q.2.2))] → W p l e (rmD 2) s m args below meth c H locs 0 0 Q (F0 m 67 ls []) := fun q e => ke q (kx _ e).symm
  unfold fX5_pairsParted_L24 at h
  refine lv_iload hx hb dX5_pairsParted_24 (lv_at hl 4 rfl) ?_
  refine lv_iload hx hb dX5_pairsParted_26 (lv_at hl 3 rfl) ?_
  refine lv_icmp_ge (tgt := 67) hx hb dX5_pairsParted_28 (by decide) (fun c7 => ?_) (fun c7 => ?_)
  · rw [if_pos c7] at h
    exact ke (u1, u2, u4) (Option.some.inj h).symm H locs ls hw (lv_sub hl [0, 1, 2, 3] rfl)
  · rw [if_neg c7] at h
    refine lv_aload_n hx hb dX5_pairsParted_31 rfl (lv_at hl 0 rfl) ?_
    refine r_gr E hw 21 2 75 (N := 3) (C := RX5) (T := TX5) (by decide) rfl rfl (by decide) rfl iw_5 rfl lf_RX5_18 dX5_pairsParted_32 ?_
    refine lv_iload hx hb dX5_pairsParted_35 (lv_at hl 3 rfl) ?_
    obtain ⟨b1, h⟩ := rd_some h
    refine r_ia E hw 75 8 (by decide) (by decide) (by decide) rfl rfl b1 dX5_pairsParted_37 ?_
    refine lv_aload_n hx hb dX5_pairsParted_38 rfl (lv_at hl 0 rfl) ?_
    refine r_gr E hw 21 2 75 (N := 3) (C := RX5) (T := TX5) (by decide) rfl rfl (by decide) rfl iw_5 rfl lf_RX5_18 dX5_pairsParted_39 ?_
    refine lv_iload hx hb dX5_pairsParted_42 (lv_at hl 4 rfl) ?_
    obtain ⟨b2, h⟩ := rd_some h
    refine r_ia E hw 75 8 (by decide) (by decide) (by decide) rfl rfl b2 dX5_pairsParted_44 ?_
    refine lv_icmp_eq (tgt := 61) hx hb dX5_pairsParted_45 (by decide) (fun c6 => ?_) (fun c6 => ?_)
    · rw [if_pos c6] at h
      obtain ⟨y3, ey3, h⟩ := lt_some h
      refine lv_iinc (v := y3) (lv' := [(5, .int y3), (0, .ref (G.2.2 21)), (1, .int u1), (2, .long u2), (4, .int u4)]) hx hb dX5_pairsParted_61 hl (k := 4) rfl (by rw [ey3]; rfl) (by decide) rfl (fun ls hl => ?_)
      refine lv_goto (tgt := 24) hx hb dX5_pairsParted_64 (by decide) ?_
      exact kc (u1, u2, u4, y3) (Option.some.inj h).symm H locs ls hw (lv_sub hl [1, 2, 3, 4, 0] rfl)
    · rw [if_neg c6] at h
      refine lv_lload_n hx hb dX5_pairsParted_48 rfl (lv_at hl 2 rfl) ?_
      refine lv_lconst (v := (1 : Int64)) hx hb dX5_pairsParted_49 (by decide) ?_
      refine lv_bipush (v := (8 : Int32)) hx hb dX5_pairsParted_50 (by decide) ?_
      refine lv_iload hx hb dX5_pairsParted_52 (lv_at hl 3 rfl) ?_
      refine lv_imul hx hb dX5_pairsParted_54 ?_
      refine lv_iload hx hb dX5_pairsParted_55 (lv_at hl 4 rfl) ?_
      refine lv_iadd hx hb dX5_pairsParted_57 ?_
      refine lv_lshl hx hb dX5_pairsParted_58 rfl ?_
      refine lv_lor hx hb dX5_pairsParted_59 ?_
      obtain ⟨y4, ey4, h⟩ := lt_some h
      refine lv_eql ey4 ?_
      refine lv_lstore_n (lv' := [(2, .long y4), (0, .ref (G.2.2 21)), (1, .int u1), (4, .int u4), (5, .int u5)]) hx hb dX5_pairsParted_60 rfl hl (by decide) rfl (fun ls hl => ?_)
      obtain ⟨y5, ey5, h⟩ := lt_some h
      refine lv_iinc (v := y5) (lv' := [(5, .int y5), (2, .long y4), (0, .ref (G.2.2 21)), (1, .int u1), (4, .int u4)]) hx hb dX5_pairsParted_61 hl (k := 4) rfl (by rw [ey5]; rfl) (by decide) rfl (fun ls hl => ?_)
      refine lv_goto (tgt := 24) hx hb dX5_pairsParted_64 (by decide) ?_
      exact kc (u1, y4, u4, y5) (Option.some.inj h).symm H locs ls hw (lv_sub hl [2, 3, 1, 4, 0] rfl)
set_option maxHeartbeats 4000000 in
set_option maxRecDepth 100000 in
theorem wX5_pairsParted_L5 {p : Program} {l : Launch} {e : Env} {s : State} {m : MethodId} {args : Array Value} {below : List Frame} {meth : Method} {c : Code} {G : GT} {B : BGt} {Q : State → Prop} (E : En p s m args c meth cX5_pairsParted 6 RX5 (some .long) G B) {V : VT} {x : Int64} (kr : ∀ q : Int64, x = q → Q = MQ below (QL G s.heap.size q V) args s 0 0 (gA G s.heap.size)) : ∀ (n : Nat) (q : (Int32 × Int64 × Int32)), it_ (iX5_pairsParted_L5 V) n q = some x → ∀ (H : Heap) (locs : List Loc) (ls : Array Slot), HW G s.heap V H locs → lv_has ls 6 [(0, .ref (G.2.2 21)), (1, .int (q.1)), (2, .long (q.2.1)), (4, .int (q.2.2))] → W p l e (rmD 2) s m args below meth c H locs 0 0 Q (F0 m 5 ls []) := by
  have hx := en_x E
  have hb := en_b E
  have hB := en_B E
  refine it_W (fun q : (Int32 × Int64 × Int32) => ∀ (H : Heap) (locs : List Loc) (ls : Array Slot), HW G s.heap V H locs → lv_has ls 6 [(0, .ref (G.2.2 21)), (1, .int (q.1)), (2, .long (q.2.1)), (4, .int (q.2.2))] → W p l e (rmD 2) s m args below meth c H locs 0 0 Q (F0 m 5 ls [])) x ?_
  intro q r h kc kx
  obtain ⟨u1, u2, u4⟩ := q
  intro H locs ls hw hl
  have h : fX5_pairsParted_L5 V u1 u2 u4 = some r := h
  have hw : HW G s.heap V H locs := hw
  have hl : lv_has ls 6 [(0, .ref (G.2.2 21)), (1, .int u1), (2, .long u2), (4, .int u4)] := hl
  have kr : ∀ q : Int64, r = .inr (q) → Q = MQ below (QL G s.heap.size q V) args s 0 0 (gA G s.heap.size) := fun q e => kr q (kx _ e).symm
  unfold fX5_pairsParted_L5 at h
  refine lv_iload hx hb dX5_pairsParted_5 (lv_at hl 3 rfl) ?_
  refine lv_iload_n hx hb dX5_pairsParted_7 rfl (lv_at hl 1 rfl) ?_
  refine lv_icmp_ge (tgt := 73) hx hb dX5_pairsParted_8 (by decide) (fun c15 => ?_) (fun c15 => ?_)
  · rw [if_pos c15] at h
    refine lv_lload_n hx hb dX5_pairsParted_73 rfl (lv_at hl 2 rfl) ?_
    rw [kr u2 (Option.some.inj h).symm]
    exact r_rl E hw dX5_pairsParted_74
  · rw [if_neg c15] at h
    refine lv_iload hx hb dX5_pairsParted_11 (lv_at hl 3 rfl) ?_
    refine lv_aload_n hx hb dX5_pairsParted_13 rfl (lv_at hl 0 rfl) ?_
    refine r_gr E hw 21 2 75 (N := 3) (C := RX5) (T := TX5) (by decide) rfl rfl (by decide) rfl iw_5 rfl lf_RX5_18 dX5_pairsParted_14 ?_
    refine r_al E hw 75 8 (by decide) (by decide) (by decide) rfl dX5_pairsParted_17 ?_
    refine lv_icmp_ge (tgt := 73) hx hb dX5_pairsParted_18 (by decide) (fun c14 => ?_) (fun c14 => ?_)
    · rw [if_pos c14] at h
      refine lv_lload_n hx hb dX5_pairsParted_73 rfl (lv_at hl 2 rfl) ?_
      rw [kr u2 (Option.some.inj h).symm]
      exact r_rl E hw dX5_pairsParted_74
    · rw [if_neg c14] at h
      refine lv_iconst (v := (0 : Int32)) hx hb dX5_pairsParted_21 (by decide) ?_
      refine lv_istore (lv' := [(5, .int (0 : Int32)), (0, .ref (G.2.2 21)), (1, .int u1), (2, .long u2), (4, .int u4)]) hx hb dX5_pairsParted_22 hl (by decide) rfl (fun ls hl => ?_)
      obtain ⟨x9, h8, h⟩ := ob_R_some h
      obtain ⟨y10, y11, y12⟩ := x9
      refine wX5_pairsParted_L24 E (fun q e H locs ls hw hl => ?_) FV (u1, u2, u4, (0 : Int32)) h8 H locs ls hw (lv_sub hl [1, 2, 3, 4, 0] rfl)
      subst e
      have hw : HW G s.heap V H locs := hw
      have hl : lv_has ls 6 [(0, .ref (G.2.2 21)), (1, .int y10), (2, .long y11), (4, .int y12)] := hl
      have h := dt3_eq h
      obtain ⟨y13, ey13, h⟩ := lt_some h
      refine lv_iinc (v := y13) (lv' := [(4, .int y13), (0, .ref (G.2.2 21)), (1, .int y10), (2, .long y11)]) hx hb dX5_pairsParted_67 hl (k := 3) rfl (by rw [ey13]; rfl) (by decide) rfl (fun ls hl => ?_)
      refine lv_goto (tgt := 5) hx hb dX5_pairsParted_70 (by decide) ?_
      exact kc (y10, y11, y13) (Option.some.inj h).symm H locs ls hw (lv_sub hl [1, 2, 3, 0] rfl)
set_option maxHeartbeats 4000000 in
set_option maxRecDepth 100000 in
theorem kX5_pairsParted {l : Launch} {G : GT} {B : BGt} (hB : BGok B) {V : VT} {x1 : Int32} {r : Int64} (h : fX5_pairsParted V x1 = some r) : CL l G B yX5_pairsParted (.code yX5_pairsParted cX5_pairsParted 6 (some .long)) 2 [.ref (G.2.2 21), .int x1] V r V := by
  intro sz
  refine met_of (Qs := fun sz => QL G sz r V) hB (by decide) (Nat.le_of_ble_eq_true rfl) ?_ sz
  intro p e s m args below meth c ls E hw hl
  have hx := en_x E
  have hb := en_b E
  generalize hQ : MQ _ _ _ _ _ _ _ = Q
  have kr : Q = MQ below (QL G s.heap.size r V) args s 0 0 (gA G s.heap.size) := hQ.symm
  have hl : lv_has ls 6 [(0, .ref (G.2.2 21)), (1, .int x1)] := hl
  obtain ⟨H, eH⟩ : ∃ H, H = s.heap := ⟨_, rfl⟩
  obtain ⟨locs, elocs⟩ : ∃ z : List Loc, z = [] := ⟨_, rfl⟩
  have hw : HW G s.heap V H locs := by rw [eH, elocs]; exact hw
  show W p l e _ s m args below meth c s.heap [] 0 0 Q (F0 m 0 ls [])
  rw [← eH, ← elocs]
  unfold fX5_pairsParted at h
  refine lv_lconst (v := (0 : Int64)) hx hb dX5_pairsParted_0 (by decide) ?_
  refine lv_lstore_n (lv' := [(2, .long (0 : Int64)), (0, .ref (G.2.2 21)), (1, .int x1)]) hx hb dX5_pairsParted_1 rfl hl (by decide) rfl (fun ls hl => ?_)
  refine lv_iconst (v := (0 : Int32)) hx hb dX5_pairsParted_2 (by decide) ?_
  refine lv_istore (lv' := [(4, .int (0 : Int32)), (2, .long (0 : Int64)), (0, .ref (G.2.2 21)), (1, .int x1)]) hx hb dX5_pairsParted_3 hl (by decide) rfl (fun ls hl => ?_)
  obtain ⟨x17, h16, h⟩ := ob_R_some h
  have h := Option.some.inj h
  subst h
  exact wX5_pairsParted_L5 E (fun q e => by subst e; exact kr) FV (x1, (0 : Int64), (0 : Int32)) h16 H locs ls hw (lv_sub hl [2, 3, 1, 0] rfl)
/-! ===== AllSawIt$Sight.viewOf(I)I ===== -/
theorem dX5_viewOf_0 : decode cX5_viewOf 0 = .ok (.iconst 0, 1) := by decide +kernel
theorem dX5_viewOf_1 : decode cX5_viewOf 1 = .ok (.istore_n 2, 1) := by decide +kernel
theorem dX5_viewOf_2 : decode cX5_viewOf 2 = .ok (.iconst 0, 1) := by decide +kernel
theorem dX5_viewOf_3 : decode cX5_viewOf 3 = .ok (.istore_n 3, 1) := by decide +kernel
theorem dX5_viewOf_4 : decode cX5_viewOf 4 = .ok (.iload_n 3, 1) := by decide +kernel
theorem dX5_viewOf_5 : decode cX5_viewOf 5 = .ok (.aload_n 0, 1) := by decide +kernel
theorem dX5_viewOf_6 : decode cX5_viewOf 6 = .ok (.getfield 18, 3) := by decide +kernel
theorem dX5_viewOf_9 : decode cX5_viewOf 9 = .ok (.arraylength, 1) := by decide +kernel
theorem dX5_viewOf_10 : decode cX5_viewOf 10 = .ok (.if_icmp .ge 27, 3) := by decide +kernel
theorem dX5_viewOf_13 : decode cX5_viewOf 13 = .ok (.iload_n 1, 1) := by decide +kernel
theorem dX5_viewOf_14 : decode cX5_viewOf 14 = .ok (.iload_n 3, 1) := by decide +kernel
theorem dX5_viewOf_15 : decode cX5_viewOf 15 = .ok (.ishr, 1) := by decide +kernel
theorem dX5_viewOf_16 : decode cX5_viewOf 16 = .ok (.iconst 1, 1) := by decide +kernel
theorem dX5_viewOf_17 : decode cX5_viewOf 17 = .ok (.iand, 1) := by decide +kernel
theorem dX5_viewOf_18 : decode cX5_viewOf 18 = .ok (.iconst 1, 1) := by decide +kernel
theorem dX5_viewOf_19 : decode cX5_viewOf 19 = .ok (.if_icmp .ne 12, 3) := by decide +kernel
theorem dX5_viewOf_22 : decode cX5_viewOf 22 = .ok (.iload_n 2, 1) := by decide +kernel
theorem dX5_viewOf_23 : decode cX5_viewOf 23 = .ok (.aload_n 0, 1) := by decide +kernel
theorem dX5_viewOf_24 : decode cX5_viewOf 24 = .ok (.getfield 18, 3) := by decide +kernel
theorem dX5_viewOf_27 : decode cX5_viewOf 27 = .ok (.iload_n 3, 1) := by decide +kernel
theorem dX5_viewOf_28 : decode cX5_viewOf 28 = .ok (.iaload, 1) := by decide +kernel
theorem dX5_viewOf_29 : decode cX5_viewOf 29 = .ok (.ior, 1) := by decide +kernel
theorem dX5_viewOf_30 : decode cX5_viewOf 30 = .ok (.istore_n 2, 1) := by decide +kernel
theorem dX5_viewOf_31 : decode cX5_viewOf 31 = .ok (.iinc 3 1, 3) := by decide +kernel
theorem dX5_viewOf_34 : decode cX5_viewOf 34 = .ok (.goto (-30), 3) := by decide +kernel
theorem dX5_viewOf_37 : decode cX5_viewOf 37 = .ok (.iload_n 2, 1) := by decide +kernel
theorem dX5_viewOf_38 : decode cX5_viewOf 38 = .ok (.ireturn, 1) := by decide +kernel
noncomputable def fX5_viewOf_L4 (V : VT) (u1 : Int32) (u2 : Int32) (u3 : Int32) : Option ((Int32 × Int32 × Int32) ⊕ Int32) := if (nI 8) ≤ u3 then (some (.inr (u2))) else (if ((u1 >>> (u3 &&& 31)) &&& (1 : Int32)) = (1 : Int32) then (rd_ u3 8 (lt_ (u2 ||| (V 75 u3.toNatClampNeg)) fun y3 => lt_ (u3 + (1 : Int32)) fun y4 => some (.inl (u1, y3, y4)))) else (lt_ (u3 + (1 : Int32)) fun y1 => some (.inl (u1, u2, y1))))
noncomputable def iX5_viewOf_L4 (V : VT) : (Int32 × Int32 × Int32) → Option ((Int32 × Int32 × Int32) ⊕ Int32) := fun q => fX5_viewOf_L4 V (q.1) (q.2.1) (q.2.2)
noncomputable def fX5_viewOf (V : VT) (x1 : Int32) : Option Int32 := ob_R (it_ (iX5_viewOf_L4 V) FV (x1, (0 : Int32), (0 : Int32))) fun x8 => some x8
set_option maxHeartbeats 4000000 in
set_option maxRecDepth 100000 in
theorem wX5_viewOf_L4 {p : Program} {l : Launch} {e : Env} {s : State} {m : MethodId} {args : Array Value} {below : List Frame} {meth : Method} {c : Code} {G : GT} {B : BGt} {Q : State → Prop} (E : En p s m args c meth cX5_viewOf 4 RX5 (some .int) G B) {V : VT} {x : Int32} (kr : ∀ q : Int32, x = q → Q = MQ below (QI G s.heap.size q V) args s 0 0 (gA G s.heap.size)) : ∀ (n : Nat) (q : (Int32 × Int32 × Int32)), it_ (iX5_viewOf_L4 V) n q = some x → ∀ (H : Heap) (locs : List Loc) (ls : Array Slot), HW G s.heap V H locs → lv_has ls 4 [(0, .ref (G.2.2 21)), (1, .int (q.1)), (2, .int (q.2.1)), (3, .int (q.2.2))] → W p l e (rmD 2) s m args below meth c H locs 0 0 Q (F0 m 4 ls []) := by
  have hx := en_x E
  have hb := en_b E
  have hB := en_B E
  refine it_W (fun q : (Int32 × Int32 × Int32) => ∀ (H : Heap) (locs : List Loc) (ls : Array Slot), HW G s.heap V H locs → lv_has ls 4 [(0, .ref (G.2.2 21)), (1, .int (q.1)), (2, .int (q.2.1)), (3, .int (q.2.2))] → W p l e (rmD 2) s m args below meth c H locs 0 0 Q (F0 m 4 ls [])) x ?_
  intro q r h kc kx
  obtain ⟨u1, u2, u3⟩ := q
  intro H locs ls hw hl
  have h : fX5_viewOf_L4 V u1 u2 u3 = some r := h
  have hw : HW G s.heap V H locs := hw
  have hl : lv_has ls 4 [(0, .ref (G.2.2 21)), (1, .int u1), (2, .int u2), (3, .int u3)] := hl
  have kr : ∀ q : Int32, r = .inr (q) → Q = MQ below (QI G s.heap.size q V) args s 0 0 (gA G s.heap.size) := fun q e => kr q (kx _ e).symm
  unfold fX5_viewOf_L4 at h
  refine lv_iload_n hx hb dX5_viewOf_4 rfl (lv_at hl 3 rfl) ?_
  refine lv_aload_n hx hb dX5_viewOf_5 rfl (lv_at hl 0 rfl) ?_
  refine r_gr E hw 21 2 75 (N := 3) (C := RX5) (T := TX5) (by decide) rfl rfl (by decide) rfl iw_5 rfl lf_RX5_18 dX5_viewOf_6 ?_
  refine r_al E hw 75 8 (by decide) (by decide) (by decide) rfl dX5_viewOf_9 ?_
  refine lv_icmp_ge (tgt := 37) hx hb dX5_viewOf_10 (by decide) (fun c6 => ?_) (fun c6 => ?_)
  · rw [if_pos c6] at h
    refine lv_iload_n hx hb dX5_viewOf_37 rfl (lv_at hl 2 rfl) ?_
    rw [kr u2 (Option.some.inj h).symm]
    exact r_ri E hw dX5_viewOf_38
  · rw [if_neg c6] at h
    refine lv_iload_n hx hb dX5_viewOf_13 rfl (lv_at hl 1 rfl) ?_
    refine lv_iload_n hx hb dX5_viewOf_14 rfl (lv_at hl 3 rfl) ?_
    refine lv_ishr hx hb dX5_viewOf_15 ?_
    refine lv_iconst (v := (1 : Int32)) hx hb dX5_viewOf_16 (by decide) ?_
    refine lv_iand hx hb dX5_viewOf_17 ?_
    refine lv_iconst (v := (1 : Int32)) hx hb dX5_viewOf_18 (by decide) ?_
    refine lv_icmp_ne (tgt := 31) hx hb dX5_viewOf_19 (by decide) (fun c5 => ?_) (fun c5 => ?_)
    · rw [if_neg c5] at h
      obtain ⟨y1, ey1, h⟩ := lt_some h
      refine lv_iinc (v := y1) (lv' := [(3, .int y1), (0, .ref (G.2.2 21)), (1, .int u1), (2, .int u2)]) hx hb dX5_viewOf_31 hl (k := 3) rfl (by rw [ey1]; rfl) (by decide) rfl (fun ls hl => ?_)
      refine lv_goto (tgt := 4) hx hb dX5_viewOf_34 (by decide) ?_
      exact kc (u1, u2, y1) (Option.some.inj h).symm H locs ls hw (lv_sub hl [1, 2, 3, 0] rfl)
    · rw [if_pos c5] at h
      refine lv_iload_n hx hb dX5_viewOf_22 rfl (lv_at hl 2 rfl) ?_
      refine lv_aload_n hx hb dX5_viewOf_23 rfl (lv_at hl 0 rfl) ?_
      refine r_gr E hw 21 2 75 (N := 3) (C := RX5) (T := TX5) (by decide) rfl rfl (by decide) rfl iw_5 rfl lf_RX5_18 dX5_viewOf_24 ?_
      refine lv_iload_n hx hb dX5_viewOf_27 rfl (lv_at hl 3 rfl) ?_
      obtain ⟨b2, h⟩ := rd_some h
      refine r_ia E hw 75 8 (by decide) (by decide) (by decide) rfl rfl b2 dX5_viewOf_28 ?_
      refine lv_ior hx hb dX5_viewOf_29 ?_
      obtain ⟨y3, ey3, h⟩ := lt_some h
      refine lv_eqi ey3 ?_
      refine lv_istore_n (lv' := [(2, .int y3), (0, .ref (G.2.2 21)), (1, .int u1), (3, .int u3)]) hx hb dX5_viewOf_30 rfl hl (by decide) rfl (fun ls hl => ?_)
      obtain ⟨y4, ey4, h⟩ := lt_some h
      refine lv_iinc (v := y4) (lv' := [(3, .int y4), (2, .int y3), (0, .ref (G.2.2 21)), (1, .int u1)]) hx hb dX5_viewOf_31 hl (k := 3) rfl (by rw [ey4]; rfl) (by decide) rfl (fun ls hl => ?_)
      refine lv_goto (tgt := 4) hx hb dX5_viewOf_34 (by decide) ?_
      exact kc (u1, y3, y4) (Option.some.inj h).symm H locs ls hw (lv_sub hl [2, 3, 1, 0] rfl)
set_option maxHeartbeats 4000000 in
set_option maxRecDepth 100000 in
theorem kX5_viewOf {l : Launch} {G : GT} {B : BGt} (hB : BGok B) {V : VT} {x1 : Int32} {r : Int32} (h : fX5_viewOf V x1 = some r) : CI l G B yX5_viewOf (.code yX5_viewOf cX5_viewOf 4 (some .int)) 2 [.ref (G.2.2 21), .int x1] V r V := by
  intro sz
  refine met_of (Qs := fun sz => QI G sz r V) hB (by decide) (Nat.le_of_ble_eq_true rfl) ?_ sz
  intro p e s m args below meth c ls E hw hl
  have hx := en_x E
  have hb := en_b E
  generalize hQ : MQ _ _ _ _ _ _ _ = Q
  have kr : Q = MQ below (QI G s.heap.size r V) args s 0 0 (gA G s.heap.size) := hQ.symm
  have hl : lv_has ls 4 [(0, .ref (G.2.2 21)), (1, .int x1)] := hl
  obtain ⟨H, eH⟩ : ∃ H, H = s.heap := ⟨_, rfl⟩
  obtain ⟨locs, elocs⟩ : ∃ z : List Loc, z = [] := ⟨_, rfl⟩
  have hw : HW G s.heap V H locs := by rw [eH, elocs]; exact hw
  show W p l e _ s m args below meth c s.heap [] 0 0 Q (F0 m 0 ls [])
  rw [← eH, ← elocs]
  unfold fX5_viewOf at h
  refine lv_iconst (v := (0 : Int32)) hx hb dX5_viewOf_0 (by decide) ?_
  refine lv_istore_n (lv' := [(2, .int (0 : Int32)), (0, .ref (G.2.2 21)), (1, .int x1)]) hx hb dX5_viewOf_1 rfl hl (by decide) rfl (fun ls hl => ?_)
  refine lv_iconst (v := (0 : Int32)) hx hb dX5_viewOf_2 (by decide) ?_
  refine lv_istore_n (lv' := [(3, .int (0 : Int32)), (2, .int (0 : Int32)), (0, .ref (G.2.2 21)), (1, .int x1)]) hx hb dX5_viewOf_3 rfl hl (by decide) rfl (fun ls hl => ?_)
  obtain ⟨x8, h7, h⟩ := ob_R_some h
  have h := Option.some.inj h
  subst h
  exact wX5_viewOf_L4 E (fun q e => by subst e; exact kr) FV (x1, (0 : Int32), (0 : Int32)) h7 H locs ls hw (lv_sub hl [2, 3, 1, 0] rfl)
/-! ===== AllSawIt$Tape.putNumber(I)V ===== -/
theorem dX8_putNumber_0 : decode cX8_putNumber 0 = .ok (.bipush 24, 2) := by decide +kernel
theorem dX8_putNumber_2 : decode cX8_putNumber 2 = .ok (.istore_n 2, 1) := by decide +kernel
theorem dX8_putNumber_3 : decode cX8_putNumber 3 = .ok (.iload_n 2, 1) := by decide +kernel
theorem dX8_putNumber_4 : decode cX8_putNumber 4 = .ok (.ifCond .lt 51, 3) := by decide +kernel
theorem dX8_putNumber_7 : decode cX8_putNumber 7 = .ok (.aload_n 0, 1) := by decide +kernel
theorem dX8_putNumber_8 : decode cX8_putNumber 8 = .ok (.getfield 15, 3) := by decide +kernel
theorem dX8_putNumber_11 : decode cX8_putNumber 11 = .ok (.ifCond .lt 38, 3) := by decide +kernel
theorem dX8_putNumber_14 : decode cX8_putNumber 14 = .ok (.aload_n 0, 1) := by decide +kernel
theorem dX8_putNumber_15 : decode cX8_putNumber 15 = .ok (.getfield 15, 3) := by decide +kernel
theorem dX8_putNumber_18 : decode cX8_putNumber 18 = .ok (.aload_n 0, 1) := by decide +kernel
theorem dX8_putNumber_19 : decode cX8_putNumber 19 = .ok (.getfield 9, 3) := by decide +kernel
theorem dX8_putNumber_22 : decode cX8_putNumber 22 = .ok (.arraylength, 1) := by decide +kernel
theorem dX8_putNumber_23 : decode cX8_putNumber 23 = .ok (.if_icmp .ge 26, 3) := by decide +kernel
theorem dX8_putNumber_26 : decode cX8_putNumber 26 = .ok (.aload_n 0, 1) := by decide +kernel
theorem dX8_putNumber_27 : decode cX8_putNumber 27 = .ok (.getfield 9, 3) := by decide +kernel
theorem dX8_putNumber_30 : decode cX8_putNumber 30 = .ok (.aload_n 0, 1) := by decide +kernel
theorem dX8_putNumber_31 : decode cX8_putNumber 31 = .ok (.getfield 15, 3) := by decide +kernel
theorem dX8_putNumber_34 : decode cX8_putNumber 34 = .ok (.iload_n 1, 1) := by decide +kernel
theorem dX8_putNumber_35 : decode cX8_putNumber 35 = .ok (.iload_n 2, 1) := by decide +kernel
theorem dX8_putNumber_36 : decode cX8_putNumber 36 = .ok (.ishr, 1) := by decide +kernel
theorem dX8_putNumber_37 : decode cX8_putNumber 37 = .ok (.i2b, 1) := by decide +kernel
theorem dX8_putNumber_38 : decode cX8_putNumber 38 = .ok (.bastore, 1) := by decide +kernel
theorem dX8_putNumber_39 : decode cX8_putNumber 39 = .ok (.aload_n 0, 1) := by decide +kernel
theorem dX8_putNumber_40 : decode cX8_putNumber 40 = .ok (.dup, 1) := by decide +kernel
theorem dX8_putNumber_41 : decode cX8_putNumber 41 = .ok (.getfield 15, 3) := by decide +kernel
theorem dX8_putNumber_44 : decode cX8_putNumber 44 = .ok (.iconst 1, 1) := by decide +kernel
theorem dX8_putNumber_45 : decode cX8_putNumber 45 = .ok (.iadd, 1) := by decide +kernel
theorem dX8_putNumber_46 : decode cX8_putNumber 46 = .ok (.putfield 15, 3) := by decide +kernel
theorem dX8_putNumber_49 : decode cX8_putNumber 49 = .ok (.iinc 2 (-8), 3) := by decide +kernel
theorem dX8_putNumber_52 : decode cX8_putNumber 52 = .ok (.goto (-49), 3) := by decide +kernel
theorem dX8_putNumber_55 : decode cX8_putNumber 55 = .ok (.return_, 1) := by decide +kernel
noncomputable def fX8_putNumber_L3 (V : VT) (u1 : Int32) (u2 : Int32) : Option ((VT × Int32 × Int32) ⊕ VT) := if u2 < 0 then (some (.inr (V))) else (if (V 1 1) < 0 then (lt_ (u2 + (-8 : Int32)) fun y1 => some (.inl (V, u1, y1))) else (if (nI 400) ≤ (V 1 1) then (lt_ (u2 + (-8 : Int32)) fun y2 => some (.inl (V, u1, y2))) else (rd_ (V 1 1) 400 (lt_ (va_up V 23 (upd (V 23) (V 1 1).toNatClampNeg (vp_nar .byte (u1 >>> (u2 &&& 31)).toInt8.toInt32))) fun V4 => lt_ (va_up V4 1 (upd (V4 1) 1 ((V4 1 1) + (1 : Int32)))) fun V5 => lt_ (u2 + (-8 : Int32)) fun y6 => some (.inl (V5, u1, y6))))))
noncomputable def iX8_putNumber_L3 : (VT × Int32 × Int32) → Option ((VT × Int32 × Int32) ⊕ VT) := fun q => fX8_putNumber_L3 (q.1) (q.2.1) (q.2.2)
noncomputable def fX8_putNumber (V : VT) (x1 : Int32) : Option VT := ob_R (it_ (iX8_putNumber_L3) FV (V, x1, (24 : Int32))) fun x11 => some x11
set_option maxHeartbeats 4000000 in
set_option maxRecDepth 100000 in
theorem wX8_putNumber_L3 {p : Program} {l : Launch} {e : Env} {s : State} {m : MethodId} {args : Array Value} {below : List Frame} {meth : Method} {c : Code} {G : GT} {B : BGt} {Q : State → Prop} (E : En p s m args c meth cX8_putNumber 3 RX8 none G B) {x : VT} (kr : ∀ q : VT, x = q → Q = MQ below (QV G s.heap.size q) args s 0 0 (gA G s.heap.size)) : ∀ (n : Nat) (q : (VT × Int32 × Int32)), it_ (iX8_putNumber_L3) n q = some x → ∀ (H : Heap) (locs : List Loc) (ls : Array Slot), HW G s.heap (q.1) H locs → lv_has ls 3 [(0, .ref (G.2.2 1)), (1, .int (q.2.1)), (2, .int (q.2.2))] → W p l e (rmD 2) s m args below meth c H locs 0 0 Q (F0 m 3 ls []) := by
  have hx := en_x E
  have hb := en_b E
  have hB := en_B E
  refine it_W (fun q : (VT × Int32 × Int32) => ∀ (H : Heap) (locs : List Loc) (ls : Array Slot), HW G s.heap (q.1) H locs → lv_has ls 3 [(0, .ref (G.2.2 1)), (1, .int (q.2.1)), (2, .int (q.2.2))] → W p l e (rmD 2) s m args below meth c H locs 0 0 Q (F0 m 3 ls [])) x ?_
  intro q r h kc kx
  obtain ⟨V, u1, u2⟩ := q
  intro H locs ls hw hl
  have h : fX8_putNumber_L3 V u1 u2 = some r := h
  have hw : HW G s.heap V H locs := hw
  have hl : lv_has ls 3 [(0, .ref (G.2.2 1)), (1, .int u1), (2, .int u2)] := hl
  have kr : ∀ q : VT, r = .inr (q) → Q = MQ below (QV G s.heap.size q) args s 0 0 (gA G s.heap.size) := fun q e => kr q (kx _ e).symm
  unfold fX8_putNumber_L3 at h
  refine lv_iload_n hx hb dX8_putNumber_3 rfl (lv_at hl 2 rfl) ?_
  refine lv_if_lt (tgt := 55) hx hb dX8_putNumber_4 (by decide) (fun c9 => ?_) (fun c9 => ?_)
  · rw [if_pos c9] at h
    rw [kr V (Option.some.inj h).symm]
    exact r_rv E hw dX8_putNumber_55
  · rw [if_neg c9] at h
    refine lv_aload_n hx hb dX8_putNumber_7 rfl (lv_at hl 0 rfl) ?_
    refine r_gi E hw 1 1 (N := 6) (C := RX8) (T := TX8) (by decide) rfl rfl (by decide) rfl iw_8 rfl lf_RX8_15 dX8_putNumber_8 ?_
    refine lv_if_lt (tgt := 49) hx hb dX8_putNumber_11 (by decide) (fun c8 => ?_) (fun c8 => ?_)
    · rw [if_pos c8] at h
      obtain ⟨y1, ey1, h⟩ := lt_some h
      refine lv_iinc (v := y1) (lv' := [(2, .int y1), (0, .ref (G.2.2 1)), (1, .int u1)]) hx hb dX8_putNumber_49 hl (k := 2) rfl (by rw [ey1]; rfl) (by decide) rfl (fun ls hl => ?_)
      refine lv_goto (tgt := 3) hx hb dX8_putNumber_52 (by decide) ?_
      exact kc (V, u1, y1) (Option.some.inj h).symm H locs ls hw (lv_sub hl [1, 2, 0] rfl)
    · rw [if_neg c8] at h
      refine lv_aload_n hx hb dX8_putNumber_14 rfl (lv_at hl 0 rfl) ?_
      refine r_gi E hw 1 1 (N := 6) (C := RX8) (T := TX8) (by decide) rfl rfl (by decide) rfl iw_8 rfl lf_RX8_15 dX8_putNumber_15 ?_
      refine lv_aload_n hx hb dX8_putNumber_18 rfl (lv_at hl 0 rfl) ?_
      refine r_gr E hw 1 0 23 (N := 6) (C := RX8) (T := TX8) (by decide) rfl rfl (by decide) rfl iw_8 rfl lf_RX8_9 dX8_putNumber_19 ?_
      refine r_al E hw 23 400 (by decide) (by decide) (by decide) rfl dX8_putNumber_22 ?_
      refine lv_icmp_ge (tgt := 49) hx hb dX8_putNumber_23 (by decide) (fun c7 => ?_) (fun c7 => ?_)
      · rw [if_pos c7] at h
        obtain ⟨y2, ey2, h⟩ := lt_some h
        refine lv_iinc (v := y2) (lv' := [(2, .int y2), (0, .ref (G.2.2 1)), (1, .int u1)]) hx hb dX8_putNumber_49 hl (k := 2) rfl (by rw [ey2]; rfl) (by decide) rfl (fun ls hl => ?_)
        refine lv_goto (tgt := 3) hx hb dX8_putNumber_52 (by decide) ?_
        exact kc (V, u1, y2) (Option.some.inj h).symm H locs ls hw (lv_sub hl [1, 2, 0] rfl)
      · rw [if_neg c7] at h
        refine lv_aload_n hx hb dX8_putNumber_26 rfl (lv_at hl 0 rfl) ?_
        refine r_gr E hw 1 0 23 (N := 6) (C := RX8) (T := TX8) (by decide) rfl rfl (by decide) rfl iw_8 rfl lf_RX8_9 dX8_putNumber_27 ?_
        refine lv_aload_n hx hb dX8_putNumber_30 rfl (lv_at hl 0 rfl) ?_
        refine r_gi E hw 1 1 (N := 6) (C := RX8) (T := TX8) (by decide) rfl rfl (by decide) rfl iw_8 rfl lf_RX8_15 dX8_putNumber_31 ?_
        refine lv_iload_n hx hb dX8_putNumber_34 rfl (lv_at hl 1 rfl) ?_
        refine lv_iload_n hx hb dX8_putNumber_35 rfl (lv_at hl 2 rfl) ?_
        refine lv_ishr hx hb dX8_putNumber_36 ?_
        refine lv_i2b hx hb dX8_putNumber_37 rfl ?_
        obtain ⟨b3, h⟩ := rd_some h
        obtain ⟨V4, eV4, h⟩ := lt_some h
        refine r_bs E hw 23 400 (by decide) (by decide) (by decide) rfl rfl b3 eV4 dX8_putNumber_38 (fun H locs hw => ?_)
        refine lv_aload_n hx hb dX8_putNumber_39 rfl (lv_at hl 0 rfl) ?_
        refine lv_dup hx hb dX8_putNumber_40 rfl ?_
        refine r_gi E hw 1 1 (N := 6) (C := RX8) (T := TX8) (by decide) rfl rfl (by decide) rfl iw_8 rfl lf_RX8_15 dX8_putNumber_41 ?_
        refine lv_iconst (v := (1 : Int32)) hx hb dX8_putNumber_44 (by decide) ?_
        refine lv_iadd hx hb dX8_putNumber_45 ?_
        obtain ⟨V5, eV5, h⟩ := lt_some h
        refine r_pi E hw 1 1 (N := 6) (C := RX8) (T := TX8) (ty0 := tyX8) (ty := .int) (by decide) rfl rfl (by decide) rfl iw_8 rfl tyX8_ok nmX8 rfl rfl (vp_nar_int _) rfl lf_RX8_15 eV5 dX8_putNumber_46 (fun H locs hw => ?_)
        obtain ⟨y6, ey6, h⟩ := lt_some h
        refine lv_iinc (v := y6) (lv' := [(2, .int y6), (0, .ref (G.2.2 1)), (1, .int u1)]) hx hb dX8_putNumber_49 hl (k := 2) rfl (by rw [ey6]; rfl) (by decide) rfl (fun ls hl => ?_)
        refine lv_goto (tgt := 3) hx hb dX8_putNumber_52 (by decide) ?_
        exact kc (V5, u1, y6) (Option.some.inj h).symm H locs ls hw (lv_sub hl [1, 2, 0] rfl)
set_option maxHeartbeats 4000000 in
set_option maxRecDepth 100000 in
theorem kX8_putNumber {l : Launch} {G : GT} {B : BGt} (hB : BGok B) {V : VT} {x1 : Int32} {r : VT} (h : fX8_putNumber V x1 = some r) : CV l G B yX8_putNumber (.code yX8_putNumber cX8_putNumber 3 none) 2 [.ref (G.2.2 1), .int x1] V r := by
  intro sz
  refine met_of (Qs := fun sz => QV G sz r) hB (by decide) (Nat.le_of_ble_eq_true rfl) ?_ sz
  intro p e s m args below meth c ls E hw hl
  have hx := en_x E
  have hb := en_b E
  generalize hQ : MQ _ _ _ _ _ _ _ = Q
  have kr : Q = MQ below (QV G s.heap.size r) args s 0 0 (gA G s.heap.size) := hQ.symm
  have hl : lv_has ls 3 [(0, .ref (G.2.2 1)), (1, .int x1)] := hl
  obtain ⟨H, eH⟩ : ∃ H, H = s.heap := ⟨_, rfl⟩
  obtain ⟨locs, elocs⟩ : ∃ z : List Loc, z = [] := ⟨_, rfl⟩
  have hw : HW G s.heap V H locs := by rw [eH, elocs]; exact hw
  show W p l e _ s m args below meth c s.heap [] 0 0 Q (F0 m 0 ls [])
  rw [← eH, ← elocs]
  unfold fX8_putNumber at h
  refine lv_bipush (v := (24 : Int32)) hx hb dX8_putNumber_0 (by decide) ?_
  refine lv_istore_n (lv' := [(2, .int (24 : Int32)), (0, .ref (G.2.2 1)), (1, .int x1)]) hx hb dX8_putNumber_2 rfl hl (by decide) rfl (fun ls hl => ?_)
  obtain ⟨x11, h10, h⟩ := ob_R_some h
  have h := Option.some.inj h
  subst h
  exact wX8_putNumber_L3 E (fun q e => by subst e; exact kr) FV (V, x1, (24 : Int32)) h10 H locs ls hw (lv_sub hl [1, 2, 0] rfl)
/-! ===== AllSawIt$Tape.byteAt(I)I ===== -/
theorem dX8_byteAt_0 : decode cX8_byteAt 0 = .ok (.iload_n 1, 1) := by decide +kernel
theorem dX8_byteAt_1 : decode cX8_byteAt 1 = .ok (.ifCond .lt 33, 3) := by decide +kernel
theorem dX8_byteAt_4 : decode cX8_byteAt 4 = .ok (.iload_n 1, 1) := by decide +kernel
theorem dX8_byteAt_5 : decode cX8_byteAt 5 = .ok (.aload_n 0, 1) := by decide +kernel
theorem dX8_byteAt_6 : decode cX8_byteAt 6 = .ok (.getfield 15, 3) := by decide +kernel
theorem dX8_byteAt_9 : decode cX8_byteAt 9 = .ok (.if_icmp .ge 25, 3) := by decide +kernel
theorem dX8_byteAt_12 : decode cX8_byteAt 12 = .ok (.iload_n 1, 1) := by decide +kernel
theorem dX8_byteAt_13 : decode cX8_byteAt 13 = .ok (.aload_n 0, 1) := by decide +kernel
theorem dX8_byteAt_14 : decode cX8_byteAt 14 = .ok (.getfield 9, 3) := by decide +kernel
theorem dX8_byteAt_17 : decode cX8_byteAt 17 = .ok (.arraylength, 1) := by decide +kernel
theorem dX8_byteAt_18 : decode cX8_byteAt 18 = .ok (.if_icmp .ge 16, 3) := by decide +kernel
theorem dX8_byteAt_21 : decode cX8_byteAt 21 = .ok (.aload_n 0, 1) := by decide +kernel
theorem dX8_byteAt_22 : decode cX8_byteAt 22 = .ok (.getfield 9, 3) := by decide +kernel
theorem dX8_byteAt_25 : decode cX8_byteAt 25 = .ok (.iload_n 1, 1) := by decide +kernel
theorem dX8_byteAt_26 : decode cX8_byteAt 26 = .ok (.baload, 1) := by decide +kernel
theorem dX8_byteAt_27 : decode cX8_byteAt 27 = .ok (.sipush 255, 3) := by decide +kernel
theorem dX8_byteAt_30 : decode cX8_byteAt 30 = .ok (.iand, 1) := by decide +kernel
theorem dX8_byteAt_31 : decode cX8_byteAt 31 = .ok (.goto 4, 3) := by decide +kernel
theorem dX8_byteAt_34 : decode cX8_byteAt 34 = .ok (.iconst (-1), 1) := by decide +kernel
theorem dX8_byteAt_35 : decode cX8_byteAt 35 = .ok (.ireturn, 1) := by decide +kernel
noncomputable def fX8_byteAt (V : VT) (x1 : Int32) : Option Int32 := if x1 < 0 then (some (-1 : Int32)) else (if (V 1 1) ≤ x1 then (some (-1 : Int32)) else (if (nI 400) ≤ x1 then (some (-1 : Int32)) else (rd_ x1 400 (some ((V 23 x1.toNatClampNeg) &&& (255 : Int32))))))
set_option maxHeartbeats 4000000 in
set_option maxRecDepth 100000 in
theorem kX8_byteAt {l : Launch} {G : GT} {B : BGt} (hB : BGok B) {V : VT} {x1 : Int32} {r : Int32} (h : fX8_byteAt V x1 = some r) : CI l G B yX8_byteAt (.code yX8_byteAt cX8_byteAt 2 (some .int)) 2 [.ref (G.2.2 1), .int x1] V r V := by
  intro sz
  refine met_of (Qs := fun sz => QI G sz r V) hB (by decide) (Nat.le_of_ble_eq_true rfl) ?_ sz
  intro p e s m args below meth c ls E hw hl
  have hx := en_x E
  have hb := en_b E
  generalize hQ : MQ _ _ _ _ _ _ _ = Q
  have kr : Q = MQ below (QI G s.heap.size r V) args s 0 0 (gA G s.heap.size) := hQ.symm
  have hl : lv_has ls 2 [(0, .ref (G.2.2 1)), (1, .int x1)] := hl
  obtain ⟨H, eH⟩ : ∃ H, H = s.heap := ⟨_, rfl⟩
  obtain ⟨locs, elocs⟩ : ∃ z : List Loc, z = [] := ⟨_, rfl⟩
  have hw : HW G s.heap V H locs := by rw [eH, elocs]; exact hw
  show W p l e _ s m args below meth c s.heap [] 0 0 Q (F0 m 0 ls [])
  rw [← eH, ← elocs]
  unfold fX8_byteAt at h
  refine lv_iload_n hx hb dX8_byteAt_0 rfl (lv_at hl 1 rfl) ?_
  refine lv_if_lt (tgt := 34) hx hb dX8_byteAt_1 (by decide) (fun c4 => ?_) (fun c4 => ?_)
  · rw [if_pos c4] at h
    refine lv_iconst (v := (-1 : Int32)) hx hb dX8_byteAt_34 (by decide) ?_
    have h := Option.some.inj h
    subst h
    rw [kr]
    exact r_ri E hw dX8_byteAt_35
  · rw [if_neg c4] at h
    refine lv_iload_n hx hb dX8_byteAt_4 rfl (lv_at hl 1 rfl) ?_
    refine lv_aload_n hx hb dX8_byteAt_5 rfl (lv_at hl 0 rfl) ?_
    refine r_gi E hw 1 1 (N := 6) (C := RX8) (T := TX8) (by decide) rfl rfl (by decide) rfl iw_8 rfl lf_RX8_15 dX8_byteAt_6 ?_
    refine lv_icmp_ge (tgt := 34) hx hb dX8_byteAt_9 (by decide) (fun c3 => ?_) (fun c3 => ?_)
    · rw [if_pos c3] at h
      refine lv_iconst (v := (-1 : Int32)) hx hb dX8_byteAt_34 (by decide) ?_
      have h := Option.some.inj h
      subst h
      rw [kr]
      exact r_ri E hw dX8_byteAt_35
    · rw [if_neg c3] at h
      refine lv_iload_n hx hb dX8_byteAt_12 rfl (lv_at hl 1 rfl) ?_
      refine lv_aload_n hx hb dX8_byteAt_13 rfl (lv_at hl 0 rfl) ?_
      refine r_gr E hw 1 0 23 (N := 6) (C := RX8) (T := TX8) (by decide) rfl rfl (by decide) rfl iw_8 rfl lf_RX8_9 dX8_byteAt_14 ?_
      refine r_al E hw 23 400 (by decide) (by decide) (by decide) rfl dX8_byteAt_17 ?_
      refine lv_icmp_ge (tgt := 34) hx hb dX8_byteAt_18 (by decide) (fun c2 => ?_) (fun c2 => ?_)
      · rw [if_pos c2] at h
        refine lv_iconst (v := (-1 : Int32)) hx hb dX8_byteAt_34 (by decide) ?_
        have h := Option.some.inj h
        subst h
        rw [kr]
        exact r_ri E hw dX8_byteAt_35
      · rw [if_neg c2] at h
        refine lv_aload_n hx hb dX8_byteAt_21 rfl (lv_at hl 0 rfl) ?_
        refine r_gr E hw 1 0 23 (N := 6) (C := RX8) (T := TX8) (by decide) rfl rfl (by decide) rfl iw_8 rfl lf_RX8_9 dX8_byteAt_22 ?_
        refine lv_iload_n hx hb dX8_byteAt_25 rfl (lv_at hl 1 rfl) ?_
        obtain ⟨b1, h⟩ := rd_some h
        refine r_ba E hw 23 400 (by decide) (by decide) (by decide) rfl rfl b1 dX8_byteAt_26 ?_
        refine lv_sipush (v := (255 : Int32)) hx hb dX8_byteAt_27 (by decide) ?_
        refine lv_iand hx hb dX8_byteAt_30 ?_
        refine lv_goto (tgt := 35) hx hb dX8_byteAt_31 (by decide) ?_
        have h := Option.some.inj h
        subst h
        rw [kr]
        exact r_ri E hw dX8_byteAt_35
/-! ===== AllSawIt$Tape.isDigit(I)Z ===== -/
theorem dX8_isDigit_0 : decode cX8_isDigit 0 = .ok (.iload_n 0, 1) := by decide +kernel
theorem dX8_isDigit_1 : decode cX8_isDigit 1 = .ok (.bipush 48, 2) := by decide +kernel
theorem dX8_isDigit_3 : decode cX8_isDigit 3 = .ok (.if_icmp .lt 13, 3) := by decide +kernel
theorem dX8_isDigit_6 : decode cX8_isDigit 6 = .ok (.iload_n 0, 1) := by decide +kernel
theorem dX8_isDigit_7 : decode cX8_isDigit 7 = .ok (.bipush 57, 2) := by decide +kernel
theorem dX8_isDigit_9 : decode cX8_isDigit 9 = .ok (.if_icmp .gt 7, 3) := by decide +kernel
theorem dX8_isDigit_12 : decode cX8_isDigit 12 = .ok (.iconst 1, 1) := by decide +kernel
theorem dX8_isDigit_13 : decode cX8_isDigit 13 = .ok (.goto 4, 3) := by decide +kernel
theorem dX8_isDigit_16 : decode cX8_isDigit 16 = .ok (.iconst 0, 1) := by decide +kernel
theorem dX8_isDigit_17 : decode cX8_isDigit 17 = .ok (.ireturn, 1) := by decide +kernel
noncomputable def fX8_isDigit (V : VT) (x1 : Int32) : Option Int32 := if x1 < (48 : Int32) then (zo_ (0 : Int32) (some (0 : Int32))) else (if (57 : Int32) < x1 then (zo_ (0 : Int32) (some (0 : Int32))) else (zo_ (1 : Int32) (some (1 : Int32))))
set_option maxHeartbeats 4000000 in
set_option maxRecDepth 100000 in
theorem kX8_isDigit {l : Launch} {G : GT} {B : BGt} (hB : BGok B) {V : VT} {x1 : Int32} {r : Int32} (h : fX8_isDigit V x1 = some r) : CI l G B yX8_isDigit (.code yX8_isDigit cX8_isDigit 1 (some .boolean)) 2 [.int x1] V r V := by
  intro sz
  refine met_of (Qs := fun sz => QI G sz r V) hB (by decide) (Nat.le_of_ble_eq_true rfl) ?_ sz
  intro p e s m args below meth c ls E hw hl
  have hx := en_x E
  have hb := en_b E
  generalize hQ : MQ _ _ _ _ _ _ _ = Q
  have kr : Q = MQ below (QI G s.heap.size r V) args s 0 0 (gA G s.heap.size) := hQ.symm
  have hl : lv_has ls 1 [(0, .int x1)] := hl
  obtain ⟨H, eH⟩ : ∃ H, H = s.heap := ⟨_, rfl⟩
  obtain ⟨locs, elocs⟩ : ∃ z : List Loc, z = [] := ⟨_, rfl⟩
  have hw : HW G s.heap V H locs := by rw [eH, elocs]; exact hw
  show W p l e _ s m args below meth c s.heap [] 0 0 Q (F0 m 0 ls [])
  rw [← eH, ← elocs]
  unfold fX8_isDigit at h
  refine lv_iload_n hx hb dX8_isDigit_0 rfl (lv_at hl 0 rfl) ?_
  refine lv_bipush (v := (48 : Int32)) hx hb dX8_isDigit_1 (by decide) ?_
  refine lv_icmp_lt (tgt := 16) hx hb dX8_isDigit_3 (by decide) (fun c5 => ?_) (fun c5 => ?_)
  · rw [if_pos c5] at h
    refine lv_iconst (v := (0 : Int32)) hx hb dX8_isDigit_16 (by decide) ?_
    obtain ⟨z1, h⟩ := zo_some h
    have h := Option.some.inj h
    subst h
    rw [kr]
    exact r_rz E hw z1 dX8_isDigit_17
  · rw [if_neg c5] at h
    refine lv_iload_n hx hb dX8_isDigit_6 rfl (lv_at hl 0 rfl) ?_
    refine lv_bipush (v := (57 : Int32)) hx hb dX8_isDigit_7 (by decide) ?_
    refine lv_icmp_gt (tgt := 16) hx hb dX8_isDigit_9 (by decide) (fun c4 => ?_) (fun c4 => ?_)
    · rw [if_pos c4] at h
      refine lv_iconst (v := (0 : Int32)) hx hb dX8_isDigit_16 (by decide) ?_
      obtain ⟨z2, h⟩ := zo_some h
      have h := Option.some.inj h
      subst h
      rw [kr]
      exact r_rz E hw z2 dX8_isDigit_17
    · rw [if_neg c4] at h
      refine lv_iconst (v := (1 : Int32)) hx hb dX8_isDigit_12 (by decide) ?_
      refine lv_goto (tgt := 17) hx hb dX8_isDigit_13 (by decide) ?_
      obtain ⟨z3, h⟩ := zo_some h
      have h := Option.some.inj h
      subst h
      rw [kr]
      exact r_rz E hw z3 dX8_isDigit_17
/-! ===== AllSawIt$Tape.isLetter(I)Z ===== -/
theorem dX8_isLetter_0 : decode cX8_isLetter 0 = .ok (.iload_n 0, 1) := by decide +kernel
theorem dX8_isLetter_1 : decode cX8_isLetter 1 = .ok (.bipush 97, 2) := by decide +kernel
theorem dX8_isLetter_3 : decode cX8_isLetter 3 = .ok (.if_icmp .lt 13, 3) := by decide +kernel
theorem dX8_isLetter_6 : decode cX8_isLetter 6 = .ok (.iload_n 0, 1) := by decide +kernel
theorem dX8_isLetter_7 : decode cX8_isLetter 7 = .ok (.bipush 122, 2) := by decide +kernel
theorem dX8_isLetter_9 : decode cX8_isLetter 9 = .ok (.if_icmp .gt 7, 3) := by decide +kernel
theorem dX8_isLetter_12 : decode cX8_isLetter 12 = .ok (.iconst 1, 1) := by decide +kernel
theorem dX8_isLetter_13 : decode cX8_isLetter 13 = .ok (.goto 4, 3) := by decide +kernel
theorem dX8_isLetter_16 : decode cX8_isLetter 16 = .ok (.iconst 0, 1) := by decide +kernel
theorem dX8_isLetter_17 : decode cX8_isLetter 17 = .ok (.ireturn, 1) := by decide +kernel
noncomputable def fX8_isLetter (V : VT) (x1 : Int32) : Option Int32 := if x1 < (97 : Int32) then (zo_ (0 : Int32) (some (0 : Int32))) else (if (122 : Int32) < x1 then (zo_ (0 : Int32) (some (0 : Int32))) else (zo_ (1 : Int32) (some (1 : Int32))))
set_option maxHeartbeats 4000000 in
set_option maxRecDepth 100000 in
theorem kX8_isLetter {l : Launch} {G : GT} {B : BGt} (hB : BGok B) {V : VT} {x1 : Int32} {r : Int32} (h : fX8_isLetter V x1 = some r) : CI l G B yX8_isLetter (.code yX8_isLetter cX8_isLetter 1 (some .boolean)) 2 [.int x1] V r V := by
  intro sz
  refine met_of (Qs := fun sz => QI G sz r V) hB (by decide) (Nat.le_of_ble_eq_true rfl) ?_ sz
  intro p e s m args below meth c ls E hw hl
  have hx := en_x E
  have hb := en_b E
  generalize hQ : MQ _ _ _ _ _ _ _ = Q
  have kr : Q = MQ below (QI G s.heap.size r V) args s 0 0 (gA G s.heap.size) := hQ.symm
  have hl : lv_has ls 1 [(0, .int x1)] := hl
  obtain ⟨H, eH⟩ : ∃ H, H = s.heap := ⟨_, rfl⟩
  obtain ⟨locs, elocs⟩ : ∃ z : List Loc, z = [] := ⟨_, rfl⟩
  have hw : HW G s.heap V H locs := by rw [eH, elocs]; exact hw
  show W p l e _ s m args below meth c s.heap [] 0 0 Q (F0 m 0 ls [])
  rw [← eH, ← elocs]
  unfold fX8_isLetter at h
  refine lv_iload_n hx hb dX8_isLetter_0 rfl (lv_at hl 0 rfl) ?_
  refine lv_bipush (v := (97 : Int32)) hx hb dX8_isLetter_1 (by decide) ?_
  refine lv_icmp_lt (tgt := 16) hx hb dX8_isLetter_3 (by decide) (fun c5 => ?_) (fun c5 => ?_)
  · rw [if_pos c5] at h
    refine lv_iconst (v := (0 : Int32)) hx hb dX8_isLetter_16 (by decide) ?_
    obtain ⟨z1, h⟩ := zo_some h
    have h := Option.some.inj h
    subst h
    rw [kr]
    exact r_rz E hw z1 dX8_isLetter_17
  · rw [if_neg c5] at h
    refine lv_iload_n hx hb dX8_isLetter_6 rfl (lv_at hl 0 rfl) ?_
    refine lv_bipush (v := (122 : Int32)) hx hb dX8_isLetter_7 (by decide) ?_
    refine lv_icmp_gt (tgt := 16) hx hb dX8_isLetter_9 (by decide) (fun c4 => ?_) (fun c4 => ?_)
    · rw [if_pos c4] at h
      refine lv_iconst (v := (0 : Int32)) hx hb dX8_isLetter_16 (by decide) ?_
      obtain ⟨z2, h⟩ := zo_some h
      have h := Option.some.inj h
      subst h
      rw [kr]
      exact r_rz E hw z2 dX8_isLetter_17
    · rw [if_neg c4] at h
      refine lv_iconst (v := (1 : Int32)) hx hb dX8_isLetter_12 (by decide) ?_
      refine lv_goto (tgt := 17) hx hb dX8_isLetter_13 (by decide) ?_
      obtain ⟨z3, h⟩ := zo_some h
      have h := Option.some.inj h
      subst h
      rw [kr]
      exact r_rz E hw z3 dX8_isLetter_17
/-! ===== AllSawIt$Tape.isEnd()Z ===== -/
theorem dX8_isEnd_0 : decode cX8_isEnd 0 = .ok (.aload_n 0, 1) := by decide +kernel
theorem dX8_isEnd_1 : decode cX8_isEnd 1 = .ok (.getfield 19, 3) := by decide +kernel
theorem dX8_isEnd_4 : decode cX8_isEnd 4 = .ok (.ifCond .ne 7, 3) := by decide +kernel
theorem dX8_isEnd_7 : decode cX8_isEnd 7 = .ok (.iconst 1, 1) := by decide +kernel
theorem dX8_isEnd_8 : decode cX8_isEnd 8 = .ok (.goto 4, 3) := by decide +kernel
theorem dX8_isEnd_11 : decode cX8_isEnd 11 = .ok (.iconst 0, 1) := by decide +kernel
theorem dX8_isEnd_12 : decode cX8_isEnd 12 = .ok (.ireturn, 1) := by decide +kernel
noncomputable def fX8_isEnd (V : VT) : Option Int32 := if (V 1 2) = 0 then (zo_ (1 : Int32) (some (1 : Int32))) else (zo_ (0 : Int32) (some (0 : Int32)))
set_option maxHeartbeats 4000000 in
set_option maxRecDepth 100000 in
theorem kX8_isEnd {l : Launch} {G : GT} {B : BGt} (hB : BGok B) {V : VT} {r : Int32} (h : fX8_isEnd V = some r) : CI l G B yX8_isEnd (.code yX8_isEnd cX8_isEnd 1 (some .boolean)) 2 [.ref (G.2.2 1)] V r V := by
  intro sz
  refine met_of (Qs := fun sz => QI G sz r V) hB (by decide) (Nat.le_of_ble_eq_true rfl) ?_ sz
  intro p e s m args below meth c ls E hw hl
  have hx := en_x E
  have hb := en_b E
  generalize hQ : MQ _ _ _ _ _ _ _ = Q
  have kr : Q = MQ below (QI G s.heap.size r V) args s 0 0 (gA G s.heap.size) := hQ.symm
  have hl : lv_has ls 1 [(0, .ref (G.2.2 1))] := hl
  obtain ⟨H, eH⟩ : ∃ H, H = s.heap := ⟨_, rfl⟩
  obtain ⟨locs, elocs⟩ : ∃ z : List Loc, z = [] := ⟨_, rfl⟩
  have hw : HW G s.heap V H locs := by rw [eH, elocs]; exact hw
  show W p l e _ s m args below meth c s.heap [] 0 0 Q (F0 m 0 ls [])
  rw [← eH, ← elocs]
  unfold fX8_isEnd at h
  refine lv_aload_n hx hb dX8_isEnd_0 rfl (lv_at hl 0 rfl) ?_
  refine r_gi E hw 1 2 (N := 6) (C := RX8) (T := TX8) (by decide) rfl rfl (by decide) rfl iw_8 rfl lf_RX8_19 dX8_isEnd_1 ?_
  refine lv_if_ne (tgt := 11) hx hb dX8_isEnd_4 (by decide) (fun c3 => ?_) (fun c3 => ?_)
  · rw [if_neg c3] at h
    refine lv_iconst (v := (0 : Int32)) hx hb dX8_isEnd_11 (by decide) ?_
    obtain ⟨z1, h⟩ := zo_some h
    have h := Option.some.inj h
    subst h
    rw [kr]
    exact r_rz E hw z1 dX8_isEnd_12
  · rw [if_pos c3] at h
    refine lv_iconst (v := (1 : Int32)) hx hb dX8_isEnd_7 (by decide) ?_
    refine lv_goto (tgt := 12) hx hb dX8_isEnd_8 (by decide) ?_
    obtain ⟨z2, h⟩ := zo_some h
    have h := Option.some.inj h
    subst h
    rw [kr]
    exact r_rz E hw z2 dX8_isEnd_12
/-! ===== AllSawIt$Tape.isSign(C)Z ===== -/
theorem dX8_isSign_0 : decode cX8_isSign 0 = .ok (.aload_n 0, 1) := by decide +kernel
theorem dX8_isSign_1 : decode cX8_isSign 1 = .ok (.getfield 19, 3) := by decide +kernel
theorem dX8_isSign_4 : decode cX8_isSign 4 = .ok (.iconst 3, 1) := by decide +kernel
theorem dX8_isSign_5 : decode cX8_isSign 5 = .ok (.if_icmp .ne 19, 3) := by decide +kernel
theorem dX8_isSign_8 : decode cX8_isSign 8 = .ok (.aload_n 0, 1) := by decide +kernel
theorem dX8_isSign_9 : decode cX8_isSign 9 = .ok (.aload_n 0, 1) := by decide +kernel
theorem dX8_isSign_10 : decode cX8_isSign 10 = .ok (.getfield 22, 3) := by decide +kernel
theorem dX8_isSign_13 : decode cX8_isSign 13 = .ok (.invokevirtual 34, 3) := by decide +kernel
theorem dX8_isSign_16 : decode cX8_isSign 16 = .ok (.iload_n 1, 1) := by decide +kernel
theorem dX8_isSign_17 : decode cX8_isSign 17 = .ok (.if_icmp .ne 7, 3) := by decide +kernel
theorem dX8_isSign_20 : decode cX8_isSign 20 = .ok (.iconst 1, 1) := by decide +kernel
theorem dX8_isSign_21 : decode cX8_isSign 21 = .ok (.goto 4, 3) := by decide +kernel
theorem dX8_isSign_24 : decode cX8_isSign 24 = .ok (.iconst 0, 1) := by decide +kernel
theorem dX8_isSign_25 : decode cX8_isSign 25 = .ok (.ireturn, 1) := by decide +kernel
noncomputable def fX8_isSign (V : VT) (x1 : Int32) : Option Int32 := if (V 1 2) = (3 : Int32) then (ob_R (fX8_byteAt V (V 1 3)) fun y3 => if y3 = x1 then (zo_ (1 : Int32) (some (1 : Int32))) else (zo_ (0 : Int32) (some (0 : Int32)))) else (zo_ (0 : Int32) (some (0 : Int32)))
set_option maxHeartbeats 4000000 in
set_option maxRecDepth 100000 in
theorem kX8_isSign {l : Launch} {G : GT} {B : BGt} (hB : BGok B) {V : VT} {x1 : Int32} {r : Int32} (h : fX8_isSign V x1 = some r) : CI l G B yX8_isSign (.code yX8_isSign cX8_isSign 2 (some .boolean)) 3 [.ref (G.2.2 1), .int x1] V r V := by
  intro sz
  refine met_of (Qs := fun sz => QI G sz r V) hB (by decide) (Nat.le_of_ble_eq_true rfl) ?_ sz
  intro p e s m args below meth c ls E hw hl
  have hx := en_x E
  have hb := en_b E
  generalize hQ : MQ _ _ _ _ _ _ _ = Q
  have kr : Q = MQ below (QI G s.heap.size r V) args s 0 0 (gA G s.heap.size) := hQ.symm
  have hl : lv_has ls 2 [(0, .ref (G.2.2 1)), (1, .int x1)] := hl
  obtain ⟨H, eH⟩ : ∃ H, H = s.heap := ⟨_, rfl⟩
  obtain ⟨locs, elocs⟩ : ∃ z : List Loc, z = [] := ⟨_, rfl⟩
  have hw : HW G s.heap V H locs := by rw [eH, elocs]; exact hw
  show W p l e _ s m args below meth c s.heap [] 0 0 Q (F0 m 0 ls [])
  rw [← eH, ← elocs]
  unfold fX8_isSign at h
  refine lv_aload_n hx hb dX8_isSign_0 rfl (lv_at hl 0 rfl) ?_
  refine r_gi E hw 1 2 (N := 6) (C := RX8) (T := TX8) (by decide) rfl rfl (by decide) rfl iw_8 rfl lf_RX8_19 dX8_isSign_1 ?_
  refine lv_iconst (v := (3 : Int32)) hx hb dX8_isSign_4 (by decide) ?_
  refine lv_icmp_ne (tgt := 24) hx hb dX8_isSign_5 (by decide) (fun c7 => ?_) (fun c7 => ?_)
  · rw [if_neg c7] at h
    refine lv_iconst (v := (0 : Int32)) hx hb dX8_isSign_24 (by decide) ?_
    obtain ⟨z1, h⟩ := zo_some h
    have h := Option.some.inj h
    subst h
    rw [kr]
    exact r_rz E hw z1 dX8_isSign_25
  · rw [if_pos c7] at h
    refine lv_aload_n hx hb dX8_isSign_8 rfl (lv_at hl 0 rfl) ?_
    refine lv_aload_n hx hb dX8_isSign_9 rfl (lv_at hl 0 rfl) ?_
    refine r_gi E hw 1 3 (N := 6) (C := RX8) (T := TX8) (by decide) rfl rfl (by decide) rfl iw_8 rfl lf_RX8_22 dX8_isSign_10 ?_
    obtain ⟨y3, h2, h⟩ := ob_R_some h
    refine c_VI E hw (kX8_byteAt (l := l) (G := G) hB  h2) yy_X8_byteAt lm_RX8_34 rfl (by decide) rfl rfl hl.1 (by decide) (by decide) rfl (Nat.le_of_ble_eq_true rfl) dX8_isSign_13 (fun H locs hw => ?_)
    refine lv_iload_n hx hb dX8_isSign_16 rfl (lv_at hl 1 rfl) ?_
    refine lv_icmp_ne (tgt := 24) hx hb dX8_isSign_17 (by decide) (fun c6 => ?_) (fun c6 => ?_)
    · rw [if_neg c6] at h
      refine lv_iconst (v := (0 : Int32)) hx hb dX8_isSign_24 (by decide) ?_
      obtain ⟨z4, h⟩ := zo_some h
      have h := Option.some.inj h
      subst h
      rw [kr]
      exact r_rz E hw z4 dX8_isSign_25
    · rw [if_pos c6] at h
      refine lv_iconst (v := (1 : Int32)) hx hb dX8_isSign_20 (by decide) ?_
      refine lv_goto (tgt := 25) hx hb dX8_isSign_21 (by decide) ?_
      obtain ⟨z5, h⟩ := zo_some h
      have h := Option.some.inj h
      subst h
      rw [kr]
      exact r_rz E hw z5 dX8_isSign_25
/-! ===== AllSawIt$Tape.isNumber(II)Z ===== -/
theorem dX8_isNumber_0 : decode cX8_isNumber 0 = .ok (.aload_n 0, 1) := by decide +kernel
theorem dX8_isNumber_1 : decode cX8_isNumber 1 = .ok (.getfield 19, 3) := by decide +kernel
theorem dX8_isNumber_4 : decode cX8_isNumber 4 = .ok (.iconst 2, 1) := by decide +kernel
theorem dX8_isNumber_5 : decode cX8_isNumber 5 = .ok (.if_icmp .ne 36, 3) := by decide +kernel
theorem dX8_isNumber_8 : decode cX8_isNumber 8 = .ok (.aload_n 0, 1) := by decide +kernel
theorem dX8_isNumber_9 : decode cX8_isNumber 9 = .ok (.getfield 25, 3) := by decide +kernel
theorem dX8_isNumber_12 : decode cX8_isNumber 12 = .ok (.aload_n 0, 1) := by decide +kernel
theorem dX8_isNumber_13 : decode cX8_isNumber 13 = .ok (.getfield 22, 3) := by decide +kernel
theorem dX8_isNumber_16 : decode cX8_isNumber 16 = .ok (.isub, 1) := by decide +kernel
theorem dX8_isNumber_17 : decode cX8_isNumber 17 = .ok (.iconst 3, 1) := by decide +kernel
theorem dX8_isNumber_18 : decode cX8_isNumber 18 = .ok (.if_icmp .gt 23, 3) := by decide +kernel
theorem dX8_isNumber_21 : decode cX8_isNumber 21 = .ok (.aload_n 0, 1) := by decide +kernel
theorem dX8_isNumber_22 : decode cX8_isNumber 22 = .ok (.getfield 28, 3) := by decide +kernel
theorem dX8_isNumber_25 : decode cX8_isNumber 25 = .ok (.iload_n 1, 1) := by decide +kernel
theorem dX8_isNumber_26 : decode cX8_isNumber 26 = .ok (.if_icmp .lt 15, 3) := by decide +kernel
theorem dX8_isNumber_29 : decode cX8_isNumber 29 = .ok (.aload_n 0, 1) := by decide +kernel
theorem dX8_isNumber_30 : decode cX8_isNumber 30 = .ok (.getfield 28, 3) := by decide +kernel
theorem dX8_isNumber_33 : decode cX8_isNumber 33 = .ok (.iload_n 2, 1) := by decide +kernel
theorem dX8_isNumber_34 : decode cX8_isNumber 34 = .ok (.if_icmp .gt 7, 3) := by decide +kernel
theorem dX8_isNumber_37 : decode cX8_isNumber 37 = .ok (.iconst 1, 1) := by decide +kernel
theorem dX8_isNumber_38 : decode cX8_isNumber 38 = .ok (.goto 4, 3) := by decide +kernel
theorem dX8_isNumber_41 : decode cX8_isNumber 41 = .ok (.iconst 0, 1) := by decide +kernel
theorem dX8_isNumber_42 : decode cX8_isNumber 42 = .ok (.ireturn, 1) := by decide +kernel
noncomputable def fX8_isNumber (V : VT) (x1 : Int32) (x2 : Int32) : Option Int32 := if (V 1 2) = (2 : Int32) then (if (3 : Int32) < ((V 1 4) - (V 1 3)) then (zo_ (0 : Int32) (some (0 : Int32))) else (if (V 1 5) < x1 then (zo_ (0 : Int32) (some (0 : Int32))) else (if x2 < (V 1 5) then (zo_ (0 : Int32) (some (0 : Int32))) else (zo_ (1 : Int32) (some (1 : Int32)))))) else (zo_ (0 : Int32) (some (0 : Int32)))
set_option maxHeartbeats 4000000 in
set_option maxRecDepth 100000 in
theorem kX8_isNumber {l : Launch} {G : GT} {B : BGt} (hB : BGok B) {V : VT} {x1 : Int32} {x2 : Int32} {r : Int32} (h : fX8_isNumber V x1 x2 = some r) : CI l G B yX8_isNumber (.code yX8_isNumber cX8_isNumber 3 (some .boolean)) 2 [.ref (G.2.2 1), .int x1, .int x2] V r V := by
  intro sz
  refine met_of (Qs := fun sz => QI G sz r V) hB (by decide) (Nat.le_of_ble_eq_true rfl) ?_ sz
  intro p e s m args below meth c ls E hw hl
  have hx := en_x E
  have hb := en_b E
  generalize hQ : MQ _ _ _ _ _ _ _ = Q
  have kr : Q = MQ below (QI G s.heap.size r V) args s 0 0 (gA G s.heap.size) := hQ.symm
  have hl : lv_has ls 3 [(0, .ref (G.2.2 1)), (1, .int x1), (2, .int x2)] := hl
  obtain ⟨H, eH⟩ : ∃ H, H = s.heap := ⟨_, rfl⟩
  obtain ⟨locs, elocs⟩ : ∃ z : List Loc, z = [] := ⟨_, rfl⟩
  have hw : HW G s.heap V H locs := by rw [eH, elocs]; exact hw
  show W p l e _ s m args below meth c s.heap [] 0 0 Q (F0 m 0 ls [])
  rw [← eH, ← elocs]
  unfold fX8_isNumber at h
  refine lv_aload_n hx hb dX8_isNumber_0 rfl (lv_at hl 0 rfl) ?_
  refine r_gi E hw 1 2 (N := 6) (C := RX8) (T := TX8) (by decide) rfl rfl (by decide) rfl iw_8 rfl lf_RX8_19 dX8_isNumber_1 ?_
  refine lv_iconst (v := (2 : Int32)) hx hb dX8_isNumber_4 (by decide) ?_
  refine lv_icmp_ne (tgt := 41) hx hb dX8_isNumber_5 (by decide) (fun c9 => ?_) (fun c9 => ?_)
  · rw [if_neg c9] at h
    refine lv_iconst (v := (0 : Int32)) hx hb dX8_isNumber_41 (by decide) ?_
    obtain ⟨z1, h⟩ := zo_some h
    have h := Option.some.inj h
    subst h
    rw [kr]
    exact r_rz E hw z1 dX8_isNumber_42
  · rw [if_pos c9] at h
    refine lv_aload_n hx hb dX8_isNumber_8 rfl (lv_at hl 0 rfl) ?_
    refine r_gi E hw 1 4 (N := 6) (C := RX8) (T := TX8) (by decide) rfl rfl (by decide) rfl iw_8 rfl lf_RX8_25 dX8_isNumber_9 ?_
    refine lv_aload_n hx hb dX8_isNumber_12 rfl (lv_at hl 0 rfl) ?_
    refine r_gi E hw 1 3 (N := 6) (C := RX8) (T := TX8) (by decide) rfl rfl (by decide) rfl iw_8 rfl lf_RX8_22 dX8_isNumber_13 ?_
    refine lv_isub hx hb dX8_isNumber_16 ?_
    refine lv_iconst (v := (3 : Int32)) hx hb dX8_isNumber_17 (by decide) ?_
    refine lv_icmp_gt (tgt := 41) hx hb dX8_isNumber_18 (by decide) (fun c8 => ?_) (fun c8 => ?_)
    · rw [if_pos c8] at h
      refine lv_iconst (v := (0 : Int32)) hx hb dX8_isNumber_41 (by decide) ?_
      obtain ⟨z2, h⟩ := zo_some h
      have h := Option.some.inj h
      subst h
      rw [kr]
      exact r_rz E hw z2 dX8_isNumber_42
    · rw [if_neg c8] at h
      refine lv_aload_n hx hb dX8_isNumber_21 rfl (lv_at hl 0 rfl) ?_
      refine r_gi E hw 1 5 (N := 6) (C := RX8) (T := TX8) (by decide) rfl rfl (by decide) rfl iw_8 rfl lf_RX8_28 dX8_isNumber_22 ?_
      refine lv_iload_n hx hb dX8_isNumber_25 rfl (lv_at hl 1 rfl) ?_
      refine lv_icmp_lt (tgt := 41) hx hb dX8_isNumber_26 (by decide) (fun c7 => ?_) (fun c7 => ?_)
      · rw [if_pos c7] at h
        refine lv_iconst (v := (0 : Int32)) hx hb dX8_isNumber_41 (by decide) ?_
        obtain ⟨z3, h⟩ := zo_some h
        have h := Option.some.inj h
        subst h
        rw [kr]
        exact r_rz E hw z3 dX8_isNumber_42
      · rw [if_neg c7] at h
        refine lv_aload_n hx hb dX8_isNumber_29 rfl (lv_at hl 0 rfl) ?_
        refine r_gi E hw 1 5 (N := 6) (C := RX8) (T := TX8) (by decide) rfl rfl (by decide) rfl iw_8 rfl lf_RX8_28 dX8_isNumber_30 ?_
        refine lv_iload_n hx hb dX8_isNumber_33 rfl (lv_at hl 2 rfl) ?_
        refine lv_icmp_gt (tgt := 41) hx hb dX8_isNumber_34 (by decide) (fun c6 => ?_) (fun c6 => ?_)
        · rw [if_pos c6] at h
          refine lv_iconst (v := (0 : Int32)) hx hb dX8_isNumber_41 (by decide) ?_
          obtain ⟨z4, h⟩ := zo_some h
          have h := Option.some.inj h
          subst h
          rw [kr]
          exact r_rz E hw z4 dX8_isNumber_42
        · rw [if_neg c6] at h
          refine lv_iconst (v := (1 : Int32)) hx hb dX8_isNumber_37 (by decide) ?_
          refine lv_goto (tgt := 42) hx hb dX8_isNumber_38 (by decide) ?_
          obtain ⟨z5, h⟩ := zo_some h
          have h := Option.some.inj h
          subst h
          rw [kr]
          exact r_rz E hw z5 dX8_isNumber_42
/-! ===== AllSawIt$Denial.isTold(LAllSawIt$Tape;I)Z ===== -/
theorem dX2_isTold_0 : decode cX2_isTold 0 = .ok (.aload_n 0, 1) := by decide +kernel
theorem dX2_isTold_1 : decode cX2_isTold 1 = .ok (.getfield 9, 3) := by decide +kernel
theorem dX2_isTold_4 : decode cX2_isTold 4 = .ok (.bipush 36, 2) := by decide +kernel
theorem dX2_isTold_6 : decode cX2_isTold 6 = .ok (.if_icmp .gt 12, 3) := by decide +kernel
theorem dX2_isTold_9 : decode cX2_isTold 9 = .ok (.aload_n 0, 1) := by decide +kernel
theorem dX2_isTold_10 : decode cX2_isTold 10 = .ok (.getfield 9, 3) := by decide +kernel
theorem dX2_isTold_13 : decode cX2_isTold 13 = .ok (.iconst 3, 1) := by decide +kernel
theorem dX2_isTold_14 : decode cX2_isTold 14 = .ok (.irem, 1) := by decide +kernel
theorem dX2_isTold_15 : decode cX2_isTold 15 = .ok (.ifCond .eq 5, 3) := by decide +kernel
theorem dX2_isTold_18 : decode cX2_isTold 18 = .ok (.iconst 0, 1) := by decide +kernel
theorem dX2_isTold_19 : decode cX2_isTold 19 = .ok (.ireturn, 1) := by decide +kernel
theorem dX2_isTold_20 : decode cX2_isTold 20 = .ok (.iconst 0, 1) := by decide +kernel
theorem dX2_isTold_21 : decode cX2_isTold 21 = .ok (.istore_n 2, 1) := by decide +kernel
theorem dX2_isTold_22 : decode cX2_isTold 22 = .ok (.iload_n 2, 1) := by decide +kernel
theorem dX2_isTold_23 : decode cX2_isTold 23 = .ok (.aload_n 0, 1) := by decide +kernel
theorem dX2_isTold_24 : decode cX2_isTold 24 = .ok (.getfield 9, 3) := by decide +kernel
theorem dX2_isTold_27 : decode cX2_isTold 27 = .ok (.if_icmp .ge 33, 3) := by decide +kernel
theorem dX2_isTold_30 : decode cX2_isTold 30 = .ok (.aload_n 0, 1) := by decide +kernel
theorem dX2_isTold_31 : decode cX2_isTold 31 = .ok (.iload_n 2, 1) := by decide +kernel
theorem dX2_isTold_32 : decode cX2_isTold 32 = .ok (.iconst 1, 1) := by decide +kernel
theorem dX2_isTold_33 : decode cX2_isTold 33 = .ok (.iadd, 1) := by decide +kernel
theorem dX2_isTold_34 : decode cX2_isTold 34 = .ok (.invokevirtual 17, 3) := by decide +kernel
theorem dX2_isTold_37 : decode cX2_isTold 37 = .ok (.istore_n 3, 1) := by decide +kernel
theorem dX2_isTold_38 : decode cX2_isTold 38 = .ok (.aload_n 0, 1) := by decide +kernel
theorem dX2_isTold_39 : decode cX2_isTold 39 = .ok (.iload_n 2, 1) := by decide +kernel
theorem dX2_isTold_40 : decode cX2_isTold 40 = .ok (.invokevirtual 17, 3) := by decide +kernel
theorem dX2_isTold_43 : decode cX2_isTold 43 = .ok (.iload_n 3, 1) := by decide +kernel
theorem dX2_isTold_44 : decode cX2_isTold 44 = .ok (.if_icmp .gt 8, 3) := by decide +kernel
theorem dX2_isTold_47 : decode cX2_isTold 47 = .ok (.iload_n 3, 1) := by decide +kernel
theorem dX2_isTold_48 : decode cX2_isTold 48 = .ok (.iload_n 1, 1) := by decide +kernel
theorem dX2_isTold_49 : decode cX2_isTold 49 = .ok (.if_icmp .lt 5, 3) := by decide +kernel
theorem dX2_isTold_52 : decode cX2_isTold 52 = .ok (.iconst 0, 1) := by decide +kernel
theorem dX2_isTold_53 : decode cX2_isTold 53 = .ok (.ireturn, 1) := by decide +kernel
theorem dX2_isTold_54 : decode cX2_isTold 54 = .ok (.iinc 2 3, 3) := by decide +kernel
theorem dX2_isTold_57 : decode cX2_isTold 57 = .ok (.goto (-35), 3) := by decide +kernel
theorem dX2_isTold_60 : decode cX2_isTold 60 = .ok (.iconst 1, 1) := by decide +kernel
theorem dX2_isTold_61 : decode cX2_isTold 61 = .ok (.ireturn, 1) := by decide +kernel
noncomputable def fX2_isTold_L22 (V : VT) (u1 : Int32) (u2 : Int32) : Option ((Int32 × Int32) ⊕ Int32) := if (V 1 1) ≤ u2 then (zo_ (1 : Int32) (some (.inr ((1 : Int32))))) else (ob_R (fX8_byteAt V (u2 + (1 : Int32))) fun y4 => ob_R (fX8_byteAt V u2) fun y6 => if y4 < y6 then (zo_ (0 : Int32) (some (.inr ((0 : Int32))))) else (if y4 < u1 then (lt_ (u2 + (3 : Int32)) fun y8 => some (.inl (u1, y8))) else (zo_ (0 : Int32) (some (.inr ((0 : Int32)))))))
noncomputable def iX2_isTold_L22 (V : VT) : (Int32 × Int32) → Option ((Int32 × Int32) ⊕ Int32) := fun q => fX2_isTold_L22 V (q.1) (q.2)
noncomputable def fX2_isTold (V : VT) (x1 : Int32) : Option Int32 := if (36 : Int32) < (V 1 1) then (zo_ (0 : Int32) (some (0 : Int32))) else (if ((V 1 1) - (V 1 1) / (3 : Int32) * (3 : Int32)) = 0 then (ob_R (it_ (iX2_isTold_L22 V) FV (x1, (0 : Int32))) fun x14 => some x14) else (zo_ (0 : Int32) (some (0 : Int32))))
set_option maxHeartbeats 4000000 in
set_option maxRecDepth 100000 in
theorem wX2_isTold_L22 {p : Program} {l : Launch} {e : Env} {s : State} {m : MethodId} {args : Array Value} {below : List Frame} {meth : Method} {c : Code} {G : GT} {B : BGt} {Q : State → Prop} (E : En p s m args c meth cX2_isTold 4 RX2 (some .boolean) G B) {V : VT} {x : Int32} (kr : ∀ q : Int32, x = q → Q = MQ below (QI G s.heap.size q V) args s 0 0 (gA G s.heap.size)) : ∀ (n : Nat) (q : (Int32 × Int32)), it_ (iX2_isTold_L22 V) n q = some x → ∀ (H : Heap) (locs : List Loc) (ls : Array Slot), HW G s.heap V H locs → lv_has ls 4 [(0, .ref (G.2.2 1)), (1, .int (q.1)), (2, .int (q.2))] → W p l e (rmD 3) s m args below meth c H locs 0 0 Q (F0 m 22 ls []) := by
  have hx := en_x E
  have hb := en_b E
  have hB := en_B E
  refine it_W (fun q : (Int32 × Int32) => ∀ (H : Heap) (locs : List Loc) (ls : Array Slot), HW G s.heap V H locs → lv_has ls 4 [(0, .ref (G.2.2 1)), (1, .int (q.1)), (2, .int (q.2))] → W p l e (rmD 3) s m args below meth c H locs 0 0 Q (F0 m 22 ls [])) x ?_
  intro q r h kc kx
  obtain ⟨u1, u2⟩ := q
  intro H locs ls hw hl
  have h : fX2_isTold_L22 V u1 u2 = some r := h
  have hw : HW G s.heap V H locs := hw
  have hl : lv_has ls 4 [(0, .ref (G.2.2 1)), (1, .int u1), (2, .int u2)] := hl
  have kr : ∀ q : Int32, r = .inr (q) → Q = MQ below (QI G s.heap.size q V) args s 0 0 (gA G s.heap.size) := fun q e => kr q (kx _ e).symm
  unfold fX2_isTold_L22 at h
  refine lv_iload_n hx hb dX2_isTold_22 rfl (lv_at hl 2 rfl) ?_
  refine lv_aload_n hx hb dX2_isTold_23 rfl (lv_at hl 0 rfl) ?_
  refine r_giN E hw 1 1 (N := 6) (C := RX8) (T := TX8) (by decide) rfl rfl (by decide) rfl iw_8 rfl lf_RX2_9 dX2_isTold_24 ?_
  refine lv_icmp_ge (tgt := 60) hx hb dX2_isTold_27 (by decide) (fun c12 => ?_) (fun c12 => ?_)
  · rw [if_pos c12] at h
    refine lv_iconst (v := (1 : Int32)) hx hb dX2_isTold_60 (by decide) ?_
    obtain ⟨z2, h⟩ := zo_some h
    rw [kr (1 : Int32) (Option.some.inj h).symm]
    exact r_rz E hw z2 dX2_isTold_61
  · rw [if_neg c12] at h
    refine lv_aload_n hx hb dX2_isTold_30 rfl (lv_at hl 0 rfl) ?_
    refine lv_iload_n hx hb dX2_isTold_31 rfl (lv_at hl 2 rfl) ?_
    refine lv_iconst (v := (1 : Int32)) hx hb dX2_isTold_32 (by decide) ?_
    refine lv_iadd hx hb dX2_isTold_33 ?_
    obtain ⟨y4, h3, h⟩ := ob_R_some h
    refine c_VI E hw (kX8_byteAt (l := l) (G := G) hB  h3) yy_X8_byteAt lm_RX2_17 rfl (by decide) rfl rfl hl.1 (by decide) (by decide) rfl (Nat.le_of_ble_eq_true rfl) dX2_isTold_34 (fun H locs hw => ?_)
    refine lv_istore_n (lv' := [(3, .int y4), (0, .ref (G.2.2 1)), (1, .int u1), (2, .int u2)]) hx hb dX2_isTold_37 rfl hl (by decide) rfl (fun ls hl => ?_)
    refine lv_aload_n hx hb dX2_isTold_38 rfl (lv_at hl 1 rfl) ?_
    refine lv_iload_n hx hb dX2_isTold_39 rfl (lv_at hl 3 rfl) ?_
    obtain ⟨y6, h5, h⟩ := ob_R_some h
    refine c_VI E hw (kX8_byteAt (l := l) (G := G) hB  h5) yy_X8_byteAt lm_RX2_17 rfl (by decide) rfl rfl hl.1 (by decide) (by decide) rfl (Nat.le_of_ble_eq_true rfl) dX2_isTold_40 (fun H locs hw => ?_)
    refine lv_iload_n hx hb dX2_isTold_43 rfl (lv_at hl 0 rfl) ?_
    refine lv_icmp_gt (tgt := 52) hx hb dX2_isTold_44 (by decide) (fun c11 => ?_) (fun c11 => ?_)
    · rw [if_pos c11] at h
      refine lv_iconst (v := (0 : Int32)) hx hb dX2_isTold_52 (by decide) ?_
      obtain ⟨z7, h⟩ := zo_some h
      rw [kr (0 : Int32) (Option.some.inj h).symm]
      exact r_rz E hw z7 dX2_isTold_53
    · rw [if_neg c11] at h
      refine lv_iload_n hx hb dX2_isTold_47 rfl (lv_at hl 0 rfl) ?_
      refine lv_iload_n hx hb dX2_isTold_48 rfl (lv_at hl 2 rfl) ?_
      refine lv_icmp_lt (tgt := 54) hx hb dX2_isTold_49 (by decide) (fun c10 => ?_) (fun c10 => ?_)
      · rw [if_pos c10] at h
        obtain ⟨y8, ey8, h⟩ := lt_some h
        refine lv_iinc (v := y8) (lv' := [(2, .int y8), (3, .int y4), (0, .ref (G.2.2 1)), (1, .int u1)]) hx hb dX2_isTold_54 hl (k := 3) rfl (by rw [ey8]; rfl) (by decide) rfl (fun ls hl => ?_)
        refine lv_goto (tgt := 22) hx hb dX2_isTold_57 (by decide) ?_
        exact kc (u1, y8) (Option.some.inj h).symm H locs ls hw (lv_sub hl [2, 3, 0] rfl)
      · rw [if_neg c10] at h
        refine lv_iconst (v := (0 : Int32)) hx hb dX2_isTold_52 (by decide) ?_
        obtain ⟨z9, h⟩ := zo_some h
        rw [kr (0 : Int32) (Option.some.inj h).symm]
        exact r_rz E hw z9 dX2_isTold_53
set_option maxHeartbeats 4000000 in
set_option maxRecDepth 100000 in
theorem kX2_isTold {l : Launch} {G : GT} {B : BGt} (hB : BGok B) {V : VT} {x1 : Int32} {r : Int32} (h : fX2_isTold V x1 = some r) : CI l G B yX2_isTold (.code yX2_isTold cX2_isTold 4 (some .boolean)) 3 [.ref (G.2.2 1), .int x1] V r V := by
  intro sz
  refine met_of (Qs := fun sz => QI G sz r V) hB (by decide) (Nat.le_of_ble_eq_true rfl) ?_ sz
  intro p e s m args below meth c ls E hw hl
  have hx := en_x E
  have hb := en_b E
  generalize hQ : MQ _ _ _ _ _ _ _ = Q
  have kr : Q = MQ below (QI G s.heap.size r V) args s 0 0 (gA G s.heap.size) := hQ.symm
  have hl : lv_has ls 4 [(0, .ref (G.2.2 1)), (1, .int x1)] := hl
  obtain ⟨H, eH⟩ : ∃ H, H = s.heap := ⟨_, rfl⟩
  obtain ⟨locs, elocs⟩ : ∃ z : List Loc, z = [] := ⟨_, rfl⟩
  have hw : HW G s.heap V H locs := by rw [eH, elocs]; exact hw
  show W p l e _ s m args below meth c s.heap [] 0 0 Q (F0 m 0 ls [])
  rw [← eH, ← elocs]
  unfold fX2_isTold at h
  refine lv_aload_n hx hb dX2_isTold_0 rfl (lv_at hl 0 rfl) ?_
  refine r_giN E hw 1 1 (N := 6) (C := RX8) (T := TX8) (by decide) rfl rfl (by decide) rfl iw_8 rfl lf_RX2_9 dX2_isTold_1 ?_
  refine lv_bipush (v := (36 : Int32)) hx hb dX2_isTold_4 (by decide) ?_
  refine lv_icmp_gt (tgt := 18) hx hb dX2_isTold_6 (by decide) (fun c17 => ?_) (fun c17 => ?_)
  · rw [if_pos c17] at h
    refine lv_iconst (v := (0 : Int32)) hx hb dX2_isTold_18 (by decide) ?_
    obtain ⟨z1, h⟩ := zo_some h
    have h := Option.some.inj h
    subst h
    rw [kr]
    exact r_rz E hw z1 dX2_isTold_19
  · rw [if_neg c17] at h
    refine lv_aload_n hx hb dX2_isTold_9 rfl (lv_at hl 0 rfl) ?_
    refine r_giN E hw 1 1 (N := 6) (C := RX8) (T := TX8) (by decide) rfl rfl (by decide) rfl iw_8 rfl lf_RX2_9 dX2_isTold_10 ?_
    refine lv_iconst (v := (3 : Int32)) hx hb dX2_isTold_13 (by decide) ?_
    refine lv_irem hx hb dX2_isTold_14 (by decide) ?_
    refine lv_if_eq (tgt := 20) hx hb dX2_isTold_15 (by decide) (fun c16 => ?_) (fun c16 => ?_)
    · rw [if_pos c16] at h
      refine lv_iconst (v := (0 : Int32)) hx hb dX2_isTold_20 (by decide) ?_
      refine lv_istore_n (lv' := [(2, .int (0 : Int32)), (0, .ref (G.2.2 1)), (1, .int x1)]) hx hb dX2_isTold_21 rfl hl (by decide) rfl (fun ls hl => ?_)
      obtain ⟨x14, h13, h⟩ := ob_R_some h
      have h := Option.some.inj h
      subst h
      exact wX2_isTold_L22 E (fun q e => by subst e; exact kr) FV (x1, (0 : Int32)) h13 H locs ls hw (lv_sub hl [1, 2, 0] rfl)
    · rw [if_neg c16] at h
      refine lv_iconst (v := (0 : Int32)) hx hb dX2_isTold_18 (by decide) ?_
      obtain ⟨z15, h⟩ := zo_some h
      have h := Option.some.inj h
      subst h
      rw [kr]
      exact r_rz E hw z15 dX2_isTold_19
/-! ===== AllSawIt$Denial.fits(LAllSawIt$Tape;I)Z ===== -/
theorem dX2_fits_0 : decode cX2_fits 0 = .ok (.iconst 0, 1) := by decide +kernel
theorem dX2_fits_1 : decode cX2_fits 1 = .ok (.istore_n 2, 1) := by decide +kernel
theorem dX2_fits_2 : decode cX2_fits 2 = .ok (.iload_n 2, 1) := by decide +kernel
theorem dX2_fits_3 : decode cX2_fits 3 = .ok (.aload_n 0, 1) := by decide +kernel
theorem dX2_fits_4 : decode cX2_fits 4 = .ok (.getfield 9, 3) := by decide +kernel
theorem dX2_fits_7 : decode cX2_fits 7 = .ok (.if_icmp .ge 57, 3) := by decide +kernel
theorem dX2_fits_10 : decode cX2_fits 10 = .ok (.aload_n 0, 1) := by decide +kernel
theorem dX2_fits_11 : decode cX2_fits 11 = .ok (.iload_n 2, 1) := by decide +kernel
theorem dX2_fits_12 : decode cX2_fits 12 = .ok (.invokevirtual 17, 3) := by decide +kernel
theorem dX2_fits_15 : decode cX2_fits 15 = .ok (.istore_n 3, 1) := by decide +kernel
theorem dX2_fits_16 : decode cX2_fits 16 = .ok (.aload_n 0, 1) := by decide +kernel
theorem dX2_fits_17 : decode cX2_fits 17 = .ok (.iload_n 2, 1) := by decide +kernel
theorem dX2_fits_18 : decode cX2_fits 18 = .ok (.iconst 1, 1) := by decide +kernel
theorem dX2_fits_19 : decode cX2_fits 19 = .ok (.iadd, 1) := by decide +kernel
theorem dX2_fits_20 : decode cX2_fits 20 = .ok (.invokevirtual 17, 3) := by decide +kernel
theorem dX2_fits_23 : decode cX2_fits 23 = .ok (.iload_n 3, 1) := by decide +kernel
theorem dX2_fits_24 : decode cX2_fits 24 = .ok (.isub, 1) := by decide +kernel
theorem dX2_fits_25 : decode cX2_fits 25 = .ok (.iconst 1, 1) := by decide +kernel
theorem dX2_fits_26 : decode cX2_fits 26 = .ok (.iadd, 1) := by decide +kernel
theorem dX2_fits_27 : decode cX2_fits 27 = .ok (.istore 4, 2) := by decide +kernel
theorem dX2_fits_29 : decode cX2_fits 29 = .ok (.iconst 1, 1) := by decide +kernel
theorem dX2_fits_30 : decode cX2_fits 30 = .ok (.iload 4, 2) := by decide +kernel
theorem dX2_fits_32 : decode cX2_fits 32 = .ok (.ishl, 1) := by decide +kernel
theorem dX2_fits_33 : decode cX2_fits 33 = .ok (.iconst 1, 1) := by decide +kernel
theorem dX2_fits_34 : decode cX2_fits 34 = .ok (.isub, 1) := by decide +kernel
theorem dX2_fits_35 : decode cX2_fits 35 = .ok (.iload_n 3, 1) := by decide +kernel
theorem dX2_fits_36 : decode cX2_fits 36 = .ok (.ishl, 1) := by decide +kernel
theorem dX2_fits_37 : decode cX2_fits 37 = .ok (.istore 5, 2) := by decide +kernel
theorem dX2_fits_39 : decode cX2_fits 39 = .ok (.iload_n 1, 1) := by decide +kernel
theorem dX2_fits_40 : decode cX2_fits 40 = .ok (.iload 5, 2) := by decide +kernel
theorem dX2_fits_42 : decode cX2_fits 42 = .ok (.iand, 1) := by decide +kernel
theorem dX2_fits_43 : decode cX2_fits 43 = .ok (.invokestatic 21, 3) := by decide +kernel
theorem dX2_fits_46 : decode cX2_fits 46 = .ok (.aload_n 0, 1) := by decide +kernel
theorem dX2_fits_47 : decode cX2_fits 47 = .ok (.iload_n 2, 1) := by decide +kernel
theorem dX2_fits_48 : decode cX2_fits 48 = .ok (.iconst 2, 1) := by decide +kernel
theorem dX2_fits_49 : decode cX2_fits 49 = .ok (.iadd, 1) := by decide +kernel
theorem dX2_fits_50 : decode cX2_fits 50 = .ok (.invokevirtual 17, 3) := by decide +kernel
theorem dX2_fits_53 : decode cX2_fits 53 = .ok (.if_icmp .eq 5, 3) := by decide +kernel
theorem dX2_fits_56 : decode cX2_fits 56 = .ok (.iconst 0, 1) := by decide +kernel
theorem dX2_fits_57 : decode cX2_fits 57 = .ok (.ireturn, 1) := by decide +kernel
theorem dX2_fits_58 : decode cX2_fits 58 = .ok (.iinc 2 3, 3) := by decide +kernel
theorem dX2_fits_61 : decode cX2_fits 61 = .ok (.goto (-59), 3) := by decide +kernel
theorem dX2_fits_64 : decode cX2_fits 64 = .ok (.iconst 1, 1) := by decide +kernel
theorem dX2_fits_65 : decode cX2_fits 65 = .ok (.ireturn, 1) := by decide +kernel
noncomputable def fX2_fits_L2 (V : VT) (u1 : Int32) (u2 : Int32) : Option ((Int32 × Int32) ⊕ Int32) := if (V 1 1) ≤ u2 then (zo_ (1 : Int32) (some (.inr ((1 : Int32))))) else (ob_R (fX8_byteAt V u2) fun y3 => ob_R (fX8_byteAt V (u2 + (1 : Int32))) fun y5 => lt_ ((y5 - y3) + (1 : Int32)) fun y6 => lt_ ((((1 : Int32) <<< (y6 &&& 31)) - (1 : Int32)) <<< (y3 &&& 31)) fun y7 => ob_R (fJ6_bitCount_0f7a4 V (u1 &&& y7)) fun y9 => ob_R (fX8_byteAt V (u2 + (2 : Int32))) fun y11 => if y9 = y11 then (lt_ (u2 + (3 : Int32)) fun y12 => some (.inl (u1, y12))) else (zo_ (0 : Int32) (some (.inr ((0 : Int32))))))
noncomputable def iX2_fits_L2 (V : VT) : (Int32 × Int32) → Option ((Int32 × Int32) ⊕ Int32) := fun q => fX2_fits_L2 V (q.1) (q.2)
noncomputable def fX2_fits (V : VT) (x1 : Int32) : Option Int32 := ob_R (it_ (iX2_fits_L2 V) FV (x1, (0 : Int32))) fun x17 => some x17
set_option maxHeartbeats 4000000 in
set_option maxRecDepth 100000 in
theorem wX2_fits_L2 {p : Program} {l : Launch} {e : Env} {s : State} {m : MethodId} {args : Array Value} {below : List Frame} {meth : Method} {c : Code} {G : GT} {B : BGt} {Q : State → Prop} (E : En p s m args c meth cX2_fits 6 RX2 (some .boolean) G B) {V : VT} {x : Int32} (kr : ∀ q : Int32, x = q → Q = MQ below (QI G s.heap.size q V) args s 0 0 (gA G s.heap.size)) : ∀ (n : Nat) (q : (Int32 × Int32)), it_ (iX2_fits_L2 V) n q = some x → ∀ (H : Heap) (locs : List Loc) (ls : Array Slot), HW G s.heap V H locs → lv_has ls 6 [(0, .ref (G.2.2 1)), (1, .int (q.1)), (2, .int (q.2))] → W p l e (rmD 3) s m args below meth c H locs 0 0 Q (F0 m 2 ls []) := by
  have hx := en_x E
  have hb := en_b E
  have hB := en_B E
  refine it_W (fun q : (Int32 × Int32) => ∀ (H : Heap) (locs : List Loc) (ls : Array Slot), HW G s.heap V H locs → lv_has ls 6 [(0, .ref (G.2.2 1)), (1, .int (q.1)), (2, .int (q.2))] → W p l e (rmD 3) s m args below meth c H locs 0 0 Q (F0 m 2 ls [])) x ?_
  intro q r h kc kx
  obtain ⟨u1, u2⟩ := q
  intro H locs ls hw hl
  have h : fX2_fits_L2 V u1 u2 = some r := h
  have hw : HW G s.heap V H locs := hw
  have hl : lv_has ls 6 [(0, .ref (G.2.2 1)), (1, .int u1), (2, .int u2)] := hl
  have kr : ∀ q : Int32, r = .inr (q) → Q = MQ below (QI G s.heap.size q V) args s 0 0 (gA G s.heap.size) := fun q e => kr q (kx _ e).symm
  unfold fX2_fits_L2 at h
  refine lv_iload_n hx hb dX2_fits_2 rfl (lv_at hl 2 rfl) ?_
  refine lv_aload_n hx hb dX2_fits_3 rfl (lv_at hl 0 rfl) ?_
  refine r_giN E hw 1 1 (N := 6) (C := RX8) (T := TX8) (by decide) rfl rfl (by decide) rfl iw_8 rfl lf_RX2_9 dX2_fits_4 ?_
  refine lv_icmp_ge (tgt := 64) hx hb dX2_fits_7 (by decide) (fun c15 => ?_) (fun c15 => ?_)
  · rw [if_pos c15] at h
    refine lv_iconst (v := (1 : Int32)) hx hb dX2_fits_64 (by decide) ?_
    obtain ⟨z1, h⟩ := zo_some h
    rw [kr (1 : Int32) (Option.some.inj h).symm]
    exact r_rz E hw z1 dX2_fits_65
  · rw [if_neg c15] at h
    refine lv_aload_n hx hb dX2_fits_10 rfl (lv_at hl 0 rfl) ?_
    refine lv_iload_n hx hb dX2_fits_11 rfl (lv_at hl 2 rfl) ?_
    obtain ⟨y3, h2, h⟩ := ob_R_some h
    refine c_VI E hw (kX8_byteAt (l := l) (G := G) hB  h2) yy_X8_byteAt lm_RX2_17 rfl (by decide) rfl rfl hl.1 (by decide) (by decide) rfl (Nat.le_of_ble_eq_true rfl) dX2_fits_12 (fun H locs hw => ?_)
    refine lv_istore_n (lv' := [(3, .int y3), (0, .ref (G.2.2 1)), (1, .int u1), (2, .int u2)]) hx hb dX2_fits_15 rfl hl (by decide) rfl (fun ls hl => ?_)
    refine lv_aload_n hx hb dX2_fits_16 rfl (lv_at hl 1 rfl) ?_
    refine lv_iload_n hx hb dX2_fits_17 rfl (lv_at hl 3 rfl) ?_
    refine lv_iconst (v := (1 : Int32)) hx hb dX2_fits_18 (by decide) ?_
    refine lv_iadd hx hb dX2_fits_19 ?_
    obtain ⟨y5, h4, h⟩ := ob_R_some h
    refine c_VI E hw (kX8_byteAt (l := l) (G := G) hB  h4) yy_X8_byteAt lm_RX2_17 rfl (by decide) rfl rfl hl.1 (by decide) (by decide) rfl (Nat.le_of_ble_eq_true rfl) dX2_fits_20 (fun H locs hw => ?_)
    refine lv_iload_n hx hb dX2_fits_23 rfl (lv_at hl 0 rfl) ?_
    refine lv_isub hx hb dX2_fits_24 ?_
    refine lv_iconst (v := (1 : Int32)) hx hb dX2_fits_25 (by decide) ?_
    refine lv_iadd hx hb dX2_fits_26 ?_
    obtain ⟨y6, ey6, h⟩ := lt_some h
    refine lv_eqi ey6 ?_
    refine lv_istore (lv' := [(4, .int y6), (3, .int y3), (0, .ref (G.2.2 1)), (1, .int u1), (2, .int u2)]) hx hb dX2_fits_27 hl (by decide) rfl (fun ls hl => ?_)
    refine lv_iconst (v := (1 : Int32)) hx hb dX2_fits_29 (by decide) ?_
    refine lv_iload hx hb dX2_fits_30 (lv_at hl 0 rfl) ?_
    refine lv_ishl hx hb dX2_fits_32 ?_
    refine lv_iconst (v := (1 : Int32)) hx hb dX2_fits_33 (by decide) ?_
    refine lv_isub hx hb dX2_fits_34 ?_
    refine lv_iload_n hx hb dX2_fits_35 rfl (lv_at hl 1 rfl) ?_
    refine lv_ishl hx hb dX2_fits_36 ?_
    obtain ⟨y7, ey7, h⟩ := lt_some h
    refine lv_eqi ey7 ?_
    refine lv_istore (lv' := [(5, .int y7), (4, .int y6), (3, .int y3), (0, .ref (G.2.2 1)), (1, .int u1), (2, .int u2)]) hx hb dX2_fits_37 hl (by decide) rfl (fun ls hl => ?_)
    refine lv_iload_n hx hb dX2_fits_39 rfl (lv_at hl 4 rfl) ?_
    refine lv_iload hx hb dX2_fits_40 (lv_at hl 0 rfl) ?_
    refine lv_iand hx hb dX2_fits_42 ?_
    obtain ⟨y9, h8, h⟩ := ob_R_some h
    refine c_SI E hw (kJ6_bitCount_0f7a4 (l := l) (G := G) hB  h8) yy_J6_bitCount_0f7a4 lm_RX2_21 rfl hl.1 (by decide) (by decide) rfl (Nat.le_of_ble_eq_true rfl) dX2_fits_43 (fun H locs hw => ?_)
    refine lv_aload_n hx hb dX2_fits_46 rfl (lv_at hl 3 rfl) ?_
    refine lv_iload_n hx hb dX2_fits_47 rfl (lv_at hl 5 rfl) ?_
    refine lv_iconst (v := (2 : Int32)) hx hb dX2_fits_48 (by decide) ?_
    refine lv_iadd hx hb dX2_fits_49 ?_
    obtain ⟨y11, h10, h⟩ := ob_R_some h
    refine c_VI E hw (kX8_byteAt (l := l) (G := G) hB  h10) yy_X8_byteAt lm_RX2_17 rfl (by decide) rfl rfl hl.1 (by decide) (by decide) rfl (Nat.le_of_ble_eq_true rfl) dX2_fits_50 (fun H locs hw => ?_)
    refine lv_icmp_eq (tgt := 58) hx hb dX2_fits_53 (by decide) (fun c14 => ?_) (fun c14 => ?_)
    · rw [if_pos c14] at h
      obtain ⟨y12, ey12, h⟩ := lt_some h
      refine lv_iinc (v := y12) (lv' := [(2, .int y12), (5, .int y7), (4, .int y6), (3, .int y3), (0, .ref (G.2.2 1)), (1, .int u1)]) hx hb dX2_fits_58 hl (k := 5) rfl (by rw [ey12]; rfl) (by decide) rfl (fun ls hl => ?_)
      refine lv_goto (tgt := 2) hx hb dX2_fits_61 (by decide) ?_
      exact kc (u1, y12) (Option.some.inj h).symm H locs ls hw (lv_sub hl [4, 5, 0] rfl)
    · rw [if_neg c14] at h
      refine lv_iconst (v := (0 : Int32)) hx hb dX2_fits_56 (by decide) ?_
      obtain ⟨z13, h⟩ := zo_some h
      rw [kr (0 : Int32) (Option.some.inj h).symm]
      exact r_rz E hw z13 dX2_fits_57
set_option maxHeartbeats 4000000 in
set_option maxRecDepth 100000 in
theorem kX2_fits {l : Launch} {G : GT} {B : BGt} (hB : BGok B) {V : VT} {x1 : Int32} {r : Int32} (h : fX2_fits V x1 = some r) : CI l G B yX2_fits (.code yX2_fits cX2_fits 6 (some .boolean)) 3 [.ref (G.2.2 1), .int x1] V r V := by
  intro sz
  refine met_of (Qs := fun sz => QI G sz r V) hB (by decide) (Nat.le_of_ble_eq_true rfl) ?_ sz
  intro p e s m args below meth c ls E hw hl
  have hx := en_x E
  have hb := en_b E
  generalize hQ : MQ _ _ _ _ _ _ _ = Q
  have kr : Q = MQ below (QI G s.heap.size r V) args s 0 0 (gA G s.heap.size) := hQ.symm
  have hl : lv_has ls 6 [(0, .ref (G.2.2 1)), (1, .int x1)] := hl
  obtain ⟨H, eH⟩ : ∃ H, H = s.heap := ⟨_, rfl⟩
  obtain ⟨locs, elocs⟩ : ∃ z : List Loc, z = [] := ⟨_, rfl⟩
  have hw : HW G s.heap V H locs := by rw [eH, elocs]; exact hw
  show W p l e _ s m args below meth c s.heap [] 0 0 Q (F0 m 0 ls [])
  rw [← eH, ← elocs]
  unfold fX2_fits at h
  refine lv_iconst (v := (0 : Int32)) hx hb dX2_fits_0 (by decide) ?_
  refine lv_istore_n (lv' := [(2, .int (0 : Int32)), (0, .ref (G.2.2 1)), (1, .int x1)]) hx hb dX2_fits_1 rfl hl (by decide) rfl (fun ls hl => ?_)
  obtain ⟨x17, h16, h⟩ := ob_R_some h
  have h := Option.some.inj h
  subst h
  exact wX2_fits_L2 E (fun q e => by subst e; exact kr) FV (x1, (0 : Int32)) h16 H locs ls hw (lv_sub hl [1, 2, 0] rfl)
/-! ===== AllSawIt$Denial.fitting(LAllSawIt$Tape;II)I ===== -/
theorem dX2_fitting_0 : decode cX2_fitting 0 = .ok (.iconst 0, 1) := by decide +kernel
theorem dX2_fitting_1 : decode cX2_fitting 1 = .ok (.istore_n 3, 1) := by decide +kernel
theorem dX2_fitting_2 : decode cX2_fitting 2 = .ok (.iconst 0, 1) := by decide +kernel
theorem dX2_fitting_3 : decode cX2_fitting 3 = .ok (.istore 4, 2) := by decide +kernel
theorem dX2_fitting_5 : decode cX2_fitting 5 = .ok (.iload 4, 2) := by decide +kernel
theorem dX2_fitting_7 : decode cX2_fitting 7 = .ok (.iconst 1, 1) := by decide +kernel
theorem dX2_fitting_8 : decode cX2_fitting 8 = .ok (.iload_n 1, 1) := by decide +kernel
theorem dX2_fitting_9 : decode cX2_fitting 9 = .ok (.ishl, 1) := by decide +kernel
theorem dX2_fitting_10 : decode cX2_fitting 10 = .ok (.if_icmp .ge 29, 3) := by decide +kernel
theorem dX2_fitting_13 : decode cX2_fitting 13 = .ok (.iload 4, 2) := by decide +kernel
theorem dX2_fitting_15 : decode cX2_fitting 15 = .ok (.iload_n 2, 1) := by decide +kernel
theorem dX2_fitting_16 : decode cX2_fitting 16 = .ok (.iand, 1) := by decide +kernel
theorem dX2_fitting_17 : decode cX2_fitting 17 = .ok (.iload_n 2, 1) := by decide +kernel
theorem dX2_fitting_18 : decode cX2_fitting 18 = .ok (.if_icmp .ne 15, 3) := by decide +kernel
theorem dX2_fitting_21 : decode cX2_fitting 21 = .ok (.aload_n 0, 1) := by decide +kernel
theorem dX2_fitting_22 : decode cX2_fitting 22 = .ok (.iload 4, 2) := by decide +kernel
theorem dX2_fitting_24 : decode cX2_fitting 24 = .ok (.invokestatic 26, 3) := by decide +kernel
theorem dX2_fitting_27 : decode cX2_fitting 27 = .ok (.ifCond .eq 6, 3) := by decide +kernel
theorem dX2_fitting_30 : decode cX2_fitting 30 = .ok (.iinc 3 1, 3) := by decide +kernel
theorem dX2_fitting_33 : decode cX2_fitting 33 = .ok (.iinc 4 1, 3) := by decide +kernel
theorem dX2_fitting_36 : decode cX2_fitting 36 = .ok (.goto (-31), 3) := by decide +kernel
theorem dX2_fitting_39 : decode cX2_fitting 39 = .ok (.iload_n 3, 1) := by decide +kernel
theorem dX2_fitting_40 : decode cX2_fitting 40 = .ok (.ireturn, 1) := by decide +kernel
noncomputable def fX2_fitting_L5 (V : VT) (u1 : Int32) (u2 : Int32) (u3 : Int32) (u4 : Int32) : Option ((Int32 × Int32 × Int32 × Int32) ⊕ Int32) := if ((1 : Int32) <<< (u1 &&& 31)) ≤ u4 then (some (.inr (u3))) else (if (u4 &&& u2) = u2 then (ob_R (fX2_fits V u4) fun y3 => if y3 = 0 then (lt_ (u4 + (1 : Int32)) fun y4 => some (.inl (u1, u2, u3, y4))) else (lt_ (u3 + (1 : Int32)) fun y5 => lt_ (u4 + (1 : Int32)) fun y6 => some (.inl (u1, u2, y5, y6)))) else (lt_ (u4 + (1 : Int32)) fun y1 => some (.inl (u1, u2, u3, y1))))
noncomputable def iX2_fitting_L5 (V : VT) : (Int32 × Int32 × Int32 × Int32) → Option ((Int32 × Int32 × Int32 × Int32) ⊕ Int32) := fun q => fX2_fitting_L5 V (q.1) (q.2.1) (q.2.2.1) (q.2.2.2)
noncomputable def fX2_fitting (V : VT) (x1 : Int32) (x2 : Int32) : Option Int32 := ob_R (it_ (iX2_fitting_L5 V) FV (x1, x2, (0 : Int32), (0 : Int32))) fun x11 => some x11
set_option maxHeartbeats 4000000 in
set_option maxRecDepth 100000 in
theorem wX2_fitting_L5 {p : Program} {l : Launch} {e : Env} {s : State} {m : MethodId} {args : Array Value} {below : List Frame} {meth : Method} {c : Code} {G : GT} {B : BGt} {Q : State → Prop} (E : En p s m args c meth cX2_fitting 5 RX2 (some .int) G B) {V : VT} {x : Int32} (kr : ∀ q : Int32, x = q → Q = MQ below (QI G s.heap.size q V) args s 0 0 (gA G s.heap.size)) : ∀ (n : Nat) (q : (Int32 × Int32 × Int32 × Int32)), it_ (iX2_fitting_L5 V) n q = some x → ∀ (H : Heap) (locs : List Loc) (ls : Array Slot), HW G s.heap V H locs → lv_has ls 5 [(0, .ref (G.2.2 1)), (1, .int (q.1)), (2, .int (q.2.1)), (3, .int (q.2.2.1)), (4, .int (q.2.2.2))] → W p l e (rmD 4) s m args below meth c H locs 0 0 Q (F0 m 5 ls []) := by
  have hx := en_x E
  have hb := en_b E
  have hB := en_B E
  refine it_W (fun q : (Int32 × Int32 × Int32 × Int32) => ∀ (H : Heap) (locs : List Loc) (ls : Array Slot), HW G s.heap V H locs → lv_has ls 5 [(0, .ref (G.2.2 1)), (1, .int (q.1)), (2, .int (q.2.1)), (3, .int (q.2.2.1)), (4, .int (q.2.2.2))] → W p l e (rmD 4) s m args below meth c H locs 0 0 Q (F0 m 5 ls [])) x ?_
  intro q r h kc kx
  obtain ⟨u1, u2, u3, u4⟩ := q
  intro H locs ls hw hl
  have h : fX2_fitting_L5 V u1 u2 u3 u4 = some r := h
  have hw : HW G s.heap V H locs := hw
  have hl : lv_has ls 5 [(0, .ref (G.2.2 1)), (1, .int u1), (2, .int u2), (3, .int u3), (4, .int u4)] := hl
  have kr : ∀ q : Int32, r = .inr (q) → Q = MQ below (QI G s.heap.size q V) args s 0 0 (gA G s.heap.size) := fun q e => kr q (kx _ e).symm
  unfold fX2_fitting_L5 at h
  refine lv_iload hx hb dX2_fitting_5 (lv_at hl 4 rfl) ?_
  refine lv_iconst (v := (1 : Int32)) hx hb dX2_fitting_7 (by decide) ?_
  refine lv_iload_n hx hb dX2_fitting_8 rfl (lv_at hl 1 rfl) ?_
  refine lv_ishl hx hb dX2_fitting_9 ?_
  refine lv_icmp_ge (tgt := 39) hx hb dX2_fitting_10 (by decide) (fun c9 => ?_) (fun c9 => ?_)
  · rw [if_pos c9] at h
    refine lv_iload_n hx hb dX2_fitting_39 rfl (lv_at hl 3 rfl) ?_
    rw [kr u3 (Option.some.inj h).symm]
    exact r_ri E hw dX2_fitting_40
  · rw [if_neg c9] at h
    refine lv_iload hx hb dX2_fitting_13 (lv_at hl 4 rfl) ?_
    refine lv_iload_n hx hb dX2_fitting_15 rfl (lv_at hl 2 rfl) ?_
    refine lv_iand hx hb dX2_fitting_16 ?_
    refine lv_iload_n hx hb dX2_fitting_17 rfl (lv_at hl 2 rfl) ?_
    refine lv_icmp_ne (tgt := 33) hx hb dX2_fitting_18 (by decide) (fun c8 => ?_) (fun c8 => ?_)
    · rw [if_neg c8] at h
      obtain ⟨y1, ey1, h⟩ := lt_some h
      refine lv_iinc (v := y1) (lv' := [(4, .int y1), (0, .ref (G.2.2 1)), (1, .int u1), (2, .int u2), (3, .int u3)]) hx hb dX2_fitting_33 hl (k := 4) rfl (by rw [ey1]; rfl) (by decide) rfl (fun ls hl => ?_)
      refine lv_goto (tgt := 5) hx hb dX2_fitting_36 (by decide) ?_
      exact kc (u1, u2, u3, y1) (Option.some.inj h).symm H locs ls hw (lv_sub hl [1, 2, 3, 4, 0] rfl)
    · rw [if_pos c8] at h
      refine lv_aload_n hx hb dX2_fitting_21 rfl (lv_at hl 0 rfl) ?_
      refine lv_iload hx hb dX2_fitting_22 (lv_at hl 4 rfl) ?_
      obtain ⟨y3, h2, h⟩ := ob_R_some h
      refine c_SI E hw (kX2_fits (l := l) (G := G) hB  h2) yy_X2_fits lm_RX2_26 rfl hl.1 (by decide) (by decide) rfl (Nat.le_of_ble_eq_true rfl) dX2_fitting_24 (fun H locs hw => ?_)
      refine lv_if_eq (tgt := 33) hx hb dX2_fitting_27 (by decide) (fun c7 => ?_) (fun c7 => ?_)
      · rw [if_pos c7] at h
        obtain ⟨y4, ey4, h⟩ := lt_some h
        refine lv_iinc (v := y4) (lv' := [(4, .int y4), (0, .ref (G.2.2 1)), (1, .int u1), (2, .int u2), (3, .int u3)]) hx hb dX2_fitting_33 hl (k := 4) rfl (by rw [ey4]; rfl) (by decide) rfl (fun ls hl => ?_)
        refine lv_goto (tgt := 5) hx hb dX2_fitting_36 (by decide) ?_
        exact kc (u1, u2, u3, y4) (Option.some.inj h).symm H locs ls hw (lv_sub hl [1, 2, 3, 4, 0] rfl)
      · rw [if_neg c7] at h
        obtain ⟨y5, ey5, h⟩ := lt_some h
        refine lv_iinc (v := y5) (lv' := [(3, .int y5), (0, .ref (G.2.2 1)), (1, .int u1), (2, .int u2), (4, .int u4)]) hx hb dX2_fitting_30 hl (k := 3) rfl (by rw [ey5]; rfl) (by decide) rfl (fun ls hl => ?_)
        obtain ⟨y6, ey6, h⟩ := lt_some h
        refine lv_iinc (v := y6) (lv' := [(4, .int y6), (3, .int y5), (0, .ref (G.2.2 1)), (1, .int u1), (2, .int u2)]) hx hb dX2_fitting_33 hl (k := 4) rfl (by rw [ey6]; rfl) (by decide) rfl (fun ls hl => ?_)
        refine lv_goto (tgt := 5) hx hb dX2_fitting_36 (by decide) ?_
        exact kc (u1, u2, y5, y6) (Option.some.inj h).symm H locs ls hw (lv_sub hl [2, 3, 4, 1, 0] rfl)
set_option maxHeartbeats 4000000 in
set_option maxRecDepth 100000 in
theorem kX2_fitting {l : Launch} {G : GT} {B : BGt} (hB : BGok B) {V : VT} {x1 : Int32} {x2 : Int32} {r : Int32} (h : fX2_fitting V x1 x2 = some r) : CI l G B yX2_fitting (.code yX2_fitting cX2_fitting 5 (some .int)) 4 [.ref (G.2.2 1), .int x1, .int x2] V r V := by
  intro sz
  refine met_of (Qs := fun sz => QI G sz r V) hB (by decide) (Nat.le_of_ble_eq_true rfl) ?_ sz
  intro p e s m args below meth c ls E hw hl
  have hx := en_x E
  have hb := en_b E
  generalize hQ : MQ _ _ _ _ _ _ _ = Q
  have kr : Q = MQ below (QI G s.heap.size r V) args s 0 0 (gA G s.heap.size) := hQ.symm
  have hl : lv_has ls 5 [(0, .ref (G.2.2 1)), (1, .int x1), (2, .int x2)] := hl
  obtain ⟨H, eH⟩ : ∃ H, H = s.heap := ⟨_, rfl⟩
  obtain ⟨locs, elocs⟩ : ∃ z : List Loc, z = [] := ⟨_, rfl⟩
  have hw : HW G s.heap V H locs := by rw [eH, elocs]; exact hw
  show W p l e _ s m args below meth c s.heap [] 0 0 Q (F0 m 0 ls [])
  rw [← eH, ← elocs]
  unfold fX2_fitting at h
  refine lv_iconst (v := (0 : Int32)) hx hb dX2_fitting_0 (by decide) ?_
  refine lv_istore_n (lv' := [(3, .int (0 : Int32)), (0, .ref (G.2.2 1)), (1, .int x1), (2, .int x2)]) hx hb dX2_fitting_1 rfl hl (by decide) rfl (fun ls hl => ?_)
  refine lv_iconst (v := (0 : Int32)) hx hb dX2_fitting_2 (by decide) ?_
  refine lv_istore (lv' := [(4, .int (0 : Int32)), (3, .int (0 : Int32)), (0, .ref (G.2.2 1)), (1, .int x1), (2, .int x2)]) hx hb dX2_fitting_3 hl (by decide) rfl (fun ls hl => ?_)
  obtain ⟨x11, h10, h⟩ := ob_R_some h
  have h := Option.some.inj h
  subst h
  exact wX2_fitting_L5 E (fun q e => by subst e; exact kr) FV (x1, x2, (0 : Int32), (0 : Int32)) h10 H locs ls hw (lv_sub hl [2, 3, 4, 1, 0] rfl)
/-! ===== AllSawIt$Denial.inAll(LAllSawIt$Tape;I)I ===== -/
theorem dX2_inAll_0 : decode cX2_inAll 0 = .ok (.iconst 1, 1) := by decide +kernel
theorem dX2_inAll_1 : decode cX2_inAll 1 = .ok (.iload_n 1, 1) := by decide +kernel
theorem dX2_inAll_2 : decode cX2_inAll 2 = .ok (.ishl, 1) := by decide +kernel
theorem dX2_inAll_3 : decode cX2_inAll 3 = .ok (.iconst 1, 1) := by decide +kernel
theorem dX2_inAll_4 : decode cX2_inAll 4 = .ok (.isub, 1) := by decide +kernel
theorem dX2_inAll_5 : decode cX2_inAll 5 = .ok (.istore_n 2, 1) := by decide +kernel
theorem dX2_inAll_6 : decode cX2_inAll 6 = .ok (.iconst 1, 1) := by decide +kernel
theorem dX2_inAll_7 : decode cX2_inAll 7 = .ok (.istore_n 3, 1) := by decide +kernel
theorem dX2_inAll_8 : decode cX2_inAll 8 = .ok (.iconst 0, 1) := by decide +kernel
theorem dX2_inAll_9 : decode cX2_inAll 9 = .ok (.istore 4, 2) := by decide +kernel
theorem dX2_inAll_11 : decode cX2_inAll 11 = .ok (.iload 4, 2) := by decide +kernel
theorem dX2_inAll_13 : decode cX2_inAll 13 = .ok (.iconst 1, 1) := by decide +kernel
theorem dX2_inAll_14 : decode cX2_inAll 14 = .ok (.iload_n 1, 1) := by decide +kernel
theorem dX2_inAll_15 : decode cX2_inAll 15 = .ok (.ishl, 1) := by decide +kernel
theorem dX2_inAll_16 : decode cX2_inAll 16 = .ok (.if_icmp .ge 25, 3) := by decide +kernel
theorem dX2_inAll_19 : decode cX2_inAll 19 = .ok (.aload_n 0, 1) := by decide +kernel
theorem dX2_inAll_20 : decode cX2_inAll 20 = .ok (.iload 4, 2) := by decide +kernel
theorem dX2_inAll_22 : decode cX2_inAll 22 = .ok (.invokestatic 26, 3) := by decide +kernel
theorem dX2_inAll_25 : decode cX2_inAll 25 = .ok (.ifCond .eq 10, 3) := by decide +kernel
theorem dX2_inAll_28 : decode cX2_inAll 28 = .ok (.iload_n 2, 1) := by decide +kernel
theorem dX2_inAll_29 : decode cX2_inAll 29 = .ok (.iload 4, 2) := by decide +kernel
theorem dX2_inAll_31 : decode cX2_inAll 31 = .ok (.iand, 1) := by decide +kernel
theorem dX2_inAll_32 : decode cX2_inAll 32 = .ok (.istore_n 2, 1) := by decide +kernel
theorem dX2_inAll_33 : decode cX2_inAll 33 = .ok (.iconst 0, 1) := by decide +kernel
theorem dX2_inAll_34 : decode cX2_inAll 34 = .ok (.istore_n 3, 1) := by decide +kernel
theorem dX2_inAll_35 : decode cX2_inAll 35 = .ok (.iinc 4 1, 3) := by decide +kernel
theorem dX2_inAll_38 : decode cX2_inAll 38 = .ok (.goto (-27), 3) := by decide +kernel
theorem dX2_inAll_41 : decode cX2_inAll 41 = .ok (.iload_n 3, 1) := by decide +kernel
theorem dX2_inAll_42 : decode cX2_inAll 42 = .ok (.ifCond .eq 7, 3) := by decide +kernel
theorem dX2_inAll_45 : decode cX2_inAll 45 = .ok (.iconst 0, 1) := by decide +kernel
theorem dX2_inAll_46 : decode cX2_inAll 46 = .ok (.goto 4, 3) := by decide +kernel
theorem dX2_inAll_49 : decode cX2_inAll 49 = .ok (.iload_n 2, 1) := by decide +kernel
theorem dX2_inAll_50 : decode cX2_inAll 50 = .ok (.ireturn, 1) := by decide +kernel
noncomputable def fX2_inAll_L11 (V : VT) (u1 : Int32) (u2 : Int32) (u3 : Int32) (u4 : Int32) : Option ((Int32 × Int32 × Int32 × Int32) ⊕ (Int32 × Int32)) := if ((1 : Int32) <<< (u1 &&& 31)) ≤ u4 then (some (.inr ((u2, u3)))) else (ob_R (fX2_fits V u4) fun y3 => if y3 = 0 then (lt_ (u4 + (1 : Int32)) fun y4 => some (.inl (u1, u2, u3, y4))) else (lt_ (u2 &&& u4) fun y5 => lt_ (u4 + (1 : Int32)) fun y6 => some (.inl (u1, y5, (0 : Int32), y6))))
noncomputable def iX2_inAll_L11 (V : VT) : (Int32 × Int32 × Int32 × Int32) → Option ((Int32 × Int32 × Int32 × Int32) ⊕ (Int32 × Int32)) := fun q => fX2_inAll_L11 V (q.1) (q.2.1) (q.2.2.1) (q.2.2.2)
noncomputable def fX2_inAll (V : VT) (x1 : Int32) : Option Int32 := lt_ (((1 : Int32) <<< (x1 &&& 31)) - (1 : Int32)) fun y1 => ob_R (it_ (iX2_inAll_L11 V) FV (x1, y1, (1 : Int32), (0 : Int32))) fun x10 => (dt2_ x10 fun y11 y12 => if y12 = 0 then (some y11) else (some (0 : Int32)))
set_option maxHeartbeats 4000000 in
set_option maxRecDepth 100000 in
theorem wX2_inAll_L11 {p : Program} {l : Launch} {e : Env} {s : State} {m : MethodId} {args : Array Value} {below : List Frame} {meth : Method} {c : Code} {G : GT} {B : BGt} {Q : State → Prop} (E : En p s m args c meth cX2_inAll 5 RX2 (some .int) G B) {V : VT} {x : (Int32 × Int32)} (ke : ∀ q : (Int32 × Int32), x = q → ∀ (H : Heap) (locs : List Loc) (ls : Array Slot), HW G s.heap V H locs → lv_has ls 5 [(2, .int (q.1)), (3, .int (q.2))] → W p l e (rmD 4) s m args below meth c H locs 0 0 Q (F0 m 41 ls [])) : ∀ (n : Nat) (q : (Int32 × Int32 × Int32 × Int32)), it_ (iX2_inAll_L11 V) n q = some x → ∀ (H : Heap) (locs : List Loc) (ls : Array Slot), HW G s.heap V H locs → lv_has ls 5 [(0, .ref (G.2.2 1)), (1, .int (q.1)), (2, .int (q.2.1)), (3, .int (q.2.2.1)), (4, .int (q.2.2.2))] → W p l e (rmD 4) s m args below meth c H locs 0 0 Q (F0 m 11 ls []) := by
  have hx := en_x E
  have hb := en_b E
  have hB := en_B E
  refine it_W (fun q : (Int32 × Int32 × Int32 × Int32) => ∀ (H : Heap) (locs : List Loc) (ls : Array Slot), HW G s.heap V H locs → lv_has ls 5 [(0, .ref (G.2.2 1)), (1, .int (q.1)), (2, .int (q.2.1)), (3, .int (q.2.2.1)), (4, .int (q.2.2.2))] → W p l e (rmD 4) s m args below meth c H locs 0 0 Q (F0 m 11 ls [])) x ?_
  intro q r h kc kx
  obtain ⟨u1, u2, u3, u4⟩ := q
  intro H locs ls hw hl
  have h : fX2_inAll_L11 V u1 u2 u3 u4 = some r := h
  have hw : HW G s.heap V H locs := hw
  have hl : lv_has ls 5 [(0, .ref (G.2.2 1)), (1, .int u1), (2, .int u2), (3, .int u3), (4, .int u4)] := hl
  have ke : ∀ q : (Int32 × Int32), r = .inr (q) → ∀ (H : Heap) (locs : List Loc) (ls : Array Slot), HW G s.heap V H locs → lv_has ls 5 [(2, .int (q.1)), (3, .int (q.2))] → W p l e (rmD 4) s m args below meth c H locs 0 0 Q (F0 m 41 ls []) := fun q e => ke q (kx _ e).symm
  unfold fX2_inAll_L11 at h
  refine lv_iload hx hb dX2_inAll_11 (lv_at hl 4 rfl) ?_
  refine lv_iconst (v := (1 : Int32)) hx hb dX2_inAll_13 (by decide) ?_
  refine lv_iload_n hx hb dX2_inAll_14 rfl (lv_at hl 1 rfl) ?_
  refine lv_ishl hx hb dX2_inAll_15 ?_
  refine lv_icmp_ge (tgt := 41) hx hb dX2_inAll_16 (by decide) (fun c8 => ?_) (fun c8 => ?_)
  · rw [if_pos c8] at h
    exact ke (u2, u3) (Option.some.inj h).symm H locs ls hw (lv_sub hl [2, 3] rfl)
  · rw [if_neg c8] at h
    refine lv_aload_n hx hb dX2_inAll_19 rfl (lv_at hl 0 rfl) ?_
    refine lv_iload hx hb dX2_inAll_20 (lv_at hl 4 rfl) ?_
    obtain ⟨y3, h2, h⟩ := ob_R_some h
    refine c_SI E hw (kX2_fits (l := l) (G := G) hB  h2) yy_X2_fits lm_RX2_26 rfl hl.1 (by decide) (by decide) rfl (Nat.le_of_ble_eq_true rfl) dX2_inAll_22 (fun H locs hw => ?_)
    refine lv_if_eq (tgt := 35) hx hb dX2_inAll_25 (by decide) (fun c7 => ?_) (fun c7 => ?_)
    · rw [if_pos c7] at h
      obtain ⟨y4, ey4, h⟩ := lt_some h
      refine lv_iinc (v := y4) (lv' := [(4, .int y4), (0, .ref (G.2.2 1)), (1, .int u1), (2, .int u2), (3, .int u3)]) hx hb dX2_inAll_35 hl (k := 4) rfl (by rw [ey4]; rfl) (by decide) rfl (fun ls hl => ?_)
      refine lv_goto (tgt := 11) hx hb dX2_inAll_38 (by decide) ?_
      exact kc (u1, u2, u3, y4) (Option.some.inj h).symm H locs ls hw (lv_sub hl [1, 2, 3, 4, 0] rfl)
    · rw [if_neg c7] at h
      refine lv_iload_n hx hb dX2_inAll_28 rfl (lv_at hl 2 rfl) ?_
      refine lv_iload hx hb dX2_inAll_29 (lv_at hl 4 rfl) ?_
      refine lv_iand hx hb dX2_inAll_31 ?_
      obtain ⟨y5, ey5, h⟩ := lt_some h
      refine lv_eqi ey5 ?_
      refine lv_istore_n (lv' := [(2, .int y5), (0, .ref (G.2.2 1)), (1, .int u1), (3, .int u3), (4, .int u4)]) hx hb dX2_inAll_32 rfl hl (by decide) rfl (fun ls hl => ?_)
      refine lv_iconst (v := (0 : Int32)) hx hb dX2_inAll_33 (by decide) ?_
      refine lv_istore_n (lv' := [(3, .int (0 : Int32)), (2, .int y5), (0, .ref (G.2.2 1)), (1, .int u1), (4, .int u4)]) hx hb dX2_inAll_34 rfl hl (by decide) rfl (fun ls hl => ?_)
      obtain ⟨y6, ey6, h⟩ := lt_some h
      refine lv_iinc (v := y6) (lv' := [(4, .int y6), (3, .int (0 : Int32)), (2, .int y5), (0, .ref (G.2.2 1)), (1, .int u1)]) hx hb dX2_inAll_35 hl (k := 4) rfl (by rw [ey6]; rfl) (by decide) rfl (fun ls hl => ?_)
      refine lv_goto (tgt := 11) hx hb dX2_inAll_38 (by decide) ?_
      exact kc (u1, y5, (0 : Int32), y6) (Option.some.inj h).symm H locs ls hw (lv_sub hl [3, 4, 2, 1, 0] rfl)
set_option maxHeartbeats 4000000 in
set_option maxRecDepth 100000 in
theorem kX2_inAll {l : Launch} {G : GT} {B : BGt} (hB : BGok B) {V : VT} {x1 : Int32} {r : Int32} (h : fX2_inAll V x1 = some r) : CI l G B yX2_inAll (.code yX2_inAll cX2_inAll 5 (some .int)) 4 [.ref (G.2.2 1), .int x1] V r V := by
  intro sz
  refine met_of (Qs := fun sz => QI G sz r V) hB (by decide) (Nat.le_of_ble_eq_true rfl) ?_ sz
  intro p e s m args below meth c ls E hw hl
  have hx := en_x E
  have hb := en_b E
  generalize hQ : MQ _ _ _ _ _ _ _ = Q
  have kr : Q = MQ below (QI G s.heap.size r V) args s 0 0 (gA G s.heap.size) := hQ.symm
  have hl : lv_has ls 5 [(0, .ref (G.2.2 1)), (1, .int x1)] := hl
  obtain ⟨H, eH⟩ : ∃ H, H = s.heap := ⟨_, rfl⟩
  obtain ⟨locs, elocs⟩ : ∃ z : List Loc, z = [] := ⟨_, rfl⟩
  have hw : HW G s.heap V H locs := by rw [eH, elocs]; exact hw
  show W p l e _ s m args below meth c s.heap [] 0 0 Q (F0 m 0 ls [])
  rw [← eH, ← elocs]
  unfold fX2_inAll at h
  refine lv_iconst (v := (1 : Int32)) hx hb dX2_inAll_0 (by decide) ?_
  refine lv_iload_n hx hb dX2_inAll_1 rfl (lv_at hl 1 rfl) ?_
  refine lv_ishl hx hb dX2_inAll_2 ?_
  refine lv_iconst (v := (1 : Int32)) hx hb dX2_inAll_3 (by decide) ?_
  refine lv_isub hx hb dX2_inAll_4 ?_
  obtain ⟨y1, ey1, h⟩ := lt_some h
  refine lv_eqi ey1 ?_
  refine lv_istore_n (lv' := [(2, .int y1), (0, .ref (G.2.2 1)), (1, .int x1)]) hx hb dX2_inAll_5 rfl hl (by decide) rfl (fun ls hl => ?_)
  refine lv_iconst (v := (1 : Int32)) hx hb dX2_inAll_6 (by decide) ?_
  refine lv_istore_n (lv' := [(3, .int (1 : Int32)), (2, .int y1), (0, .ref (G.2.2 1)), (1, .int x1)]) hx hb dX2_inAll_7 rfl hl (by decide) rfl (fun ls hl => ?_)
  refine lv_iconst (v := (0 : Int32)) hx hb dX2_inAll_8 (by decide) ?_
  refine lv_istore (lv' := [(4, .int (0 : Int32)), (3, .int (1 : Int32)), (2, .int y1), (0, .ref (G.2.2 1)), (1, .int x1)]) hx hb dX2_inAll_9 hl (by decide) rfl (fun ls hl => ?_)
  obtain ⟨x10, h9, h⟩ := ob_R_some h
  obtain ⟨y11, y12⟩ := x10
  refine wX2_inAll_L11 E (fun q e H locs ls hw hl => ?_) FV (x1, y1, (1 : Int32), (0 : Int32)) h9 H locs ls hw (lv_sub hl [3, 4, 2, 1, 0] rfl)
  subst e
  have hw : HW G s.heap V H locs := hw
  have hl : lv_has ls 5 [(2, .int y11), (3, .int y12)] := hl
  have h := dt2_eq h
  refine lv_iload_n hx hb dX2_inAll_41 rfl (lv_at hl 1 rfl) ?_
  refine lv_if_eq (tgt := 49) hx hb dX2_inAll_42 (by decide) (fun c13 => ?_) (fun c13 => ?_)
  · rw [if_pos c13] at h
    refine lv_iload_n hx hb dX2_inAll_49 rfl (lv_at hl 0 rfl) ?_
    have h := Option.some.inj h
    subst h
    rw [kr]
    exact r_ri E hw dX2_inAll_50
  · rw [if_neg c13] at h
    refine lv_iconst (v := (0 : Int32)) hx hb dX2_inAll_45 (by decide) ?_
    refine lv_goto (tgt := 50) hx hb dX2_inAll_46 (by decide) ?_
    have h := Option.some.inj h
    subst h
    rw [kr]
    exact r_ri E hw dX2_inAll_50
/-! ===== AllSawIt$Denial.parting(LAllSawIt$Tape;I)I ===== -/
theorem dX2_parting_0 : decode cX2_parting 0 = .ok (.aload_n 0, 1) := by decide +kernel
theorem dX2_parting_1 : decode cX2_parting 1 = .ok (.iload_n 1, 1) := by decide +kernel
theorem dX2_parting_2 : decode cX2_parting 2 = .ok (.iconst 0, 1) := by decide +kernel
theorem dX2_parting_3 : decode cX2_parting 3 = .ok (.invokestatic 30, 3) := by decide +kernel
theorem dX2_parting_6 : decode cX2_parting 6 = .ok (.istore_n 2, 1) := by decide +kernel
theorem dX2_parting_7 : decode cX2_parting 7 = .ok (.iload_n 2, 1) := by decide +kernel
theorem dX2_parting_8 : decode cX2_parting 8 = .ok (.iconst 1, 1) := by decide +kernel
theorem dX2_parting_9 : decode cX2_parting 9 = .ok (.iadd, 1) := by decide +kernel
theorem dX2_parting_10 : decode cX2_parting 10 = .ok (.istore_n 3, 1) := by decide +kernel
theorem dX2_parting_11 : decode cX2_parting 11 = .ok (.iconst (-1), 1) := by decide +kernel
theorem dX2_parting_12 : decode cX2_parting 12 = .ok (.istore 4, 2) := by decide +kernel
theorem dX2_parting_14 : decode cX2_parting 14 = .ok (.iconst 0, 1) := by decide +kernel
theorem dX2_parting_15 : decode cX2_parting 15 = .ok (.istore 5, 2) := by decide +kernel
theorem dX2_parting_17 : decode cX2_parting 17 = .ok (.iload 5, 2) := by decide +kernel
theorem dX2_parting_19 : decode cX2_parting 19 = .ok (.iload_n 1, 1) := by decide +kernel
theorem dX2_parting_20 : decode cX2_parting 20 = .ok (.if_icmp .ge 49, 3) := by decide +kernel
theorem dX2_parting_23 : decode cX2_parting 23 = .ok (.iload_n 2, 1) := by decide +kernel
theorem dX2_parting_24 : decode cX2_parting 24 = .ok (.iconst 2, 1) := by decide +kernel
theorem dX2_parting_25 : decode cX2_parting 25 = .ok (.if_icmp .lt 44, 3) := by decide +kernel
theorem dX2_parting_28 : decode cX2_parting 28 = .ok (.aload_n 0, 1) := by decide +kernel
theorem dX2_parting_29 : decode cX2_parting 29 = .ok (.iload_n 1, 1) := by decide +kernel
theorem dX2_parting_30 : decode cX2_parting 30 = .ok (.iconst 1, 1) := by decide +kernel
theorem dX2_parting_31 : decode cX2_parting 31 = .ok (.iload 5, 2) := by decide +kernel
theorem dX2_parting_33 : decode cX2_parting 33 = .ok (.ishl, 1) := by decide +kernel
theorem dX2_parting_34 : decode cX2_parting 34 = .ok (.invokestatic 30, 3) := by decide +kernel
theorem dX2_parting_37 : decode cX2_parting 37 = .ok (.istore 6, 2) := by decide +kernel
theorem dX2_parting_39 : decode cX2_parting 39 = .ok (.iload 6, 2) := by decide +kernel
theorem dX2_parting_41 : decode cX2_parting 41 = .ok (.iload_n 2, 1) := by decide +kernel
theorem dX2_parting_42 : decode cX2_parting 42 = .ok (.iload 6, 2) := by decide +kernel
theorem dX2_parting_44 : decode cX2_parting 44 = .ok (.isub, 1) := by decide +kernel
theorem dX2_parting_45 : decode cX2_parting 45 = .ok (.invokestatic 34, 3) := by decide +kernel
theorem dX2_parting_48 : decode cX2_parting 48 = .ok (.istore 7, 2) := by decide +kernel
theorem dX2_parting_50 : decode cX2_parting 50 = .ok (.iload 7, 2) := by decide +kernel
theorem dX2_parting_52 : decode cX2_parting 52 = .ok (.iload_n 3, 1) := by decide +kernel
theorem dX2_parting_53 : decode cX2_parting 53 = .ok (.if_icmp .ge 10, 3) := by decide +kernel
theorem dX2_parting_56 : decode cX2_parting 56 = .ok (.iload 7, 2) := by decide +kernel
theorem dX2_parting_58 : decode cX2_parting 58 = .ok (.istore_n 3, 1) := by decide +kernel
theorem dX2_parting_59 : decode cX2_parting 59 = .ok (.iload 5, 2) := by decide +kernel
theorem dX2_parting_61 : decode cX2_parting 61 = .ok (.istore 4, 2) := by decide +kernel
theorem dX2_parting_63 : decode cX2_parting 63 = .ok (.iinc 5 1, 3) := by decide +kernel
theorem dX2_parting_66 : decode cX2_parting 66 = .ok (.goto (-49), 3) := by decide +kernel
theorem dX2_parting_69 : decode cX2_parting 69 = .ok (.iload 4, 2) := by decide +kernel
theorem dX2_parting_71 : decode cX2_parting 71 = .ok (.ireturn, 1) := by decide +kernel
noncomputable def fX2_parting_L17 (V : VT) (u1 : Int32) (u2 : Int32) (u3 : Int32) (u4 : Int32) (u5 : Int32) : Option ((Int32 × Int32 × Int32 × Int32 × Int32) ⊕ Int32) := if u1 ≤ u5 then (some (.inr (u4))) else (if u2 < (2 : Int32) then (some (.inr (u4))) else (ob_R (fX2_fitting V u1 ((1 : Int32) <<< (u5 &&& 31))) fun y5 => lt_ (if y5 < (u2 - y5) then (u2 - y5) else y5) fun y6 => if u3 ≤ y6 then (lt_ (u5 + (1 : Int32)) fun y7 => some (.inl (u1, u2, u3, u4, y7))) else (lt_ (u5 + (1 : Int32)) fun y8 => some (.inl (u1, u2, y6, u5, y8)))))
noncomputable def iX2_parting_L17 (V : VT) : (Int32 × Int32 × Int32 × Int32 × Int32) → Option ((Int32 × Int32 × Int32 × Int32 × Int32) ⊕ Int32) := fun q => fX2_parting_L17 V (q.1) (q.2.1) (q.2.2.1) (q.2.2.2.1) (q.2.2.2.2)
noncomputable def fX2_parting (V : VT) (x1 : Int32) : Option Int32 := ob_R (fX2_fitting V x1 (0 : Int32)) fun y2 => lt_ (y2 + (1 : Int32)) fun y3 => ob_R (it_ (iX2_parting_L17 V) FV (x1, y2, y3, (-1 : Int32), (0 : Int32))) fun x13 => some x13
set_option maxHeartbeats 4000000 in
set_option maxRecDepth 100000 in
theorem wX2_parting_L17 {p : Program} {l : Launch} {e : Env} {s : State} {m : MethodId} {args : Array Value} {below : List Frame} {meth : Method} {c : Code} {G : GT} {B : BGt} {Q : State → Prop} (E : En p s m args c meth cX2_parting 8 RX2 (some .int) G B) {V : VT} {x : Int32} (kr : ∀ q : Int32, x = q → Q = MQ below (QI G s.heap.size q V) args s 0 0 (gA G s.heap.size)) : ∀ (n : Nat) (q : (Int32 × Int32 × Int32 × Int32 × Int32)), it_ (iX2_parting_L17 V) n q = some x → ∀ (H : Heap) (locs : List Loc) (ls : Array Slot), HW G s.heap V H locs → lv_has ls 8 [(0, .ref (G.2.2 1)), (1, .int (q.1)), (2, .int (q.2.1)), (3, .int (q.2.2.1)), (4, .int (q.2.2.2.1)), (5, .int (q.2.2.2.2))] → W p l e (rmD 5) s m args below meth c H locs 0 0 Q (F0 m 17 ls []) := by
  have hx := en_x E
  have hb := en_b E
  have hB := en_B E
  refine it_W (fun q : (Int32 × Int32 × Int32 × Int32 × Int32) => ∀ (H : Heap) (locs : List Loc) (ls : Array Slot), HW G s.heap V H locs → lv_has ls 8 [(0, .ref (G.2.2 1)), (1, .int (q.1)), (2, .int (q.2.1)), (3, .int (q.2.2.1)), (4, .int (q.2.2.2.1)), (5, .int (q.2.2.2.2))] → W p l e (rmD 5) s m args below meth c H locs 0 0 Q (F0 m 17 ls [])) x ?_
  intro q r h kc kx
  obtain ⟨u1, u2, u3, u4, u5⟩ := q
  intro H locs ls hw hl
  have h : fX2_parting_L17 V u1 u2 u3 u4 u5 = some r := h
  have hw : HW G s.heap V H locs := hw
  have hl : lv_has ls 8 [(0, .ref (G.2.2 1)), (1, .int u1), (2, .int u2), (3, .int u3), (4, .int u4), (5, .int u5)] := hl
  have kr : ∀ q : Int32, r = .inr (q) → Q = MQ below (QI G s.heap.size q V) args s 0 0 (gA G s.heap.size) := fun q e => kr q (kx _ e).symm
  unfold fX2_parting_L17 at h
  refine lv_iload hx hb dX2_parting_17 (lv_at hl 5 rfl) ?_
  refine lv_iload_n hx hb dX2_parting_19 rfl (lv_at hl 1 rfl) ?_
  refine lv_icmp_ge (tgt := 69) hx hb dX2_parting_20 (by decide) (fun c11 => ?_) (fun c11 => ?_)
  · rw [if_pos c11] at h
    refine lv_iload hx hb dX2_parting_69 (lv_at hl 4 rfl) ?_
    rw [kr u4 (Option.some.inj h).symm]
    exact r_ri E hw dX2_parting_71
  · rw [if_neg c11] at h
    refine lv_iload_n hx hb dX2_parting_23 rfl (lv_at hl 2 rfl) ?_
    refine lv_iconst (v := (2 : Int32)) hx hb dX2_parting_24 (by decide) ?_
    refine lv_icmp_lt (tgt := 69) hx hb dX2_parting_25 (by decide) (fun c10 => ?_) (fun c10 => ?_)
    · rw [if_pos c10] at h
      refine lv_iload hx hb dX2_parting_69 (lv_at hl 4 rfl) ?_
      rw [kr u4 (Option.some.inj h).symm]
      exact r_ri E hw dX2_parting_71
    · rw [if_neg c10] at h
      refine lv_aload_n hx hb dX2_parting_28 rfl (lv_at hl 0 rfl) ?_
      refine lv_iload_n hx hb dX2_parting_29 rfl (lv_at hl 1 rfl) ?_
      refine lv_iconst (v := (1 : Int32)) hx hb dX2_parting_30 (by decide) ?_
      refine lv_iload hx hb dX2_parting_31 (lv_at hl 5 rfl) ?_
      refine lv_ishl hx hb dX2_parting_33 ?_
      obtain ⟨y5, h4, h⟩ := ob_R_some h
      refine c_SI E hw (kX2_fitting (l := l) (G := G) hB  h4) yy_X2_fitting lm_RX2_30 rfl hl.1 (by decide) (by decide) rfl (Nat.le_of_ble_eq_true rfl) dX2_parting_34 (fun H locs hw => ?_)
      refine lv_istore (lv' := [(6, .int y5), (0, .ref (G.2.2 1)), (1, .int u1), (2, .int u2), (3, .int u3), (4, .int u4), (5, .int u5)]) hx hb dX2_parting_37 hl (by decide) rfl (fun ls hl => ?_)
      refine lv_iload hx hb dX2_parting_39 (lv_at hl 0 rfl) ?_
      refine lv_iload_n hx hb dX2_parting_41 rfl (lv_at hl 3 rfl) ?_
      refine lv_iload hx hb dX2_parting_42 (lv_at hl 0 rfl) ?_
      refine lv_isub hx hb dX2_parting_44 ?_
      refine r_max E hl.1 lm_RX2_34 (by decide) (Nat.le_of_ble_eq_true rfl) dX2_parting_45 ?_
      obtain ⟨y6, ey6, h⟩ := lt_some h
      refine lv_eqi ey6 ?_
      refine lv_istore (lv' := [(7, .int y6), (6, .int y5), (0, .ref (G.2.2 1)), (1, .int u1), (2, .int u2), (3, .int u3), (4, .int u4), (5, .int u5)]) hx hb dX2_parting_48 hl (by decide) rfl (fun ls hl => ?_)
      refine lv_iload hx hb dX2_parting_50 (lv_at hl 0 rfl) ?_
      refine lv_iload_n hx hb dX2_parting_52 rfl (lv_at hl 5 rfl) ?_
      refine lv_icmp_ge (tgt := 63) hx hb dX2_parting_53 (by decide) (fun c9 => ?_) (fun c9 => ?_)
      · rw [if_pos c9] at h
        obtain ⟨y7, ey7, h⟩ := lt_some h
        refine lv_iinc (v := y7) (lv' := [(5, .int y7), (7, .int y6), (6, .int y5), (0, .ref (G.2.2 1)), (1, .int u1), (2, .int u2), (3, .int u3), (4, .int u4)]) hx hb dX2_parting_63 hl (k := 7) rfl (by rw [ey7]; rfl) (by decide) rfl (fun ls hl => ?_)
        refine lv_goto (tgt := 17) hx hb dX2_parting_66 (by decide) ?_
        exact kc (u1, u2, u3, u4, y7) (Option.some.inj h).symm H locs ls hw (lv_sub hl [3, 4, 5, 6, 7, 0] rfl)
      · rw [if_neg c9] at h
        refine lv_iload hx hb dX2_parting_56 (lv_at hl 0 rfl) ?_
        refine lv_istore_n (lv' := [(3, .int y6), (7, .int y6), (6, .int y5), (0, .ref (G.2.2 1)), (1, .int u1), (2, .int u2), (4, .int u4), (5, .int u5)]) hx hb dX2_parting_58 rfl hl (by decide) rfl (fun ls hl => ?_)
        refine lv_iload hx hb dX2_parting_59 (lv_at hl 7 rfl) ?_
        refine lv_istore (lv' := [(4, .int u5), (3, .int y6), (7, .int y6), (6, .int y5), (0, .ref (G.2.2 1)), (1, .int u1), (2, .int u2), (5, .int u5)]) hx hb dX2_parting_61 hl (by decide) rfl (fun ls hl => ?_)
        obtain ⟨y8, ey8, h⟩ := lt_some h
        refine lv_iinc (v := y8) (lv' := [(5, .int y8), (4, .int u5), (3, .int y6), (7, .int y6), (6, .int y5), (0, .ref (G.2.2 1)), (1, .int u1), (2, .int u2)]) hx hb dX2_parting_63 hl (k := 7) rfl (by rw [ey8]; rfl) (by decide) rfl (fun ls hl => ?_)
        refine lv_goto (tgt := 17) hx hb dX2_parting_66 (by decide) ?_
        exact kc (u1, u2, y6, u5, y8) (Option.some.inj h).symm H locs ls hw (lv_sub hl [5, 6, 7, 2, 1, 0] rfl)
set_option maxHeartbeats 4000000 in
set_option maxRecDepth 100000 in
theorem kX2_parting {l : Launch} {G : GT} {B : BGt} (hB : BGok B) {V : VT} {x1 : Int32} {r : Int32} (h : fX2_parting V x1 = some r) : CI l G B yX2_parting (.code yX2_parting cX2_parting 8 (some .int)) 5 [.ref (G.2.2 1), .int x1] V r V := by
  intro sz
  refine met_of (Qs := fun sz => QI G sz r V) hB (by decide) (Nat.le_of_ble_eq_true rfl) ?_ sz
  intro p e s m args below meth c ls E hw hl
  have hx := en_x E
  have hb := en_b E
  generalize hQ : MQ _ _ _ _ _ _ _ = Q
  have kr : Q = MQ below (QI G s.heap.size r V) args s 0 0 (gA G s.heap.size) := hQ.symm
  have hl : lv_has ls 8 [(0, .ref (G.2.2 1)), (1, .int x1)] := hl
  obtain ⟨H, eH⟩ : ∃ H, H = s.heap := ⟨_, rfl⟩
  obtain ⟨locs, elocs⟩ : ∃ z : List Loc, z = [] := ⟨_, rfl⟩
  have hw : HW G s.heap V H locs := by rw [eH, elocs]; exact hw
  show W p l e _ s m args below meth c s.heap [] 0 0 Q (F0 m 0 ls [])
  rw [← eH, ← elocs]
  unfold fX2_parting at h
  refine lv_aload_n hx hb dX2_parting_0 rfl (lv_at hl 0 rfl) ?_
  refine lv_iload_n hx hb dX2_parting_1 rfl (lv_at hl 1 rfl) ?_
  refine lv_iconst (v := (0 : Int32)) hx hb dX2_parting_2 (by decide) ?_
  obtain ⟨y2, h1, h⟩ := ob_R_some h
  refine c_SI E hw (kX2_fitting (l := l) (G := G) hB  h1) yy_X2_fitting lm_RX2_30 rfl hl.1 (by decide) (by decide) rfl (Nat.le_of_ble_eq_true rfl) dX2_parting_3 (fun H locs hw => ?_)
  refine lv_istore_n (lv' := [(2, .int y2), (0, .ref (G.2.2 1)), (1, .int x1)]) hx hb dX2_parting_6 rfl hl (by decide) rfl (fun ls hl => ?_)
  refine lv_iload_n hx hb dX2_parting_7 rfl (lv_at hl 0 rfl) ?_
  refine lv_iconst (v := (1 : Int32)) hx hb dX2_parting_8 (by decide) ?_
  refine lv_iadd hx hb dX2_parting_9 ?_
  obtain ⟨y3, ey3, h⟩ := lt_some h
  refine lv_eqi ey3 ?_
  refine lv_istore_n (lv' := [(3, .int y3), (2, .int y2), (0, .ref (G.2.2 1)), (1, .int x1)]) hx hb dX2_parting_10 rfl hl (by decide) rfl (fun ls hl => ?_)
  refine lv_iconst (v := (-1 : Int32)) hx hb dX2_parting_11 (by decide) ?_
  refine lv_istore (lv' := [(4, .int (-1 : Int32)), (3, .int y3), (2, .int y2), (0, .ref (G.2.2 1)), (1, .int x1)]) hx hb dX2_parting_12 hl (by decide) rfl (fun ls hl => ?_)
  refine lv_iconst (v := (0 : Int32)) hx hb dX2_parting_14 (by decide) ?_
  refine lv_istore (lv' := [(5, .int (0 : Int32)), (4, .int (-1 : Int32)), (3, .int y3), (2, .int y2), (0, .ref (G.2.2 1)), (1, .int x1)]) hx hb dX2_parting_15 hl (by decide) rfl (fun ls hl => ?_)
  obtain ⟨x13, h12, h⟩ := ob_R_some h
  have h := Option.some.inj h
  subst h
  exact wX2_parting_L17 E (fun q e => by subst e; exact kr) FV (x1, y2, y3, (-1 : Int32), (0 : Int32)) h12 H locs ls hw (lv_sub hl [4, 5, 3, 2, 1, 0] rfl)
/-! ===== AllSawIt$Law.weigh(I)V ===== -/
theorem dX3_weigh_0 : decode cX3_weigh 0 = .ok (.iload_n 1, 1) := by decide +kernel
theorem dX3_weigh_1 : decode cX3_weigh 1 = .ok (.tableswitch 216 0 9 #[55, 66, 77, 216, 88, 101, 123, 144, 160, 188], 55) := by decide +kernel
theorem dX3_weigh_56 : decode cX3_weigh 56 = .ok (.aload_n 0, 1) := by decide +kernel
theorem dX3_weigh_57 : decode cX3_weigh 57 = .ok (.aload_n 0, 1) := by decide +kernel
theorem dX3_weigh_58 : decode cX3_weigh 58 = .ok (.getfield 22, 3) := by decide +kernel
theorem dX3_weigh_61 : decode cX3_weigh 61 = .ok (.invokevirtual 74, 3) := by decide +kernel
theorem dX3_weigh_64 : decode cX3_weigh 64 = .ok (.goto 158, 3) := by decide +kernel
theorem dX3_weigh_67 : decode cX3_weigh 67 = .ok (.aload_n 0, 1) := by decide +kernel
theorem dX3_weigh_68 : decode cX3_weigh 68 = .ok (.aload_n 0, 1) := by decide +kernel
theorem dX3_weigh_69 : decode cX3_weigh 69 = .ok (.getfield 26, 3) := by decide +kernel
theorem dX3_weigh_72 : decode cX3_weigh 72 = .ok (.invokevirtual 74, 3) := by decide +kernel
theorem dX3_weigh_75 : decode cX3_weigh 75 = .ok (.goto 147, 3) := by decide +kernel
theorem dX3_weigh_78 : decode cX3_weigh 78 = .ok (.aload_n 0, 1) := by decide +kernel
theorem dX3_weigh_79 : decode cX3_weigh 79 = .ok (.aload_n 0, 1) := by decide +kernel
theorem dX3_weigh_80 : decode cX3_weigh 80 = .ok (.getfield 29, 3) := by decide +kernel
theorem dX3_weigh_83 : decode cX3_weigh 83 = .ok (.invokevirtual 74, 3) := by decide +kernel
theorem dX3_weigh_86 : decode cX3_weigh 86 = .ok (.goto 136, 3) := by decide +kernel
theorem dX3_weigh_89 : decode cX3_weigh 89 = .ok (.aload_n 0, 1) := by decide +kernel
theorem dX3_weigh_90 : decode cX3_weigh 90 = .ok (.dup, 1) := by decide +kernel
theorem dX3_weigh_91 : decode cX3_weigh 91 = .ok (.getfield 35, 3) := by decide +kernel
theorem dX3_weigh_94 : decode cX3_weigh 94 = .ok (.iconst 1, 1) := by decide +kernel
theorem dX3_weigh_95 : decode cX3_weigh 95 = .ok (.ixor, 1) := by decide +kernel
theorem dX3_weigh_96 : decode cX3_weigh 96 = .ok (.putfield 35, 3) := by decide +kernel
theorem dX3_weigh_99 : decode cX3_weigh 99 = .ok (.goto 123, 3) := by decide +kernel
theorem dX3_weigh_102 : decode cX3_weigh 102 = .ok (.aload_n 0, 1) := by decide +kernel
theorem dX3_weigh_103 : decode cX3_weigh 103 = .ok (.aload_n 0, 1) := by decide +kernel
theorem dX3_weigh_104 : decode cX3_weigh 104 = .ok (.getfield 35, 3) := by decide +kernel
theorem dX3_weigh_107 : decode cX3_weigh 107 = .ok (.iconst 3, 1) := by decide +kernel
theorem dX3_weigh_108 : decode cX3_weigh 108 = .ok (.iand, 1) := by decide +kernel
theorem dX3_weigh_109 : decode cX3_weigh 109 = .ok (.iconst 3, 1) := by decide +kernel
theorem dX3_weigh_110 : decode cX3_weigh 110 = .ok (.if_icmp .ne 7, 3) := by decide +kernel
theorem dX3_weigh_113 : decode cX3_weigh 113 = .ok (.iconst 1, 1) := by decide +kernel
theorem dX3_weigh_114 : decode cX3_weigh 114 = .ok (.goto 4, 3) := by decide +kernel
theorem dX3_weigh_117 : decode cX3_weigh 117 = .ok (.iconst 0, 1) := by decide +kernel
theorem dX3_weigh_118 : decode cX3_weigh 118 = .ok (.invokevirtual 78, 3) := by decide +kernel
theorem dX3_weigh_121 : decode cX3_weigh 121 = .ok (.goto 101, 3) := by decide +kernel
theorem dX3_weigh_124 : decode cX3_weigh 124 = .ok (.aload_n 0, 1) := by decide +kernel
theorem dX3_weigh_125 : decode cX3_weigh 125 = .ok (.aload_n 0, 1) := by decide +kernel
theorem dX3_weigh_126 : decode cX3_weigh 126 = .ok (.getfield 35, 3) := by decide +kernel
theorem dX3_weigh_129 : decode cX3_weigh 129 = .ok (.iconst 3, 1) := by decide +kernel
theorem dX3_weigh_130 : decode cX3_weigh 130 = .ok (.iand, 1) := by decide +kernel
theorem dX3_weigh_131 : decode cX3_weigh 131 = .ok (.ifCond .eq 7, 3) := by decide +kernel
theorem dX3_weigh_134 : decode cX3_weigh 134 = .ok (.iconst 1, 1) := by decide +kernel
theorem dX3_weigh_135 : decode cX3_weigh 135 = .ok (.goto 4, 3) := by decide +kernel
theorem dX3_weigh_138 : decode cX3_weigh 138 = .ok (.iconst 0, 1) := by decide +kernel
theorem dX3_weigh_139 : decode cX3_weigh 139 = .ok (.invokevirtual 78, 3) := by decide +kernel
theorem dX3_weigh_142 : decode cX3_weigh 142 = .ok (.goto 80, 3) := by decide +kernel
theorem dX3_weigh_145 : decode cX3_weigh 145 = .ok (.aload_n 0, 1) := by decide +kernel
theorem dX3_weigh_146 : decode cX3_weigh 146 = .ok (.aload_n 0, 1) := by decide +kernel
theorem dX3_weigh_147 : decode cX3_weigh 147 = .ok (.getfield 38, 3) := by decide +kernel
theorem dX3_weigh_150 : decode cX3_weigh 150 = .ok (.putfield 41, 3) := by decide +kernel
theorem dX3_weigh_153 : decode cX3_weigh 153 = .ok (.aload_n 0, 1) := by decide +kernel
theorem dX3_weigh_154 : decode cX3_weigh 154 = .ok (.iconst 0, 1) := by decide +kernel
theorem dX3_weigh_155 : decode cX3_weigh 155 = .ok (.putfield 38, 3) := by decide +kernel
theorem dX3_weigh_158 : decode cX3_weigh 158 = .ok (.goto 64, 3) := by decide +kernel
theorem dX3_weigh_161 : decode cX3_weigh 161 = .ok (.aload_n 0, 1) := by decide +kernel
theorem dX3_weigh_162 : decode cX3_weigh 162 = .ok (.aload_n 0, 1) := by decide +kernel
theorem dX3_weigh_163 : decode cX3_weigh 163 = .ok (.getfield 41, 3) := by decide +kernel
theorem dX3_weigh_166 : decode cX3_weigh 166 = .ok (.aload_n 0, 1) := by decide +kernel
theorem dX3_weigh_167 : decode cX3_weigh 167 = .ok (.getfield 38, 3) := by decide +kernel
theorem dX3_weigh_170 : decode cX3_weigh 170 = .ok (.if_icmp .ge 7, 3) := by decide +kernel
theorem dX3_weigh_173 : decode cX3_weigh 173 = .ok (.iconst 1, 1) := by decide +kernel
theorem dX3_weigh_174 : decode cX3_weigh 174 = .ok (.goto 4, 3) := by decide +kernel
theorem dX3_weigh_177 : decode cX3_weigh 177 = .ok (.iconst 0, 1) := by decide +kernel
theorem dX3_weigh_178 : decode cX3_weigh 178 = .ok (.invokevirtual 74, 3) := by decide +kernel
theorem dX3_weigh_181 : decode cX3_weigh 181 = .ok (.aload_n 0, 1) := by decide +kernel
theorem dX3_weigh_182 : decode cX3_weigh 182 = .ok (.iconst 0, 1) := by decide +kernel
theorem dX3_weigh_183 : decode cX3_weigh 183 = .ok (.putfield 38, 3) := by decide +kernel
theorem dX3_weigh_186 : decode cX3_weigh 186 = .ok (.goto 36, 3) := by decide +kernel
theorem dX3_weigh_189 : decode cX3_weigh 189 = .ok (.aload_n 0, 1) := by decide +kernel
theorem dX3_weigh_190 : decode cX3_weigh 190 = .ok (.aload_n 0, 1) := by decide +kernel
theorem dX3_weigh_191 : decode cX3_weigh 191 = .ok (.getfield 41, 3) := by decide +kernel
theorem dX3_weigh_194 : decode cX3_weigh 194 = .ok (.aload_n 0, 1) := by decide +kernel
theorem dX3_weigh_195 : decode cX3_weigh 195 = .ok (.getfield 38, 3) := by decide +kernel
theorem dX3_weigh_198 : decode cX3_weigh 198 = .ok (.if_icmp .le 7, 3) := by decide +kernel
theorem dX3_weigh_201 : decode cX3_weigh 201 = .ok (.iconst 1, 1) := by decide +kernel
theorem dX3_weigh_202 : decode cX3_weigh 202 = .ok (.goto 4, 3) := by decide +kernel
theorem dX3_weigh_205 : decode cX3_weigh 205 = .ok (.iconst 0, 1) := by decide +kernel
theorem dX3_weigh_206 : decode cX3_weigh 206 = .ok (.invokevirtual 74, 3) := by decide +kernel
theorem dX3_weigh_209 : decode cX3_weigh 209 = .ok (.aload_n 0, 1) := by decide +kernel
theorem dX3_weigh_210 : decode cX3_weigh 210 = .ok (.iconst 0, 1) := by decide +kernel
theorem dX3_weigh_211 : decode cX3_weigh 211 = .ok (.putfield 38, 3) := by decide +kernel
theorem dX3_weigh_214 : decode cX3_weigh 214 = .ok (.goto 8, 3) := by decide +kernel
theorem dX3_weigh_217 : decode cX3_weigh 217 = .ok (.aload_n 0, 1) := by decide +kernel
theorem dX3_weigh_218 : decode cX3_weigh 218 = .ok (.iconst 1, 1) := by decide +kernel
theorem dX3_weigh_219 : decode cX3_weigh 219 = .ok (.invokevirtual 74, 3) := by decide +kernel
theorem dX3_weigh_222 : decode cX3_weigh 222 = .ok (.return_, 1) := by decide +kernel
noncomputable def fX3_weigh (V : VT) (x1 : Int32) : Option VT := if x1 = (0 : Int32) then (ob_R (fX3_push V (V 17 3)) fun V2 => some V2) else if x1 = (1 : Int32) then (ob_R (fX3_push V (V 17 4)) fun V5 => some V5) else if x1 = (2 : Int32) then (ob_R (fX3_push V (V 17 5)) fun V8 => some V8) else if x1 = (4 : Int32) then (lt_ (va_up V 17 (upd (V 17) 7 ((V 17 7) ^^^ (1 : Int32)))) fun V10 => some V10) else if x1 = (5 : Int32) then (if ((V 17 7) &&& (3 : Int32)) = (3 : Int32) then (ob_R (fX3_putForTwo V (1 : Int32)) fun V15 => some V15) else (ob_R (fX3_putForTwo V (0 : Int32)) fun V13 => some V13)) else if x1 = (6 : Int32) then (if ((V 17 7) &&& (3 : Int32)) = 0 then (ob_R (fX3_putForTwo V (0 : Int32)) fun V19 => some V19) else (ob_R (fX3_putForTwo V (1 : Int32)) fun V21 => some V21)) else if x1 = (7 : Int32) then (lt_ (va_up V 17 (upd (V 17) 9 (V 17 8))) fun V24 => lt_ (va_up V24 17 (upd (V24 17) 8 (0 : Int32))) fun V25 => some V25) else if x1 = (8 : Int32) then (if (V 17 8) ≤ (V 17 9) then (ob_R (fX3_push V (0 : Int32)) fun V28 => lt_ (va_up V28 17 (upd (V28 17) 8 (0 : Int32))) fun V29 => some V29) else (ob_R (fX3_push V (1 : Int32)) fun V31 => lt_ (va_up V31 17 (upd (V31 17) 8 (0 : Int32))) fun V32 => some V32)) else if x1 = (9 : Int32) then (if (V 17 9) ≤ (V 17 8) then (ob_R (fX3_push V (0 : Int32)) fun V36 => lt_ (va_up V36 17 (upd (V36 17) 8 (0 : Int32))) fun V37 => some V37) else (ob_R (fX3_push V (1 : Int32)) fun V39 => lt_ (va_up V39 17 (upd (V39 17) 8 (0 : Int32))) fun V40 => some V40)) else (ob_R (fX3_push V (1 : Int32)) fun V44 => some V44)
set_option maxHeartbeats 4000000 in
set_option maxRecDepth 100000 in
theorem kX3_weigh {l : Launch} {G : GT} {B : BGt} (hB : BGok B) {V : VT} {x1 : Int32} {r : VT} (h : fX3_weigh V x1 = some r) : CV l G B yX3_weigh (.code yX3_weigh cX3_weigh 2 none) 3 [.ref (G.2.2 17), .int x1] V r := by
  intro sz
  refine met_of (Qs := fun sz => QV G sz r) hB (by decide) (Nat.le_of_ble_eq_true rfl) ?_ sz
  intro p e s m args below meth c ls E hw hl
  have hx := en_x E
  have hb := en_b E
  generalize hQ : MQ _ _ _ _ _ _ _ = Q
  have kr : Q = MQ below (QV G s.heap.size r) args s 0 0 (gA G s.heap.size) := hQ.symm
  have hl : lv_has ls 2 [(0, .ref (G.2.2 17)), (1, .int x1)] := hl
  obtain ⟨H, eH⟩ : ∃ H, H = s.heap := ⟨_, rfl⟩
  obtain ⟨locs, elocs⟩ : ∃ z : List Loc, z = [] := ⟨_, rfl⟩
  have hw : HW G s.heap V H locs := by rw [eH, elocs]; exact hw
  show W p l e _ s m args below meth c s.heap [] 0 0 Q (F0 m 0 ls [])
  rw [← eH, ← elocs]
  unfold fX3_weigh at h
  refine lv_iload_n hx hb dX3_weigh_0 rfl (lv_at hl 1 rfl) ?_
  by_cases c3 : x1 = (0 : Int32)
  · rw [if_pos c3] at h
    refine lv_tableIn (tgt := 56) hx hb dX3_weigh_1 (by rw [c3]; decide) (by rw [c3]; decide) (by rw [c3]; rfl) (by decide) ?_
    refine lv_aload_n hx hb dX3_weigh_56 rfl (lv_at hl 0 rfl) ?_
    refine lv_aload_n hx hb dX3_weigh_57 rfl (lv_at hl 0 rfl) ?_
    refine r_gi E hw 17 3 (N := 10) (C := RX3) (T := TX3) (by decide) rfl rfl (by decide) rfl iw_3 rfl lf_RX3_22 dX3_weigh_58 ?_
    obtain ⟨V2, h1, h⟩ := ob_R_some h
    refine c_VV E hw (kX3_push (l := l) (G := G) hB  h1) yy_X3_push lm_RX3_74 rfl (by decide) rfl rfl hl.1 (by decide) (by decide) rfl (Nat.le_of_ble_eq_true rfl) dX3_weigh_61 (fun H locs hw => ?_)
    refine lv_goto (tgt := 222) hx hb dX3_weigh_64 (by decide) ?_
    have h := Option.some.inj h
    subst h
    rw [kr]
    exact r_rv E hw dX3_weigh_222
  · rw [if_neg c3] at h
    by_cases c6 : x1 = (1 : Int32)
    · rw [if_pos c6] at h
      refine lv_tableIn (tgt := 67) hx hb dX3_weigh_1 (by rw [c6]; decide) (by rw [c6]; decide) (by rw [c6]; rfl) (by decide) ?_
      refine lv_aload_n hx hb dX3_weigh_67 rfl (lv_at hl 0 rfl) ?_
      refine lv_aload_n hx hb dX3_weigh_68 rfl (lv_at hl 0 rfl) ?_
      refine r_gi E hw 17 4 (N := 10) (C := RX3) (T := TX3) (by decide) rfl rfl (by decide) rfl iw_3 rfl lf_RX3_26 dX3_weigh_69 ?_
      obtain ⟨V5, h4, h⟩ := ob_R_some h
      refine c_VV E hw (kX3_push (l := l) (G := G) hB  h4) yy_X3_push lm_RX3_74 rfl (by decide) rfl rfl hl.1 (by decide) (by decide) rfl (Nat.le_of_ble_eq_true rfl) dX3_weigh_72 (fun H locs hw => ?_)
      refine lv_goto (tgt := 222) hx hb dX3_weigh_75 (by decide) ?_
      have h := Option.some.inj h
      subst h
      rw [kr]
      exact r_rv E hw dX3_weigh_222
    · rw [if_neg c6] at h
      by_cases c9 : x1 = (2 : Int32)
      · rw [if_pos c9] at h
        refine lv_tableIn (tgt := 78) hx hb dX3_weigh_1 (by rw [c9]; decide) (by rw [c9]; decide) (by rw [c9]; rfl) (by decide) ?_
        refine lv_aload_n hx hb dX3_weigh_78 rfl (lv_at hl 0 rfl) ?_
        refine lv_aload_n hx hb dX3_weigh_79 rfl (lv_at hl 0 rfl) ?_
        refine r_gi E hw 17 5 (N := 10) (C := RX3) (T := TX3) (by decide) rfl rfl (by decide) rfl iw_3 rfl lf_RX3_29 dX3_weigh_80 ?_
        obtain ⟨V8, h7, h⟩ := ob_R_some h
        refine c_VV E hw (kX3_push (l := l) (G := G) hB  h7) yy_X3_push lm_RX3_74 rfl (by decide) rfl rfl hl.1 (by decide) (by decide) rfl (Nat.le_of_ble_eq_true rfl) dX3_weigh_83 (fun H locs hw => ?_)
        refine lv_goto (tgt := 222) hx hb dX3_weigh_86 (by decide) ?_
        have h := Option.some.inj h
        subst h
        rw [kr]
        exact r_rv E hw dX3_weigh_222
      · rw [if_neg c9] at h
        by_cases c11 : x1 = (4 : Int32)
        · rw [if_pos c11] at h
          refine lv_tableIn (tgt := 89) hx hb dX3_weigh_1 (by rw [c11]; decide) (by rw [c11]; decide) (by rw [c11]; rfl) (by decide) ?_
          refine lv_aload_n hx hb dX3_weigh_89 rfl (lv_at hl 0 rfl) ?_
          refine lv_dup hx hb dX3_weigh_90 rfl ?_
          refine r_gi E hw 17 7 (N := 10) (C := RX3) (T := TX3) (by decide) rfl rfl (by decide) rfl iw_3 rfl lf_RX3_35 dX3_weigh_91 ?_
          refine lv_iconst (v := (1 : Int32)) hx hb dX3_weigh_94 (by decide) ?_
          refine lv_ixor hx hb dX3_weigh_95 ?_
          obtain ⟨V10, eV10, h⟩ := lt_some h
          refine r_pi E hw 17 7 (N := 10) (C := RX3) (T := TX3) (ty0 := tyX3) (ty := .int) (by decide) rfl rfl (by decide) rfl iw_3 rfl tyX3_ok nmX3 rfl rfl (vp_nar_int _) rfl lf_RX3_35 eV10 dX3_weigh_96 (fun H locs hw => ?_)
          refine lv_goto (tgt := 222) hx hb dX3_weigh_99 (by decide) ?_
          have h := Option.some.inj h
          subst h
          rw [kr]
          exact r_rv E hw dX3_weigh_222
        · rw [if_neg c11] at h
          by_cases c17 : x1 = (5 : Int32)
          · rw [if_pos c17] at h
            refine lv_tableIn (tgt := 102) hx hb dX3_weigh_1 (by rw [c17]; decide) (by rw [c17]; decide) (by rw [c17]; rfl) (by decide) ?_
            refine lv_aload_n hx hb dX3_weigh_102 rfl (lv_at hl 0 rfl) ?_
            refine lv_aload_n hx hb dX3_weigh_103 rfl (lv_at hl 0 rfl) ?_
            refine r_gi E hw 17 7 (N := 10) (C := RX3) (T := TX3) (by decide) rfl rfl (by decide) rfl iw_3 rfl lf_RX3_35 dX3_weigh_104 ?_
            refine lv_iconst (v := (3 : Int32)) hx hb dX3_weigh_107 (by decide) ?_
            refine lv_iand hx hb dX3_weigh_108 ?_
            refine lv_iconst (v := (3 : Int32)) hx hb dX3_weigh_109 (by decide) ?_
            refine lv_icmp_ne (tgt := 117) hx hb dX3_weigh_110 (by decide) (fun c16 => ?_) (fun c16 => ?_)
            · rw [if_neg c16] at h
              refine lv_iconst (v := (0 : Int32)) hx hb dX3_weigh_117 (by decide) ?_
              obtain ⟨V13, h12, h⟩ := ob_R_some h
              refine c_VV E hw (kX3_putForTwo (l := l) (G := G) hB  h12) yy_X3_putForTwo lm_RX3_78 rfl (by decide) rfl rfl hl.1 (by decide) (by decide) rfl (Nat.le_of_ble_eq_true rfl) dX3_weigh_118 (fun H locs hw => ?_)
              refine lv_goto (tgt := 222) hx hb dX3_weigh_121 (by decide) ?_
              have h := Option.some.inj h
              subst h
              rw [kr]
              exact r_rv E hw dX3_weigh_222
            · rw [if_pos c16] at h
              refine lv_iconst (v := (1 : Int32)) hx hb dX3_weigh_113 (by decide) ?_
              refine lv_goto (tgt := 118) hx hb dX3_weigh_114 (by decide) ?_
              obtain ⟨V15, h14, h⟩ := ob_R_some h
              refine c_VV E hw (kX3_putForTwo (l := l) (G := G) hB  h14) yy_X3_putForTwo lm_RX3_78 rfl (by decide) rfl rfl hl.1 (by decide) (by decide) rfl (Nat.le_of_ble_eq_true rfl) dX3_weigh_118 (fun H locs hw => ?_)
              refine lv_goto (tgt := 222) hx hb dX3_weigh_121 (by decide) ?_
              have h := Option.some.inj h
              subst h
              rw [kr]
              exact r_rv E hw dX3_weigh_222
          · rw [if_neg c17] at h
            by_cases c23 : x1 = (6 : Int32)
            · rw [if_pos c23] at h
              refine lv_tableIn (tgt := 124) hx hb dX3_weigh_1 (by rw [c23]; decide) (by rw [c23]; decide) (by rw [c23]; rfl) (by decide) ?_
              refine lv_aload_n hx hb dX3_weigh_124 rfl (lv_at hl 0 rfl) ?_
              refine lv_aload_n hx hb dX3_weigh_125 rfl (lv_at hl 0 rfl) ?_
              refine r_gi E hw 17 7 (N := 10) (C := RX3) (T := TX3) (by decide) rfl rfl (by decide) rfl iw_3 rfl lf_RX3_35 dX3_weigh_126 ?_
              refine lv_iconst (v := (3 : Int32)) hx hb dX3_weigh_129 (by decide) ?_
              refine lv_iand hx hb dX3_weigh_130 ?_
              refine lv_if_eq (tgt := 138) hx hb dX3_weigh_131 (by decide) (fun c22 => ?_) (fun c22 => ?_)
              · rw [if_pos c22] at h
                refine lv_iconst (v := (0 : Int32)) hx hb dX3_weigh_138 (by decide) ?_
                obtain ⟨V19, h18, h⟩ := ob_R_some h
                refine c_VV E hw (kX3_putForTwo (l := l) (G := G) hB  h18) yy_X3_putForTwo lm_RX3_78 rfl (by decide) rfl rfl hl.1 (by decide) (by decide) rfl (Nat.le_of_ble_eq_true rfl) dX3_weigh_139 (fun H locs hw => ?_)
                refine lv_goto (tgt := 222) hx hb dX3_weigh_142 (by decide) ?_
                have h := Option.some.inj h
                subst h
                rw [kr]
                exact r_rv E hw dX3_weigh_222
              · rw [if_neg c22] at h
                refine lv_iconst (v := (1 : Int32)) hx hb dX3_weigh_134 (by decide) ?_
                refine lv_goto (tgt := 139) hx hb dX3_weigh_135 (by decide) ?_
                obtain ⟨V21, h20, h⟩ := ob_R_some h
                refine c_VV E hw (kX3_putForTwo (l := l) (G := G) hB  h20) yy_X3_putForTwo lm_RX3_78 rfl (by decide) rfl rfl hl.1 (by decide) (by decide) rfl (Nat.le_of_ble_eq_true rfl) dX3_weigh_139 (fun H locs hw => ?_)
                refine lv_goto (tgt := 222) hx hb dX3_weigh_142 (by decide) ?_
                have h := Option.some.inj h
                subst h
                rw [kr]
                exact r_rv E hw dX3_weigh_222
            · rw [if_neg c23] at h
              by_cases c26 : x1 = (7 : Int32)
              · rw [if_pos c26] at h
                refine lv_tableIn (tgt := 145) hx hb dX3_weigh_1 (by rw [c26]; decide) (by rw [c26]; decide) (by rw [c26]; rfl) (by decide) ?_
                refine lv_aload_n hx hb dX3_weigh_145 rfl (lv_at hl 0 rfl) ?_
                refine lv_aload_n hx hb dX3_weigh_146 rfl (lv_at hl 0 rfl) ?_
                refine r_gi E hw 17 8 (N := 10) (C := RX3) (T := TX3) (by decide) rfl rfl (by decide) rfl iw_3 rfl lf_RX3_38 dX3_weigh_147 ?_
                obtain ⟨V24, eV24, h⟩ := lt_some h
                refine r_pi E hw 17 9 (N := 10) (C := RX3) (T := TX3) (ty0 := tyX3) (ty := .int) (by decide) rfl rfl (by decide) rfl iw_3 rfl tyX3_ok nmX3 rfl rfl (vp_nar_int _) rfl lf_RX3_41 eV24 dX3_weigh_150 (fun H locs hw => ?_)
                refine lv_aload_n hx hb dX3_weigh_153 rfl (lv_at hl 0 rfl) ?_
                refine lv_iconst (v := (0 : Int32)) hx hb dX3_weigh_154 (by decide) ?_
                obtain ⟨V25, eV25, h⟩ := lt_some h
                refine r_pi E hw 17 8 (N := 10) (C := RX3) (T := TX3) (ty0 := tyX3) (ty := .int) (by decide) rfl rfl (by decide) rfl iw_3 rfl tyX3_ok nmX3 rfl rfl (vp_nar_int _) rfl lf_RX3_38 eV25 dX3_weigh_155 (fun H locs hw => ?_)
                refine lv_goto (tgt := 222) hx hb dX3_weigh_158 (by decide) ?_
                have h := Option.some.inj h
                subst h
                rw [kr]
                exact r_rv E hw dX3_weigh_222
              · rw [if_neg c26] at h
                by_cases c34 : x1 = (8 : Int32)
                · rw [if_pos c34] at h
                  refine lv_tableIn (tgt := 161) hx hb dX3_weigh_1 (by rw [c34]; decide) (by rw [c34]; decide) (by rw [c34]; rfl) (by decide) ?_
                  refine lv_aload_n hx hb dX3_weigh_161 rfl (lv_at hl 0 rfl) ?_
                  refine lv_aload_n hx hb dX3_weigh_162 rfl (lv_at hl 0 rfl) ?_
                  refine r_gi E hw 17 9 (N := 10) (C := RX3) (T := TX3) (by decide) rfl rfl (by decide) rfl iw_3 rfl lf_RX3_41 dX3_weigh_163 ?_
                  refine lv_aload_n hx hb dX3_weigh_166 rfl (lv_at hl 0 rfl) ?_
                  refine r_gi E hw 17 8 (N := 10) (C := RX3) (T := TX3) (by decide) rfl rfl (by decide) rfl iw_3 rfl lf_RX3_38 dX3_weigh_167 ?_
                  refine lv_icmp_ge (tgt := 177) hx hb dX3_weigh_170 (by decide) (fun c33 => ?_) (fun c33 => ?_)
                  · rw [if_pos c33] at h
                    refine lv_iconst (v := (0 : Int32)) hx hb dX3_weigh_177 (by decide) ?_
                    obtain ⟨V28, h27, h⟩ := ob_R_some h
                    refine c_VV E hw (kX3_push (l := l) (G := G) hB  h27) yy_X3_push lm_RX3_74 rfl (by decide) rfl rfl hl.1 (by decide) (by decide) rfl (Nat.le_of_ble_eq_true rfl) dX3_weigh_178 (fun H locs hw => ?_)
                    refine lv_aload_n hx hb dX3_weigh_181 rfl (lv_at hl 0 rfl) ?_
                    refine lv_iconst (v := (0 : Int32)) hx hb dX3_weigh_182 (by decide) ?_
                    obtain ⟨V29, eV29, h⟩ := lt_some h
                    refine r_pi E hw 17 8 (N := 10) (C := RX3) (T := TX3) (ty0 := tyX3) (ty := .int) (by decide) rfl rfl (by decide) rfl iw_3 rfl tyX3_ok nmX3 rfl rfl (vp_nar_int _) rfl lf_RX3_38 eV29 dX3_weigh_183 (fun H locs hw => ?_)
                    refine lv_goto (tgt := 222) hx hb dX3_weigh_186 (by decide) ?_
                    have h := Option.some.inj h
                    subst h
                    rw [kr]
                    exact r_rv E hw dX3_weigh_222
                  · rw [if_neg c33] at h
                    refine lv_iconst (v := (1 : Int32)) hx hb dX3_weigh_173 (by decide) ?_
                    refine lv_goto (tgt := 178) hx hb dX3_weigh_174 (by decide) ?_
                    obtain ⟨V31, h30, h⟩ := ob_R_some h
                    refine c_VV E hw (kX3_push (l := l) (G := G) hB  h30) yy_X3_push lm_RX3_74 rfl (by decide) rfl rfl hl.1 (by decide) (by decide) rfl (Nat.le_of_ble_eq_true rfl) dX3_weigh_178 (fun H locs hw => ?_)
                    refine lv_aload_n hx hb dX3_weigh_181 rfl (lv_at hl 0 rfl) ?_
                    refine lv_iconst (v := (0 : Int32)) hx hb dX3_weigh_182 (by decide) ?_
                    obtain ⟨V32, eV32, h⟩ := lt_some h
                    refine r_pi E hw 17 8 (N := 10) (C := RX3) (T := TX3) (ty0 := tyX3) (ty := .int) (by decide) rfl rfl (by decide) rfl iw_3 rfl tyX3_ok nmX3 rfl rfl (vp_nar_int _) rfl lf_RX3_38 eV32 dX3_weigh_183 (fun H locs hw => ?_)
                    refine lv_goto (tgt := 222) hx hb dX3_weigh_186 (by decide) ?_
                    have h := Option.some.inj h
                    subst h
                    rw [kr]
                    exact r_rv E hw dX3_weigh_222
                · rw [if_neg c34] at h
                  by_cases c42 : x1 = (9 : Int32)
                  · rw [if_pos c42] at h
                    refine lv_tableIn (tgt := 189) hx hb dX3_weigh_1 (by rw [c42]; decide) (by rw [c42]; decide) (by rw [c42]; rfl) (by decide) ?_
                    refine lv_aload_n hx hb dX3_weigh_189 rfl (lv_at hl 0 rfl) ?_
                    refine lv_aload_n hx hb dX3_weigh_190 rfl (lv_at hl 0 rfl) ?_
                    refine r_gi E hw 17 9 (N := 10) (C := RX3) (T := TX3) (by decide) rfl rfl (by decide) rfl iw_3 rfl lf_RX3_41 dX3_weigh_191 ?_
                    refine lv_aload_n hx hb dX3_weigh_194 rfl (lv_at hl 0 rfl) ?_
                    refine r_gi E hw 17 8 (N := 10) (C := RX3) (T := TX3) (by decide) rfl rfl (by decide) rfl iw_3 rfl lf_RX3_38 dX3_weigh_195 ?_
                    refine lv_icmp_le (tgt := 205) hx hb dX3_weigh_198 (by decide) (fun c41 => ?_) (fun c41 => ?_)
                    · rw [if_pos c41] at h
                      refine lv_iconst (v := (0 : Int32)) hx hb dX3_weigh_205 (by decide) ?_
                      obtain ⟨V36, h35, h⟩ := ob_R_some h
                      refine c_VV E hw (kX3_push (l := l) (G := G) hB  h35) yy_X3_push lm_RX3_74 rfl (by decide) rfl rfl hl.1 (by decide) (by decide) rfl (Nat.le_of_ble_eq_true rfl) dX3_weigh_206 (fun H locs hw => ?_)
                      refine lv_aload_n hx hb dX3_weigh_209 rfl (lv_at hl 0 rfl) ?_
                      refine lv_iconst (v := (0 : Int32)) hx hb dX3_weigh_210 (by decide) ?_
                      obtain ⟨V37, eV37, h⟩ := lt_some h
                      refine r_pi E hw 17 8 (N := 10) (C := RX3) (T := TX3) (ty0 := tyX3) (ty := .int) (by decide) rfl rfl (by decide) rfl iw_3 rfl tyX3_ok nmX3 rfl rfl (vp_nar_int _) rfl lf_RX3_38 eV37 dX3_weigh_211 (fun H locs hw => ?_)
                      refine lv_goto (tgt := 222) hx hb dX3_weigh_214 (by decide) ?_
                      have h := Option.some.inj h
                      subst h
                      rw [kr]
                      exact r_rv E hw dX3_weigh_222
                    · rw [if_neg c41] at h
                      refine lv_iconst (v := (1 : Int32)) hx hb dX3_weigh_201 (by decide) ?_
                      refine lv_goto (tgt := 206) hx hb dX3_weigh_202 (by decide) ?_
                      obtain ⟨V39, h38, h⟩ := ob_R_some h
                      refine c_VV E hw (kX3_push (l := l) (G := G) hB  h38) yy_X3_push lm_RX3_74 rfl (by decide) rfl rfl hl.1 (by decide) (by decide) rfl (Nat.le_of_ble_eq_true rfl) dX3_weigh_206 (fun H locs hw => ?_)
                      refine lv_aload_n hx hb dX3_weigh_209 rfl (lv_at hl 0 rfl) ?_
                      refine lv_iconst (v := (0 : Int32)) hx hb dX3_weigh_210 (by decide) ?_
                      obtain ⟨V40, eV40, h⟩ := lt_some h
                      refine r_pi E hw 17 8 (N := 10) (C := RX3) (T := TX3) (ty0 := tyX3) (ty := .int) (by decide) rfl rfl (by decide) rfl iw_3 rfl tyX3_ok nmX3 rfl rfl (vp_nar_int _) rfl lf_RX3_38 eV40 dX3_weigh_211 (fun H locs hw => ?_)
                      refine lv_goto (tgt := 222) hx hb dX3_weigh_214 (by decide) ?_
                      have h := Option.some.inj h
                      subst h
                      rw [kr]
                      exact r_rv E hw dX3_weigh_222
                  · rw [if_neg c42] at h
                    by_cases c45 : x1 = (3 : Int32)
                    · refine lv_tableIn (tgt := 217) hx hb dX3_weigh_1 (by rw [c45]; decide) (by rw [c45]; decide) (by rw [c45]; rfl) (by decide) ?_
                      refine lv_aload_n hx hb dX3_weigh_217 rfl (lv_at hl 0 rfl) ?_
                      refine lv_iconst (v := (1 : Int32)) hx hb dX3_weigh_218 (by decide) ?_
                      obtain ⟨V44, h43, h⟩ := ob_R_some h
                      refine c_VV E hw (kX3_push (l := l) (G := G) hB  h43) yy_X3_push lm_RX3_74 rfl (by decide) rfl rfl hl.1 (by decide) (by decide) rfl (Nat.le_of_ble_eq_true rfl) dX3_weigh_219 (fun H locs hw => ?_)
                      have h := Option.some.inj h
                      subst h
                      rw [kr]
                      exact r_rv E hw dX3_weigh_222
                    · skip
                      have nc3 := lv_neT (a := 0) c3 (by decide)
                      have nc6 := lv_neT (a := 1) c6 (by decide)
                      have nc9 := lv_neT (a := 2) c9 (by decide)
                      have nc11 := lv_neT (a := 4) c11 (by decide)
                      have nc17 := lv_neT (a := 5) c17 (by decide)
                      have nc23 := lv_neT (a := 6) c23 (by decide)
                      have nc26 := lv_neT (a := 7) c26 (by decide)
                      have nc34 := lv_neT (a := 8) c34 (by decide)
                      have nc42 := lv_neT (a := 9) c42 (by decide)
                      have nc45 := lv_neT (a := 3) c45 (by decide)
                      refine lv_tableOut (tgt := 217) hx hb dX3_weigh_1 (by omega) (by decide) ?_
                      refine lv_aload_n hx hb dX3_weigh_217 rfl (lv_at hl 0 rfl) ?_
                      refine lv_iconst (v := (1 : Int32)) hx hb dX3_weigh_218 (by decide) ?_
                      obtain ⟨V44, h43, h⟩ := ob_R_some h
                      refine c_VV E hw (kX3_push (l := l) (G := G) hB  h43) yy_X3_push lm_RX3_74 rfl (by decide) rfl rfl hl.1 (by decide) (by decide) rfl (Nat.le_of_ble_eq_true rfl) dX3_weigh_219 (fun H locs hw => ?_)
                      have h := Option.some.inj h
                      subst h
                      rw [kr]
                      exact r_rv E hw dX3_weigh_222
/-! ===== AllSawIt$Tape.step()V ===== -/
theorem dX8_step_0 : decode cX8_step 0 = .ok (.aload_n 0, 1) := by decide +kernel
theorem dX8_step_1 : decode cX8_step 1 = .ok (.aload_n 0, 1) := by decide +kernel
theorem dX8_step_2 : decode cX8_step 2 = .ok (.getfield 25, 3) := by decide +kernel
theorem dX8_step_5 : decode cX8_step 5 = .ok (.putfield 22, 3) := by decide +kernel
theorem dX8_step_8 : decode cX8_step 8 = .ok (.aload_n 0, 1) := by decide +kernel
theorem dX8_step_9 : decode cX8_step 9 = .ok (.getfield 22, 3) := by decide +kernel
theorem dX8_step_12 : decode cX8_step 12 = .ok (.aload_n 0, 1) := by decide +kernel
theorem dX8_step_13 : decode cX8_step 13 = .ok (.getfield 15, 3) := by decide +kernel
theorem dX8_step_16 : decode cX8_step 16 = .ok (.if_icmp .ge 29, 3) := by decide +kernel
theorem dX8_step_19 : decode cX8_step 19 = .ok (.aload_n 0, 1) := by decide +kernel
theorem dX8_step_20 : decode cX8_step 20 = .ok (.aload_n 0, 1) := by decide +kernel
theorem dX8_step_21 : decode cX8_step 21 = .ok (.getfield 22, 3) := by decide +kernel
theorem dX8_step_24 : decode cX8_step 24 = .ok (.invokevirtual 34, 3) := by decide +kernel
theorem dX8_step_27 : decode cX8_step 27 = .ok (.bipush 32, 2) := by decide +kernel
theorem dX8_step_29 : decode cX8_step 29 = .ok (.if_icmp .ne 16, 3) := by decide +kernel
theorem dX8_step_32 : decode cX8_step 32 = .ok (.aload_n 0, 1) := by decide +kernel
theorem dX8_step_33 : decode cX8_step 33 = .ok (.dup, 1) := by decide +kernel
theorem dX8_step_34 : decode cX8_step 34 = .ok (.getfield 22, 3) := by decide +kernel
theorem dX8_step_37 : decode cX8_step 37 = .ok (.iconst 1, 1) := by decide +kernel
theorem dX8_step_38 : decode cX8_step 38 = .ok (.iadd, 1) := by decide +kernel
theorem dX8_step_39 : decode cX8_step 39 = .ok (.putfield 22, 3) := by decide +kernel
theorem dX8_step_42 : decode cX8_step 42 = .ok (.goto (-34), 3) := by decide +kernel
theorem dX8_step_45 : decode cX8_step 45 = .ok (.aload_n 0, 1) := by decide +kernel
theorem dX8_step_46 : decode cX8_step 46 = .ok (.aload_n 0, 1) := by decide +kernel
theorem dX8_step_47 : decode cX8_step 47 = .ok (.getfield 22, 3) := by decide +kernel
theorem dX8_step_50 : decode cX8_step 50 = .ok (.putfield 25, 3) := by decide +kernel
theorem dX8_step_53 : decode cX8_step 53 = .ok (.aload_n 0, 1) := by decide +kernel
theorem dX8_step_54 : decode cX8_step 54 = .ok (.iconst 0, 1) := by decide +kernel
theorem dX8_step_55 : decode cX8_step 55 = .ok (.putfield 28, 3) := by decide +kernel
theorem dX8_step_58 : decode cX8_step 58 = .ok (.aload_n 0, 1) := by decide +kernel
theorem dX8_step_59 : decode cX8_step 59 = .ok (.aload_n 0, 1) := by decide +kernel
theorem dX8_step_60 : decode cX8_step 60 = .ok (.getfield 22, 3) := by decide +kernel
theorem dX8_step_63 : decode cX8_step 63 = .ok (.invokevirtual 34, 3) := by decide +kernel
theorem dX8_step_66 : decode cX8_step 66 = .ok (.istore_n 1, 1) := by decide +kernel
theorem dX8_step_67 : decode cX8_step 67 = .ok (.iload_n 1, 1) := by decide +kernel
theorem dX8_step_68 : decode cX8_step 68 = .ok (.iconst (-1), 1) := by decide +kernel
theorem dX8_step_69 : decode cX8_step 69 = .ok (.if_icmp .ne 11, 3) := by decide +kernel
theorem dX8_step_72 : decode cX8_step 72 = .ok (.aload_n 0, 1) := by decide +kernel
theorem dX8_step_73 : decode cX8_step 73 = .ok (.iconst 0, 1) := by decide +kernel
theorem dX8_step_74 : decode cX8_step 74 = .ok (.putfield 19, 3) := by decide +kernel
theorem dX8_step_77 : decode cX8_step 77 = .ok (.goto 147, 3) := by decide +kernel
theorem dX8_step_80 : decode cX8_step 80 = .ok (.iload_n 1, 1) := by decide +kernel
theorem dX8_step_81 : decode cX8_step 81 = .ok (.invokestatic 38, 3) := by decide +kernel
theorem dX8_step_84 : decode cX8_step 84 = .ok (.ifCond .eq 75, 3) := by decide +kernel
theorem dX8_step_87 : decode cX8_step 87 = .ok (.aload_n 0, 1) := by decide +kernel
theorem dX8_step_88 : decode cX8_step 88 = .ok (.iconst 2, 1) := by decide +kernel
theorem dX8_step_89 : decode cX8_step 89 = .ok (.putfield 19, 3) := by decide +kernel
theorem dX8_step_92 : decode cX8_step 92 = .ok (.aload_n 0, 1) := by decide +kernel
theorem dX8_step_93 : decode cX8_step 93 = .ok (.getfield 25, 3) := by decide +kernel
theorem dX8_step_96 : decode cX8_step 96 = .ok (.aload_n 0, 1) := by decide +kernel
theorem dX8_step_97 : decode cX8_step 97 = .ok (.getfield 15, 3) := by decide +kernel
theorem dX8_step_100 : decode cX8_step 100 = .ok (.if_icmp .ge 124, 3) := by decide +kernel
theorem dX8_step_103 : decode cX8_step 103 = .ok (.aload_n 0, 1) := by decide +kernel
theorem dX8_step_104 : decode cX8_step 104 = .ok (.aload_n 0, 1) := by decide +kernel
theorem dX8_step_105 : decode cX8_step 105 = .ok (.getfield 25, 3) := by decide +kernel
theorem dX8_step_108 : decode cX8_step 108 = .ok (.invokevirtual 34, 3) := by decide +kernel
theorem dX8_step_111 : decode cX8_step 111 = .ok (.invokestatic 38, 3) := by decide +kernel
theorem dX8_step_114 : decode cX8_step 114 = .ok (.ifCond .eq 110, 3) := by decide +kernel
theorem dX8_step_117 : decode cX8_step 117 = .ok (.aload_n 0, 1) := by decide +kernel
theorem dX8_step_118 : decode cX8_step 118 = .ok (.aload_n 0, 1) := by decide +kernel
theorem dX8_step_119 : decode cX8_step 119 = .ok (.getfield 28, 3) := by decide +kernel
theorem dX8_step_122 : decode cX8_step 122 = .ok (.bipush 10, 2) := by decide +kernel
theorem dX8_step_124 : decode cX8_step 124 = .ok (.imul, 1) := by decide +kernel
theorem dX8_step_125 : decode cX8_step 125 = .ok (.aload_n 0, 1) := by decide +kernel
theorem dX8_step_126 : decode cX8_step 126 = .ok (.aload_n 0, 1) := by decide +kernel
theorem dX8_step_127 : decode cX8_step 127 = .ok (.getfield 25, 3) := by decide +kernel
theorem dX8_step_130 : decode cX8_step 130 = .ok (.invokevirtual 34, 3) := by decide +kernel
theorem dX8_step_133 : decode cX8_step 133 = .ok (.iadd, 1) := by decide +kernel
theorem dX8_step_134 : decode cX8_step 134 = .ok (.bipush 48, 2) := by decide +kernel
theorem dX8_step_136 : decode cX8_step 136 = .ok (.isub, 1) := by decide +kernel
theorem dX8_step_137 : decode cX8_step 137 = .ok (.sipush 9999, 3) := by decide +kernel
theorem dX8_step_140 : decode cX8_step 140 = .ok (.invokestatic 42, 3) := by decide +kernel
theorem dX8_step_143 : decode cX8_step 143 = .ok (.putfield 28, 3) := by decide +kernel
theorem dX8_step_146 : decode cX8_step 146 = .ok (.aload_n 0, 1) := by decide +kernel
theorem dX8_step_147 : decode cX8_step 147 = .ok (.dup, 1) := by decide +kernel
theorem dX8_step_148 : decode cX8_step 148 = .ok (.getfield 25, 3) := by decide +kernel
theorem dX8_step_151 : decode cX8_step 151 = .ok (.iconst 1, 1) := by decide +kernel
theorem dX8_step_152 : decode cX8_step 152 = .ok (.iadd, 1) := by decide +kernel
theorem dX8_step_153 : decode cX8_step 153 = .ok (.putfield 25, 3) := by decide +kernel
theorem dX8_step_156 : decode cX8_step 156 = .ok (.goto (-64), 3) := by decide +kernel
theorem dX8_step_159 : decode cX8_step 159 = .ok (.iload_n 1, 1) := by decide +kernel
theorem dX8_step_160 : decode cX8_step 160 = .ok (.invokestatic 48, 3) := by decide +kernel
theorem dX8_step_163 : decode cX8_step 163 = .ok (.ifCond .eq 46, 3) := by decide +kernel
theorem dX8_step_166 : decode cX8_step 166 = .ok (.aload_n 0, 1) := by decide +kernel
theorem dX8_step_167 : decode cX8_step 167 = .ok (.iconst 1, 1) := by decide +kernel
theorem dX8_step_168 : decode cX8_step 168 = .ok (.putfield 19, 3) := by decide +kernel
theorem dX8_step_171 : decode cX8_step 171 = .ok (.aload_n 0, 1) := by decide +kernel
theorem dX8_step_172 : decode cX8_step 172 = .ok (.getfield 25, 3) := by decide +kernel
theorem dX8_step_175 : decode cX8_step 175 = .ok (.aload_n 0, 1) := by decide +kernel
theorem dX8_step_176 : decode cX8_step 176 = .ok (.getfield 15, 3) := by decide +kernel
theorem dX8_step_179 : decode cX8_step 179 = .ok (.if_icmp .ge 45, 3) := by decide +kernel
theorem dX8_step_182 : decode cX8_step 182 = .ok (.aload_n 0, 1) := by decide +kernel
theorem dX8_step_183 : decode cX8_step 183 = .ok (.aload_n 0, 1) := by decide +kernel
theorem dX8_step_184 : decode cX8_step 184 = .ok (.getfield 25, 3) := by decide +kernel
theorem dX8_step_187 : decode cX8_step 187 = .ok (.invokevirtual 34, 3) := by decide +kernel
theorem dX8_step_190 : decode cX8_step 190 = .ok (.invokestatic 48, 3) := by decide +kernel
theorem dX8_step_193 : decode cX8_step 193 = .ok (.ifCond .eq 31, 3) := by decide +kernel
theorem dX8_step_196 : decode cX8_step 196 = .ok (.aload_n 0, 1) := by decide +kernel
theorem dX8_step_197 : decode cX8_step 197 = .ok (.dup, 1) := by decide +kernel
theorem dX8_step_198 : decode cX8_step 198 = .ok (.getfield 25, 3) := by decide +kernel
theorem dX8_step_201 : decode cX8_step 201 = .ok (.iconst 1, 1) := by decide +kernel
theorem dX8_step_202 : decode cX8_step 202 = .ok (.iadd, 1) := by decide +kernel
theorem dX8_step_203 : decode cX8_step 203 = .ok (.putfield 25, 3) := by decide +kernel
theorem dX8_step_206 : decode cX8_step 206 = .ok (.goto (-35), 3) := by decide +kernel
theorem dX8_step_209 : decode cX8_step 209 = .ok (.aload_n 0, 1) := by decide +kernel
theorem dX8_step_210 : decode cX8_step 210 = .ok (.iconst 3, 1) := by decide +kernel
theorem dX8_step_211 : decode cX8_step 211 = .ok (.putfield 19, 3) := by decide +kernel
theorem dX8_step_214 : decode cX8_step 214 = .ok (.aload_n 0, 1) := by decide +kernel
theorem dX8_step_215 : decode cX8_step 215 = .ok (.dup, 1) := by decide +kernel
theorem dX8_step_216 : decode cX8_step 216 = .ok (.getfield 25, 3) := by decide +kernel
theorem dX8_step_219 : decode cX8_step 219 = .ok (.iconst 1, 1) := by decide +kernel
theorem dX8_step_220 : decode cX8_step 220 = .ok (.iadd, 1) := by decide +kernel
theorem dX8_step_221 : decode cX8_step 221 = .ok (.putfield 25, 3) := by decide +kernel
theorem dX8_step_224 : decode cX8_step 224 = .ok (.return_, 1) := by decide +kernel
noncomputable def fX8_step_L8 (V : VT) : Option (VT ⊕ VT) := if (V 1 1) ≤ (V 1 3) then (some (.inr (V))) else (ob_R (fX8_byteAt V (V 1 3)) fun y3 => if y3 = (32 : Int32) then (lt_ (va_up V 1 (upd (V 1) 3 ((V 1 3) + (1 : Int32)))) fun V4 => some (.inl V4)) else (some (.inr (V))))
noncomputable def iX8_step_L8 : VT → Option (VT ⊕ VT) := fun q => fX8_step_L8 (q)
noncomputable def fX8_step_L171 (V : VT) : Option (VT ⊕ VT) := if (V 1 1) ≤ (V 1 4) then (some (.inr (V))) else (ob_R (fX8_byteAt V (V 1 4)) fun y22 => ob_R (fX8_isLetter V y22) fun y24 => if y24 = 0 then (some (.inr (V))) else (lt_ (va_up V 1 (upd (V 1) 4 ((V 1 4) + (1 : Int32)))) fun V25 => some (.inl V25)))
noncomputable def iX8_step_L171 : VT → Option (VT ⊕ VT) := fun q => fX8_step_L171 (q)
noncomputable def fX8_step_L92 (V : VT) : Option (VT ⊕ VT) := if (V 1 1) ≤ (V 1 4) then (some (.inr (V))) else (ob_R (fX8_byteAt V (V 1 4)) fun y33 => ob_R (fX8_isDigit V y33) fun y35 => if y35 = 0 then (some (.inr (V))) else (ob_R (fX8_byteAt V (V 1 4)) fun y37 => lt_ (va_up V 1 (upd (V 1) 5 (if (9999 : Int32) < ((((V 1 5) * (10 : Int32)) + y37) - (48 : Int32)) then (9999 : Int32) else ((((V 1 5) * (10 : Int32)) + y37) - (48 : Int32))))) fun V38 => lt_ (va_up V38 1 (upd (V38 1) 4 ((V38 1 4) + (1 : Int32)))) fun V39 => some (.inl V39)))
noncomputable def iX8_step_L92 : VT → Option (VT ⊕ VT) := fun q => fX8_step_L92 (q)
noncomputable def fX8_step_j45 (V : VT) : Option VT := lt_ (va_up V 1 (upd (V 1) 4 (V 1 3))) fun V10 => lt_ (va_up V10 1 (upd (V10 1) 5 (0 : Int32))) fun V11 => ob_R (fX8_byteAt V11 (V11 1 3)) fun y13 => if y13 = (-1 : Int32) then (lt_ (va_up V11 1 (upd (V11 1) 2 (0 : Int32))) fun V45 => some V45) else (ob_R (fX8_isDigit V11 y13) fun y15 => if y15 = 0 then (ob_R (fX8_isLetter V11 y13) fun y17 => if y17 = 0 then (lt_ (va_up V11 1 (upd (V11 1) 2 (3 : Int32))) fun V18 => lt_ (va_up V18 1 (upd (V18 1) 4 ((V18 1 4) + (1 : Int32)))) fun V19 => some V19) else (lt_ (va_up V11 1 (upd (V11 1) 2 (1 : Int32))) fun V20 => ob_R (it_ (iX8_step_L171) FV V20) fun x29 => some x29)) else (lt_ (va_up V11 1 (upd (V11 1) 2 (2 : Int32))) fun V31 => ob_R (it_ (iX8_step_L92) FV V31) fun x43 => some x43))
noncomputable def fX8_step (V : VT) : Option VT := lt_ (va_up V 1 (upd (V 1) 3 (V 1 4))) fun V1 => ob_R (it_ (iX8_step_L8) FV V1) fun x8 => (lt_ x8 fun V9 => fX8_step_j45 V9)
set_option maxHeartbeats 4000000 in
set_option maxRecDepth 100000 in
theorem wX8_step_L8 {p : Program} {l : Launch} {e : Env} {s : State} {m : MethodId} {args : Array Value} {below : List Frame} {meth : Method} {c : Code} {G : GT} {B : BGt} {Q : State → Prop} (E : En p s m args c meth cX8_step 2 RX8 none G B) {x : VT} (ke : ∀ q : VT, x = q → ∀ (H : Heap) (locs : List Loc) (ls : Array Slot), HW G s.heap q H locs → lv_has ls 2 [(0, .ref (G.2.2 1))] → W p l e (rmD 3) s m args below meth c H locs 0 0 Q (F0 m 45 ls [])) : ∀ (n : Nat) (q : VT), it_ (iX8_step_L8) n q = some x → ∀ (H : Heap) (locs : List Loc) (ls : Array Slot), HW G s.heap q H locs → lv_has ls 2 [(0, .ref (G.2.2 1))] → W p l e (rmD 3) s m args below meth c H locs 0 0 Q (F0 m 8 ls []) := by
  have hx := en_x E
  have hb := en_b E
  have hB := en_B E
  refine it_W (fun q : VT => ∀ (H : Heap) (locs : List Loc) (ls : Array Slot), HW G s.heap q H locs → lv_has ls 2 [(0, .ref (G.2.2 1))] → W p l e (rmD 3) s m args below meth c H locs 0 0 Q (F0 m 8 ls [])) x ?_
  intro q r h kc kx
  obtain ⟨V, rfl⟩ : ∃ z, z = q := ⟨_, rfl⟩
  intro H locs ls hw hl
  have h : fX8_step_L8 V = some r := h
  have hw : HW G s.heap V H locs := hw
  have hl : lv_has ls 2 [(0, .ref (G.2.2 1))] := hl
  have ke : ∀ q : VT, r = .inr (q) → ∀ (H : Heap) (locs : List Loc) (ls : Array Slot), HW G s.heap q H locs → lv_has ls 2 [(0, .ref (G.2.2 1))] → W p l e (rmD 3) s m args below meth c H locs 0 0 Q (F0 m 45 ls []) := fun q e => ke q (kx _ e).symm
  unfold fX8_step_L8 at h
  refine lv_aload_n hx hb dX8_step_8 rfl (lv_at hl 0 rfl) ?_
  refine r_gi E hw 1 3 (N := 6) (C := RX8) (T := TX8) (by decide) rfl rfl (by decide) rfl iw_8 rfl lf_RX8_22 dX8_step_9 ?_
  refine lv_aload_n hx hb dX8_step_12 rfl (lv_at hl 0 rfl) ?_
  refine r_gi E hw 1 1 (N := 6) (C := RX8) (T := TX8) (by decide) rfl rfl (by decide) rfl iw_8 rfl lf_RX8_15 dX8_step_13 ?_
  refine lv_icmp_ge (tgt := 45) hx hb dX8_step_16 (by decide) (fun c6 => ?_) (fun c6 => ?_)
  · rw [if_pos c6] at h
    exact ke V (Option.some.inj h).symm H locs ls hw (lv_sub hl [0] rfl)
  · rw [if_neg c6] at h
    refine lv_aload_n hx hb dX8_step_19 rfl (lv_at hl 0 rfl) ?_
    refine lv_aload_n hx hb dX8_step_20 rfl (lv_at hl 0 rfl) ?_
    refine r_gi E hw 1 3 (N := 6) (C := RX8) (T := TX8) (by decide) rfl rfl (by decide) rfl iw_8 rfl lf_RX8_22 dX8_step_21 ?_
    obtain ⟨y3, h2, h⟩ := ob_R_some h
    refine c_VI E hw (kX8_byteAt (l := l) (G := G) hB  h2) yy_X8_byteAt lm_RX8_34 rfl (by decide) rfl rfl hl.1 (by decide) (by decide) rfl (Nat.le_of_ble_eq_true rfl) dX8_step_24 (fun H locs hw => ?_)
    refine lv_bipush (v := (32 : Int32)) hx hb dX8_step_27 (by decide) ?_
    refine lv_icmp_ne (tgt := 45) hx hb dX8_step_29 (by decide) (fun c5 => ?_) (fun c5 => ?_)
    · rw [if_neg c5] at h
      exact ke V (Option.some.inj h).symm H locs ls hw (lv_sub hl [0] rfl)
    · rw [if_pos c5] at h
      refine lv_aload_n hx hb dX8_step_32 rfl (lv_at hl 0 rfl) ?_
      refine lv_dup hx hb dX8_step_33 rfl ?_
      refine r_gi E hw 1 3 (N := 6) (C := RX8) (T := TX8) (by decide) rfl rfl (by decide) rfl iw_8 rfl lf_RX8_22 dX8_step_34 ?_
      refine lv_iconst (v := (1 : Int32)) hx hb dX8_step_37 (by decide) ?_
      refine lv_iadd hx hb dX8_step_38 ?_
      obtain ⟨V4, eV4, h⟩ := lt_some h
      refine r_pi E hw 1 3 (N := 6) (C := RX8) (T := TX8) (ty0 := tyX8) (ty := .int) (by decide) rfl rfl (by decide) rfl iw_8 rfl tyX8_ok nmX8 rfl rfl (vp_nar_int _) rfl lf_RX8_22 eV4 dX8_step_39 (fun H locs hw => ?_)
      refine lv_goto (tgt := 8) hx hb dX8_step_42 (by decide) ?_
      exact kc V4 (Option.some.inj h).symm H locs ls hw (lv_sub hl [0] rfl)
set_option maxHeartbeats 4000000 in
set_option maxRecDepth 100000 in
theorem wX8_step_L171 {p : Program} {l : Launch} {e : Env} {s : State} {m : MethodId} {args : Array Value} {below : List Frame} {meth : Method} {c : Code} {G : GT} {B : BGt} {Q : State → Prop} (E : En p s m args c meth cX8_step 2 RX8 none G B) {x : VT} (kr : ∀ q : VT, x = q → Q = MQ below (QV G s.heap.size q) args s 0 0 (gA G s.heap.size)) : ∀ (n : Nat) (q : VT), it_ (iX8_step_L171) n q = some x → ∀ (H : Heap) (locs : List Loc) (ls : Array Slot), HW G s.heap q H locs → lv_has ls 2 [(0, .ref (G.2.2 1))] → W p l e (rmD 3) s m args below meth c H locs 0 0 Q (F0 m 171 ls []) := by
  have hx := en_x E
  have hb := en_b E
  have hB := en_B E
  refine it_W (fun q : VT => ∀ (H : Heap) (locs : List Loc) (ls : Array Slot), HW G s.heap q H locs → lv_has ls 2 [(0, .ref (G.2.2 1))] → W p l e (rmD 3) s m args below meth c H locs 0 0 Q (F0 m 171 ls [])) x ?_
  intro q r h kc kx
  obtain ⟨V, rfl⟩ : ∃ z, z = q := ⟨_, rfl⟩
  intro H locs ls hw hl
  have h : fX8_step_L171 V = some r := h
  have hw : HW G s.heap V H locs := hw
  have hl : lv_has ls 2 [(0, .ref (G.2.2 1))] := hl
  have kr : ∀ q : VT, r = .inr (q) → Q = MQ below (QV G s.heap.size q) args s 0 0 (gA G s.heap.size) := fun q e => kr q (kx _ e).symm
  unfold fX8_step_L171 at h
  refine lv_aload_n hx hb dX8_step_171 rfl (lv_at hl 0 rfl) ?_
  refine r_gi E hw 1 4 (N := 6) (C := RX8) (T := TX8) (by decide) rfl rfl (by decide) rfl iw_8 rfl lf_RX8_25 dX8_step_172 ?_
  refine lv_aload_n hx hb dX8_step_175 rfl (lv_at hl 0 rfl) ?_
  refine r_gi E hw 1 1 (N := 6) (C := RX8) (T := TX8) (by decide) rfl rfl (by decide) rfl iw_8 rfl lf_RX8_15 dX8_step_176 ?_
  refine lv_icmp_ge (tgt := 224) hx hb dX8_step_179 (by decide) (fun c27 => ?_) (fun c27 => ?_)
  · rw [if_pos c27] at h
    rw [kr V (Option.some.inj h).symm]
    exact r_rv E hw dX8_step_224
  · rw [if_neg c27] at h
    refine lv_aload_n hx hb dX8_step_182 rfl (lv_at hl 0 rfl) ?_
    refine lv_aload_n hx hb dX8_step_183 rfl (lv_at hl 0 rfl) ?_
    refine r_gi E hw 1 4 (N := 6) (C := RX8) (T := TX8) (by decide) rfl rfl (by decide) rfl iw_8 rfl lf_RX8_25 dX8_step_184 ?_
    obtain ⟨y22, h21, h⟩ := ob_R_some h
    refine c_VI E hw (kX8_byteAt (l := l) (G := G) hB  h21) yy_X8_byteAt lm_RX8_34 rfl (by decide) rfl rfl hl.1 (by decide) (by decide) rfl (Nat.le_of_ble_eq_true rfl) dX8_step_187 (fun H locs hw => ?_)
    obtain ⟨y24, h23, h⟩ := ob_R_some h
    refine c_SI E hw (kX8_isLetter (l := l) (G := G) hB  h23) yy_X8_isLetter lm_RX8_48 rfl hl.1 (by decide) (by decide) rfl (Nat.le_of_ble_eq_true rfl) dX8_step_190 (fun H locs hw => ?_)
    refine lv_if_eq (tgt := 224) hx hb dX8_step_193 (by decide) (fun c26 => ?_) (fun c26 => ?_)
    · rw [if_pos c26] at h
      rw [kr V (Option.some.inj h).symm]
      exact r_rv E hw dX8_step_224
    · rw [if_neg c26] at h
      refine lv_aload_n hx hb dX8_step_196 rfl (lv_at hl 0 rfl) ?_
      refine lv_dup hx hb dX8_step_197 rfl ?_
      refine r_gi E hw 1 4 (N := 6) (C := RX8) (T := TX8) (by decide) rfl rfl (by decide) rfl iw_8 rfl lf_RX8_25 dX8_step_198 ?_
      refine lv_iconst (v := (1 : Int32)) hx hb dX8_step_201 (by decide) ?_
      refine lv_iadd hx hb dX8_step_202 ?_
      obtain ⟨V25, eV25, h⟩ := lt_some h
      refine r_pi E hw 1 4 (N := 6) (C := RX8) (T := TX8) (ty0 := tyX8) (ty := .int) (by decide) rfl rfl (by decide) rfl iw_8 rfl tyX8_ok nmX8 rfl rfl (vp_nar_int _) rfl lf_RX8_25 eV25 dX8_step_203 (fun H locs hw => ?_)
      refine lv_goto (tgt := 171) hx hb dX8_step_206 (by decide) ?_
      exact kc V25 (Option.some.inj h).symm H locs ls hw (lv_sub hl [0] rfl)
set_option maxHeartbeats 4000000 in
set_option maxRecDepth 100000 in
theorem wX8_step_L92 {p : Program} {l : Launch} {e : Env} {s : State} {m : MethodId} {args : Array Value} {below : List Frame} {meth : Method} {c : Code} {G : GT} {B : BGt} {Q : State → Prop} (E : En p s m args c meth cX8_step 2 RX8 none G B) {x : VT} (kr : ∀ q : VT, x = q → Q = MQ below (QV G s.heap.size q) args s 0 0 (gA G s.heap.size)) : ∀ (n : Nat) (q : VT), it_ (iX8_step_L92) n q = some x → ∀ (H : Heap) (locs : List Loc) (ls : Array Slot), HW G s.heap q H locs → lv_has ls 2 [(0, .ref (G.2.2 1))] → W p l e (rmD 3) s m args below meth c H locs 0 0 Q (F0 m 92 ls []) := by
  have hx := en_x E
  have hb := en_b E
  have hB := en_B E
  refine it_W (fun q : VT => ∀ (H : Heap) (locs : List Loc) (ls : Array Slot), HW G s.heap q H locs → lv_has ls 2 [(0, .ref (G.2.2 1))] → W p l e (rmD 3) s m args below meth c H locs 0 0 Q (F0 m 92 ls [])) x ?_
  intro q r h kc kx
  obtain ⟨V, rfl⟩ : ∃ z, z = q := ⟨_, rfl⟩
  intro H locs ls hw hl
  have h : fX8_step_L92 V = some r := h
  have hw : HW G s.heap V H locs := hw
  have hl : lv_has ls 2 [(0, .ref (G.2.2 1))] := hl
  have kr : ∀ q : VT, r = .inr (q) → Q = MQ below (QV G s.heap.size q) args s 0 0 (gA G s.heap.size) := fun q e => kr q (kx _ e).symm
  unfold fX8_step_L92 at h
  refine lv_aload_n hx hb dX8_step_92 rfl (lv_at hl 0 rfl) ?_
  refine r_gi E hw 1 4 (N := 6) (C := RX8) (T := TX8) (by decide) rfl rfl (by decide) rfl iw_8 rfl lf_RX8_25 dX8_step_93 ?_
  refine lv_aload_n hx hb dX8_step_96 rfl (lv_at hl 0 rfl) ?_
  refine r_gi E hw 1 1 (N := 6) (C := RX8) (T := TX8) (by decide) rfl rfl (by decide) rfl iw_8 rfl lf_RX8_15 dX8_step_97 ?_
  refine lv_icmp_ge (tgt := 224) hx hb dX8_step_100 (by decide) (fun c41 => ?_) (fun c41 => ?_)
  · rw [if_pos c41] at h
    rw [kr V (Option.some.inj h).symm]
    exact r_rv E hw dX8_step_224
  · rw [if_neg c41] at h
    refine lv_aload_n hx hb dX8_step_103 rfl (lv_at hl 0 rfl) ?_
    refine lv_aload_n hx hb dX8_step_104 rfl (lv_at hl 0 rfl) ?_
    refine r_gi E hw 1 4 (N := 6) (C := RX8) (T := TX8) (by decide) rfl rfl (by decide) rfl iw_8 rfl lf_RX8_25 dX8_step_105 ?_
    obtain ⟨y33, h32, h⟩ := ob_R_some h
    refine c_VI E hw (kX8_byteAt (l := l) (G := G) hB  h32) yy_X8_byteAt lm_RX8_34 rfl (by decide) rfl rfl hl.1 (by decide) (by decide) rfl (Nat.le_of_ble_eq_true rfl) dX8_step_108 (fun H locs hw => ?_)
    obtain ⟨y35, h34, h⟩ := ob_R_some h
    refine c_SI E hw (kX8_isDigit (l := l) (G := G) hB  h34) yy_X8_isDigit lm_RX8_38 rfl hl.1 (by decide) (by decide) rfl (Nat.le_of_ble_eq_true rfl) dX8_step_111 (fun H locs hw => ?_)
    refine lv_if_eq (tgt := 224) hx hb dX8_step_114 (by decide) (fun c40 => ?_) (fun c40 => ?_)
    · rw [if_pos c40] at h
      rw [kr V (Option.some.inj h).symm]
      exact r_rv E hw dX8_step_224
    · rw [if_neg c40] at h
      refine lv_aload_n hx hb dX8_step_117 rfl (lv_at hl 0 rfl) ?_
      refine lv_aload_n hx hb dX8_step_118 rfl (lv_at hl 0 rfl) ?_
      refine r_gi E hw 1 5 (N := 6) (C := RX8) (T := TX8) (by decide) rfl rfl (by decide) rfl iw_8 rfl lf_RX8_28 dX8_step_119 ?_
      refine lv_bipush (v := (10 : Int32)) hx hb dX8_step_122 (by decide) ?_
      refine lv_imul hx hb dX8_step_124 ?_
      refine lv_aload_n hx hb dX8_step_125 rfl (lv_at hl 0 rfl) ?_
      refine lv_aload_n hx hb dX8_step_126 rfl (lv_at hl 0 rfl) ?_
      refine r_gi E hw 1 4 (N := 6) (C := RX8) (T := TX8) (by decide) rfl rfl (by decide) rfl iw_8 rfl lf_RX8_25 dX8_step_127 ?_
      obtain ⟨y37, h36, h⟩ := ob_R_some h
      refine c_VI E hw (kX8_byteAt (l := l) (G := G) hB  h36) yy_X8_byteAt lm_RX8_34 rfl (by decide) rfl rfl hl.1 (by decide) (by decide) rfl (Nat.le_of_ble_eq_true rfl) dX8_step_130 (fun H locs hw => ?_)
      refine lv_iadd hx hb dX8_step_133 ?_
      refine lv_bipush (v := (48 : Int32)) hx hb dX8_step_134 (by decide) ?_
      refine lv_isub hx hb dX8_step_136 ?_
      refine lv_sipush (v := (9999 : Int32)) hx hb dX8_step_137 (by decide) ?_
      refine r_min E hl.1 lm_RX8_42 (by decide) (Nat.le_of_ble_eq_true rfl) dX8_step_140 ?_
      obtain ⟨V38, eV38, h⟩ := lt_some h
      refine r_pi E hw 1 5 (N := 6) (C := RX8) (T := TX8) (ty0 := tyX8) (ty := .int) (by decide) rfl rfl (by decide) rfl iw_8 rfl tyX8_ok nmX8 rfl rfl (vp_nar_int _) rfl lf_RX8_28 eV38 dX8_step_143 (fun H locs hw => ?_)
      refine lv_aload_n hx hb dX8_step_146 rfl (lv_at hl 0 rfl) ?_
      refine lv_dup hx hb dX8_step_147 rfl ?_
      refine r_gi E hw 1 4 (N := 6) (C := RX8) (T := TX8) (by decide) rfl rfl (by decide) rfl iw_8 rfl lf_RX8_25 dX8_step_148 ?_
      refine lv_iconst (v := (1 : Int32)) hx hb dX8_step_151 (by decide) ?_
      refine lv_iadd hx hb dX8_step_152 ?_
      obtain ⟨V39, eV39, h⟩ := lt_some h
      refine r_pi E hw 1 4 (N := 6) (C := RX8) (T := TX8) (ty0 := tyX8) (ty := .int) (by decide) rfl rfl (by decide) rfl iw_8 rfl tyX8_ok nmX8 rfl rfl (vp_nar_int _) rfl lf_RX8_25 eV39 dX8_step_153 (fun H locs hw => ?_)
      refine lv_goto (tgt := 92) hx hb dX8_step_156 (by decide) ?_
      exact kc V39 (Option.some.inj h).symm H locs ls hw (lv_sub hl [0] rfl)
set_option maxHeartbeats 4000000 in
set_option maxRecDepth 100000 in
theorem wX8_step_j45 {p : Program} {l : Launch} {e : Env} {s : State} {m : MethodId} {args : Array Value} {below : List Frame} {meth : Method} {c : Code} {G : GT} {B : BGt} {Q : State → Prop} (E : En p s m args c meth cX8_step 2 RX8 none G B) {V : VT} {r : VT} (h : fX8_step_j45 V = some r) (kr : Q = MQ below (QV G s.heap.size r) args s 0 0 (gA G s.heap.size)) {H : Heap} {locs : List Loc} {ls : Array Slot} (hw : HW G s.heap V H locs) (hl : lv_has ls 2 [(0, .ref (G.2.2 1))]) : W p l e (rmD 3) s m args below meth c H locs 0 0 Q (F0 m 45 ls []) := by
  have hx := en_x E
  have hb := en_b E
  have hB := en_B E
  unfold fX8_step_j45 at h
  refine lv_aload_n hx hb dX8_step_45 rfl (lv_at hl 0 rfl) ?_
  refine lv_aload_n hx hb dX8_step_46 rfl (lv_at hl 0 rfl) ?_
  refine r_gi E hw 1 3 (N := 6) (C := RX8) (T := TX8) (by decide) rfl rfl (by decide) rfl iw_8 rfl lf_RX8_22 dX8_step_47 ?_
  obtain ⟨V10, eV10, h⟩ := lt_some h
  refine r_pi E hw 1 4 (N := 6) (C := RX8) (T := TX8) (ty0 := tyX8) (ty := .int) (by decide) rfl rfl (by decide) rfl iw_8 rfl tyX8_ok nmX8 rfl rfl (vp_nar_int _) rfl lf_RX8_25 eV10 dX8_step_50 (fun H locs hw => ?_)
  refine lv_aload_n hx hb dX8_step_53 rfl (lv_at hl 0 rfl) ?_
  refine lv_iconst (v := (0 : Int32)) hx hb dX8_step_54 (by decide) ?_
  obtain ⟨V11, eV11, h⟩ := lt_some h
  refine r_pi E hw 1 5 (N := 6) (C := RX8) (T := TX8) (ty0 := tyX8) (ty := .int) (by decide) rfl rfl (by decide) rfl iw_8 rfl tyX8_ok nmX8 rfl rfl (vp_nar_int _) rfl lf_RX8_28 eV11 dX8_step_55 (fun H locs hw => ?_)
  refine lv_aload_n hx hb dX8_step_58 rfl (lv_at hl 0 rfl) ?_
  refine lv_aload_n hx hb dX8_step_59 rfl (lv_at hl 0 rfl) ?_
  refine r_gi E hw 1 3 (N := 6) (C := RX8) (T := TX8) (by decide) rfl rfl (by decide) rfl iw_8 rfl lf_RX8_22 dX8_step_60 ?_
  obtain ⟨y13, h12, h⟩ := ob_R_some h
  refine c_VI E hw (kX8_byteAt (l := l) (G := G) hB  h12) yy_X8_byteAt lm_RX8_34 rfl (by decide) rfl rfl hl.1 (by decide) (by decide) rfl (Nat.le_of_ble_eq_true rfl) dX8_step_63 (fun H locs hw => ?_)
  refine lv_istore_n (lv' := [(1, .int y13), (0, .ref (G.2.2 1))]) hx hb dX8_step_66 rfl hl (by decide) rfl (fun ls hl => ?_)
  refine lv_iload_n hx hb dX8_step_67 rfl (lv_at hl 0 rfl) ?_
  refine lv_iconst (v := (-1 : Int32)) hx hb dX8_step_68 (by decide) ?_
  refine lv_icmp_ne (tgt := 80) hx hb dX8_step_69 (by decide) (fun c46 => ?_) (fun c46 => ?_)
  · rw [if_neg c46] at h
    refine lv_iload_n hx hb dX8_step_80 rfl (lv_at hl 0 rfl) ?_
    obtain ⟨y15, h14, h⟩ := ob_R_some h
    refine c_SI E hw (kX8_isDigit (l := l) (G := G) hB  h14) yy_X8_isDigit lm_RX8_38 rfl hl.1 (by decide) (by decide) rfl (Nat.le_of_ble_eq_true rfl) dX8_step_81 (fun H locs hw => ?_)
    refine lv_if_eq (tgt := 159) hx hb dX8_step_84 (by decide) (fun c44 => ?_) (fun c44 => ?_)
    · rw [if_pos c44] at h
      refine lv_iload_n hx hb dX8_step_159 rfl (lv_at hl 0 rfl) ?_
      obtain ⟨y17, h16, h⟩ := ob_R_some h
      refine c_SI E hw (kX8_isLetter (l := l) (G := G) hB  h16) yy_X8_isLetter lm_RX8_48 rfl hl.1 (by decide) (by decide) rfl (Nat.le_of_ble_eq_true rfl) dX8_step_160 (fun H locs hw => ?_)
      refine lv_if_eq (tgt := 209) hx hb dX8_step_163 (by decide) (fun c30 => ?_) (fun c30 => ?_)
      · rw [if_pos c30] at h
        refine lv_aload_n hx hb dX8_step_209 rfl (lv_at hl 1 rfl) ?_
        refine lv_iconst (v := (3 : Int32)) hx hb dX8_step_210 (by decide) ?_
        obtain ⟨V18, eV18, h⟩ := lt_some h
        refine r_pi E hw 1 2 (N := 6) (C := RX8) (T := TX8) (ty0 := tyX8) (ty := .int) (by decide) rfl rfl (by decide) rfl iw_8 rfl tyX8_ok nmX8 rfl rfl (vp_nar_int _) rfl lf_RX8_19 eV18 dX8_step_211 (fun H locs hw => ?_)
        refine lv_aload_n hx hb dX8_step_214 rfl (lv_at hl 1 rfl) ?_
        refine lv_dup hx hb dX8_step_215 rfl ?_
        refine r_gi E hw 1 4 (N := 6) (C := RX8) (T := TX8) (by decide) rfl rfl (by decide) rfl iw_8 rfl lf_RX8_25 dX8_step_216 ?_
        refine lv_iconst (v := (1 : Int32)) hx hb dX8_step_219 (by decide) ?_
        refine lv_iadd hx hb dX8_step_220 ?_
        obtain ⟨V19, eV19, h⟩ := lt_some h
        refine r_pi E hw 1 4 (N := 6) (C := RX8) (T := TX8) (ty0 := tyX8) (ty := .int) (by decide) rfl rfl (by decide) rfl iw_8 rfl tyX8_ok nmX8 rfl rfl (vp_nar_int _) rfl lf_RX8_25 eV19 dX8_step_221 (fun H locs hw => ?_)
        have h := Option.some.inj h
        subst h
        rw [kr]
        exact r_rv E hw dX8_step_224
      · rw [if_neg c30] at h
        refine lv_aload_n hx hb dX8_step_166 rfl (lv_at hl 1 rfl) ?_
        refine lv_iconst (v := (1 : Int32)) hx hb dX8_step_167 (by decide) ?_
        obtain ⟨V20, eV20, h⟩ := lt_some h
        refine r_pi E hw 1 2 (N := 6) (C := RX8) (T := TX8) (ty0 := tyX8) (ty := .int) (by decide) rfl rfl (by decide) rfl iw_8 rfl tyX8_ok nmX8 rfl rfl (vp_nar_int _) rfl lf_RX8_19 eV20 dX8_step_168 (fun H locs hw => ?_)
        obtain ⟨x29, h28, h⟩ := ob_R_some h
        have h := Option.some.inj h
        subst h
        exact wX8_step_L171 E (fun q e => by subst e; exact kr) FV V20 h28 H locs ls hw (lv_sub hl [1] rfl)
    · rw [if_neg c44] at h
      refine lv_aload_n hx hb dX8_step_87 rfl (lv_at hl 1 rfl) ?_
      refine lv_iconst (v := (2 : Int32)) hx hb dX8_step_88 (by decide) ?_
      obtain ⟨V31, eV31, h⟩ := lt_some h
      refine r_pi E hw 1 2 (N := 6) (C := RX8) (T := TX8) (ty0 := tyX8) (ty := .int) (by decide) rfl rfl (by decide) rfl iw_8 rfl tyX8_ok nmX8 rfl rfl (vp_nar_int _) rfl lf_RX8_19 eV31 dX8_step_89 (fun H locs hw => ?_)
      obtain ⟨x43, h42, h⟩ := ob_R_some h
      have h := Option.some.inj h
      subst h
      exact wX8_step_L92 E (fun q e => by subst e; exact kr) FV V31 h42 H locs ls hw (lv_sub hl [1] rfl)
  · rw [if_pos c46] at h
    refine lv_aload_n hx hb dX8_step_72 rfl (lv_at hl 1 rfl) ?_
    refine lv_iconst (v := (0 : Int32)) hx hb dX8_step_73 (by decide) ?_
    obtain ⟨V45, eV45, h⟩ := lt_some h
    refine r_pi E hw 1 2 (N := 6) (C := RX8) (T := TX8) (ty0 := tyX8) (ty := .int) (by decide) rfl rfl (by decide) rfl iw_8 rfl tyX8_ok nmX8 rfl rfl (vp_nar_int _) rfl lf_RX8_19 eV45 dX8_step_74 (fun H locs hw => ?_)
    refine lv_goto (tgt := 224) hx hb dX8_step_77 (by decide) ?_
    have h := Option.some.inj h
    subst h
    rw [kr]
    exact r_rv E hw dX8_step_224
set_option maxHeartbeats 4000000 in
set_option maxRecDepth 100000 in
theorem kX8_step {l : Launch} {G : GT} {B : BGt} (hB : BGok B) {V : VT} {r : VT} (h : fX8_step V = some r) : CV l G B yX8_step (.code yX8_step cX8_step 2 none) 3 [.ref (G.2.2 1)] V r := by
  intro sz
  refine met_of (Qs := fun sz => QV G sz r) hB (by decide) (Nat.le_of_ble_eq_true rfl) ?_ sz
  intro p e s m args below meth c ls E hw hl
  have hx := en_x E
  have hb := en_b E
  generalize hQ : MQ _ _ _ _ _ _ _ = Q
  have kr : Q = MQ below (QV G s.heap.size r) args s 0 0 (gA G s.heap.size) := hQ.symm
  have hl : lv_has ls 2 [(0, .ref (G.2.2 1))] := hl
  obtain ⟨H, eH⟩ : ∃ H, H = s.heap := ⟨_, rfl⟩
  obtain ⟨locs, elocs⟩ : ∃ z : List Loc, z = [] := ⟨_, rfl⟩
  have hw : HW G s.heap V H locs := by rw [eH, elocs]; exact hw
  show W p l e _ s m args below meth c s.heap [] 0 0 Q (F0 m 0 ls [])
  rw [← eH, ← elocs]
  unfold fX8_step at h
  refine lv_aload_n hx hb dX8_step_0 rfl (lv_at hl 0 rfl) ?_
  refine lv_aload_n hx hb dX8_step_1 rfl (lv_at hl 0 rfl) ?_
  refine r_gi E hw 1 4 (N := 6) (C := RX8) (T := TX8) (by decide) rfl rfl (by decide) rfl iw_8 rfl lf_RX8_25 dX8_step_2 ?_
  obtain ⟨V1, eV1, h⟩ := lt_some h
  refine r_pi E hw 1 3 (N := 6) (C := RX8) (T := TX8) (ty0 := tyX8) (ty := .int) (by decide) rfl rfl (by decide) rfl iw_8 rfl tyX8_ok nmX8 rfl rfl (vp_nar_int _) rfl lf_RX8_22 eV1 dX8_step_5 (fun H locs hw => ?_)
  obtain ⟨x8, h7, h⟩ := ob_R_some h
  obtain ⟨V9, rfl⟩ : ∃ z, z = x8 := ⟨_, rfl⟩
  refine wX8_step_L8 E (fun q e H locs ls hw hl => ?_) FV V1 h7 H locs ls hw (lv_sub hl [0] rfl)
  subst e
  have hw : HW G s.heap V9 H locs := hw
  have hl : lv_has ls 2 [(0, .ref (G.2.2 1))] := hl
  have h := lt_eq h
  exact wX8_step_j45 E h kr hw (lv_sub hl [0] rfl)
/-! ===== AllSawIt$Tape.takeSign(C)Z ===== -/
theorem dX8_takeSign_0 : decode cX8_takeSign 0 = .ok (.aload_n 0, 1) := by decide +kernel
theorem dX8_takeSign_1 : decode cX8_takeSign 1 = .ok (.iload_n 1, 1) := by decide +kernel
theorem dX8_takeSign_2 : decode cX8_takeSign 2 = .ok (.invokevirtual 64, 3) := by decide +kernel
theorem dX8_takeSign_5 : decode cX8_takeSign 5 = .ok (.ifCond .ne 5, 3) := by decide +kernel
theorem dX8_takeSign_8 : decode cX8_takeSign 8 = .ok (.iconst 0, 1) := by decide +kernel
theorem dX8_takeSign_9 : decode cX8_takeSign 9 = .ok (.ireturn, 1) := by decide +kernel
theorem dX8_takeSign_10 : decode cX8_takeSign 10 = .ok (.aload_n 0, 1) := by decide +kernel
theorem dX8_takeSign_11 : decode cX8_takeSign 11 = .ok (.invokevirtual 31, 3) := by decide +kernel
theorem dX8_takeSign_14 : decode cX8_takeSign 14 = .ok (.iconst 1, 1) := by decide +kernel
theorem dX8_takeSign_15 : decode cX8_takeSign 15 = .ok (.ireturn, 1) := by decide +kernel
noncomputable def fX8_takeSign (V : VT) (x1 : Int32) : Option (Int32 × VT) := ob_R (fX8_isSign V x1) fun y2 => if y2 = 0 then (zo_ (0 : Int32) (some ((0 : Int32), V))) else (ob_R (fX8_step V ) fun V4 => zo_ (1 : Int32) (some ((1 : Int32), V4)))
set_option maxHeartbeats 4000000 in
set_option maxRecDepth 100000 in
theorem kX8_takeSign {l : Launch} {G : GT} {B : BGt} (hB : BGok B) {V : VT} {x1 : Int32} {r : (Int32 × VT)} (h : fX8_takeSign V x1 = some r) : CI l G B yX8_takeSign (.code yX8_takeSign cX8_takeSign 2 (some .boolean)) 4 [.ref (G.2.2 1), .int x1] V r.1 r.2 := by
  intro sz
  refine met_of (Qs := fun sz => QI G sz (r.1) (r.2)) hB (by decide) (Nat.le_of_ble_eq_true rfl) ?_ sz
  intro p e s m args below meth c ls E hw hl
  have hx := en_x E
  have hb := en_b E
  generalize hQ : MQ _ _ _ _ _ _ _ = Q
  have kr : Q = MQ below (QI G s.heap.size r.1 r.2) args s 0 0 (gA G s.heap.size) := hQ.symm
  have hl : lv_has ls 2 [(0, .ref (G.2.2 1)), (1, .int x1)] := hl
  obtain ⟨H, eH⟩ : ∃ H, H = s.heap := ⟨_, rfl⟩
  obtain ⟨locs, elocs⟩ : ∃ z : List Loc, z = [] := ⟨_, rfl⟩
  have hw : HW G s.heap V H locs := by rw [eH, elocs]; exact hw
  show W p l e _ s m args below meth c s.heap [] 0 0 Q (F0 m 0 ls [])
  rw [← eH, ← elocs]
  unfold fX8_takeSign at h
  refine lv_aload_n hx hb dX8_takeSign_0 rfl (lv_at hl 0 rfl) ?_
  refine lv_iload_n hx hb dX8_takeSign_1 rfl (lv_at hl 1 rfl) ?_
  obtain ⟨y2, h1, h⟩ := ob_R_some h
  refine c_VI E hw (kX8_isSign (l := l) (G := G) hB  h1) yy_X8_isSign lm_RX8_64 rfl (by decide) rfl rfl hl.1 (by decide) (by decide) rfl (Nat.le_of_ble_eq_true rfl) dX8_takeSign_2 (fun H locs hw => ?_)
  refine lv_if_ne (tgt := 10) hx hb dX8_takeSign_5 (by decide) (fun c7 => ?_) (fun c7 => ?_)
  · rw [if_neg c7] at h
    refine lv_aload_n hx hb dX8_takeSign_10 rfl (lv_at hl 0 rfl) ?_
    obtain ⟨V4, h3, h⟩ := ob_R_some h
    refine c_VV E hw (kX8_step (l := l) (G := G) hB  h3) yy_X8_step lm_RX8_31 rfl (by decide) rfl rfl hl.1 (by decide) (by decide) rfl (Nat.le_of_ble_eq_true rfl) dX8_takeSign_11 (fun H locs hw => ?_)
    refine lv_iconst (v := (1 : Int32)) hx hb dX8_takeSign_14 (by decide) ?_
    obtain ⟨z5, h⟩ := zo_some h
    have h := Option.some.inj h
    subst h
    rw [kr]
    exact r_rz E hw z5 dX8_takeSign_15
  · rw [if_pos c7] at h
    refine lv_iconst (v := (0 : Int32)) hx hb dX8_takeSign_8 (by decide) ?_
    obtain ⟨z6, h⟩ := zo_some h
    have h := Option.some.inj h
    subst h
    rw [kr]
    exact r_rz E hw z6 dX8_takeSign_9
/-! ===== AllSawIt$Law.lets(LAllSawIt$State;III)Z ===== -/
theorem dX3_lets_0 : decode cX3_lets 0 = .ok (.aload_n 0, 1) := by decide +kernel
theorem dX3_lets_1 : decode cX3_lets 1 = .ok (.aload_n 1, 1) := by decide +kernel
theorem dX3_lets_2 : decode cX3_lets 2 = .ok (.iload_n 2, 1) := by decide +kernel
theorem dX3_lets_3 : decode cX3_lets 3 = .ok (.iload 4, 2) := by decide +kernel
theorem dX3_lets_5 : decode cX3_lets 5 = .ok (.invokevirtual 48, 3) := by decide +kernel
theorem dX3_lets_8 : decode cX3_lets 8 = .ok (.putfield 22, 3) := by decide +kernel
theorem dX3_lets_11 : decode cX3_lets 11 = .ok (.aload_n 0, 1) := by decide +kernel
theorem dX3_lets_12 : decode cX3_lets 12 = .ok (.aload_n 1, 1) := by decide +kernel
theorem dX3_lets_13 : decode cX3_lets 13 = .ok (.iload_n 2, 1) := by decide +kernel
theorem dX3_lets_14 : decode cX3_lets 14 = .ok (.invokevirtual 53, 3) := by decide +kernel
theorem dX3_lets_17 : decode cX3_lets 17 = .ok (.putfield 26, 3) := by decide +kernel
theorem dX3_lets_20 : decode cX3_lets 20 = .ok (.aload_n 0, 1) := by decide +kernel
theorem dX3_lets_21 : decode cX3_lets 21 = .ok (.aload_n 1, 1) := by decide +kernel
theorem dX3_lets_22 : decode cX3_lets 22 = .ok (.iload_n 2, 1) := by decide +kernel
theorem dX3_lets_23 : decode cX3_lets 23 = .ok (.iload_n 3, 1) := by decide +kernel
theorem dX3_lets_24 : decode cX3_lets 24 = .ok (.invokevirtual 56, 3) := by decide +kernel
theorem dX3_lets_27 : decode cX3_lets 27 = .ok (.putfield 29, 3) := by decide +kernel
theorem dX3_lets_30 : decode cX3_lets 30 = .ok (.aload_n 0, 1) := by decide +kernel
theorem dX3_lets_31 : decode cX3_lets 31 = .ok (.aload_n 1, 1) := by decide +kernel
theorem dX3_lets_32 : decode cX3_lets 32 = .ok (.iload_n 2, 1) := by decide +kernel
theorem dX3_lets_33 : decode cX3_lets 33 = .ok (.iload_n 3, 1) := by decide +kernel
theorem dX3_lets_34 : decode cX3_lets 34 = .ok (.invokevirtual 58, 3) := by decide +kernel
theorem dX3_lets_37 : decode cX3_lets 37 = .ok (.putfield 32, 3) := by decide +kernel
theorem dX3_lets_40 : decode cX3_lets 40 = .ok (.aload_n 0, 1) := by decide +kernel
theorem dX3_lets_41 : decode cX3_lets 41 = .ok (.getfield 19, 3) := by decide +kernel
theorem dX3_lets_44 : decode cX3_lets 44 = .ok (.iconst (-1), 1) := by decide +kernel
theorem dX3_lets_45 : decode cX3_lets 45 = .ok (.if_icmp .ne 44, 3) := by decide +kernel
theorem dX3_lets_48 : decode cX3_lets 48 = .ok (.aload_n 0, 1) := by decide +kernel
theorem dX3_lets_49 : decode cX3_lets 49 = .ok (.getfield 22, 3) := by decide +kernel
theorem dX3_lets_52 : decode cX3_lets 52 = .ok (.ifCond .eq 35, 3) := by decide +kernel
theorem dX3_lets_55 : decode cX3_lets 55 = .ok (.aload_n 0, 1) := by decide +kernel
theorem dX3_lets_56 : decode cX3_lets 56 = .ok (.getfield 29, 3) := by decide +kernel
theorem dX3_lets_59 : decode cX3_lets 59 = .ok (.ifCond .eq 28, 3) := by decide +kernel
theorem dX3_lets_62 : decode cX3_lets 62 = .ok (.aload_n 0, 1) := by decide +kernel
theorem dX3_lets_63 : decode cX3_lets 63 = .ok (.getfield 26, 3) := by decide +kernel
theorem dX3_lets_66 : decode cX3_lets 66 = .ok (.ifCond .ne 21, 3) := by decide +kernel
theorem dX3_lets_69 : decode cX3_lets 69 = .ok (.aload_n 0, 1) := by decide +kernel
theorem dX3_lets_70 : decode cX3_lets 70 = .ok (.getfield 32, 3) := by decide +kernel
theorem dX3_lets_73 : decode cX3_lets 73 = .ok (.bipush 12, 2) := by decide +kernel
theorem dX3_lets_75 : decode cX3_lets 75 = .ok (.aload_n 1, 1) := by decide +kernel
theorem dX3_lets_76 : decode cX3_lets 76 = .ok (.getfield 61, 3) := by decide +kernel
theorem dX3_lets_79 : decode cX3_lets 79 = .ok (.isub, 1) := by decide +kernel
theorem dX3_lets_80 : decode cX3_lets 80 = .ok (.if_icmp .gt 7, 3) := by decide +kernel
theorem dX3_lets_83 : decode cX3_lets 83 = .ok (.iconst 1, 1) := by decide +kernel
theorem dX3_lets_84 : decode cX3_lets 84 = .ok (.goto 4, 3) := by decide +kernel
theorem dX3_lets_87 : decode cX3_lets 87 = .ok (.iconst 0, 1) := by decide +kernel
theorem dX3_lets_88 : decode cX3_lets 88 = .ok (.ireturn, 1) := by decide +kernel
theorem dX3_lets_89 : decode cX3_lets 89 = .ok (.iconst 0, 1) := by decide +kernel
theorem dX3_lets_90 : decode cX3_lets 90 = .ok (.istore 5, 2) := by decide +kernel
theorem dX3_lets_92 : decode cX3_lets 92 = .ok (.aload_n 0, 1) := by decide +kernel
theorem dX3_lets_93 : decode cX3_lets 93 = .ok (.iconst 0, 1) := by decide +kernel
theorem dX3_lets_94 : decode cX3_lets 94 = .ok (.putfield 35, 3) := by decide +kernel
theorem dX3_lets_97 : decode cX3_lets 97 = .ok (.aload_n 0, 1) := by decide +kernel
theorem dX3_lets_98 : decode cX3_lets 98 = .ok (.iconst 0, 1) := by decide +kernel
theorem dX3_lets_99 : decode cX3_lets 99 = .ok (.putfield 38, 3) := by decide +kernel
theorem dX3_lets_102 : decode cX3_lets 102 = .ok (.iconst 0, 1) := by decide +kernel
theorem dX3_lets_103 : decode cX3_lets 103 = .ok (.istore 6, 2) := by decide +kernel
theorem dX3_lets_105 : decode cX3_lets 105 = .ok (.iload 6, 2) := by decide +kernel
theorem dX3_lets_107 : decode cX3_lets 107 = .ok (.aload_n 0, 1) := by decide +kernel
theorem dX3_lets_108 : decode cX3_lets 108 = .ok (.getfield 15, 3) := by decide +kernel
theorem dX3_lets_111 : decode cX3_lets 111 = .ok (.if_icmp .ge 127, 3) := by decide +kernel
theorem dX3_lets_114 : decode cX3_lets 114 = .ok (.iload 6, 2) := by decide +kernel
theorem dX3_lets_116 : decode cX3_lets 116 = .ok (.aload_n 0, 1) := by decide +kernel
theorem dX3_lets_117 : decode cX3_lets 117 = .ok (.getfield 9, 3) := by decide +kernel
theorem dX3_lets_120 : decode cX3_lets 120 = .ok (.arraylength, 1) := by decide +kernel
theorem dX3_lets_121 : decode cX3_lets 121 = .ok (.if_icmp .ge 117, 3) := by decide +kernel
theorem dX3_lets_124 : decode cX3_lets 124 = .ok (.aload_n 0, 1) := by decide +kernel
theorem dX3_lets_125 : decode cX3_lets 125 = .ok (.getfield 9, 3) := by decide +kernel
theorem dX3_lets_128 : decode cX3_lets 128 = .ok (.iload 6, 2) := by decide +kernel
theorem dX3_lets_130 : decode cX3_lets 130 = .ok (.iaload, 1) := by decide +kernel
theorem dX3_lets_131 : decode cX3_lets 131 = .ok (.istore 7, 2) := by decide +kernel
theorem dX3_lets_133 : decode cX3_lets 133 = .ok (.iload 7, 2) := by decide +kernel
theorem dX3_lets_135 : decode cX3_lets 135 = .ok (.bipush 12, 2) := by decide +kernel
theorem dX3_lets_137 : decode cX3_lets 137 = .ok (.if_icmp .lt 26, 3) := by decide +kernel
theorem dX3_lets_140 : decode cX3_lets 140 = .ok (.aload_n 0, 1) := by decide +kernel
theorem dX3_lets_141 : decode cX3_lets 141 = .ok (.dup, 1) := by decide +kernel
theorem dX3_lets_142 : decode cX3_lets 142 = .ok (.getfield 38, 3) := by decide +kernel
theorem dX3_lets_145 : decode cX3_lets 145 = .ok (.aload_n 0, 1) := by decide +kernel
theorem dX3_lets_146 : decode cX3_lets 146 = .ok (.iload 7, 2) := by decide +kernel
theorem dX3_lets_148 : decode cX3_lets 148 = .ok (.aload_n 1, 1) := by decide +kernel
theorem dX3_lets_149 : decode cX3_lets 149 = .ok (.iload_n 2, 1) := by decide +kernel
theorem dX3_lets_150 : decode cX3_lets 150 = .ok (.iload_n 3, 1) := by decide +kernel
theorem dX3_lets_151 : decode cX3_lets 151 = .ok (.iload 4, 2) := by decide +kernel
theorem dX3_lets_153 : decode cX3_lets 153 = .ok (.invokevirtual 64, 3) := by decide +kernel
theorem dX3_lets_156 : decode cX3_lets 156 = .ok (.iadd, 1) := by decide +kernel
theorem dX3_lets_157 : decode cX3_lets 157 = .ok (.putfield 38, 3) := by decide +kernel
theorem dX3_lets_160 : decode cX3_lets 160 = .ok (.goto 72, 3) := by decide +kernel
theorem dX3_lets_163 : decode cX3_lets 163 = .ok (.iload 7, 2) := by decide +kernel
theorem dX3_lets_165 : decode cX3_lets 165 = .ok (.bipush 10, 2) := by decide +kernel
theorem dX3_lets_167 : decode cX3_lets 167 = .ok (.if_icmp .ge 12, 3) := by decide +kernel
theorem dX3_lets_170 : decode cX3_lets 170 = .ok (.aload_n 0, 1) := by decide +kernel
theorem dX3_lets_171 : decode cX3_lets 171 = .ok (.iload 7, 2) := by decide +kernel
theorem dX3_lets_173 : decode cX3_lets 173 = .ok (.invokevirtual 68, 3) := by decide +kernel
theorem dX3_lets_176 : decode cX3_lets 176 = .ok (.goto 56, 3) := by decide +kernel
theorem dX3_lets_179 : decode cX3_lets 179 = .ok (.aload_n 0, 1) := by decide +kernel
theorem dX3_lets_180 : decode cX3_lets 180 = .ok (.getfield 35, 3) := by decide +kernel
theorem dX3_lets_183 : decode cX3_lets 183 = .ok (.iconst 1, 1) := by decide +kernel
theorem dX3_lets_184 : decode cX3_lets 184 = .ok (.iand, 1) := by decide +kernel
theorem dX3_lets_185 : decode cX3_lets 185 = .ok (.iconst 1, 1) := by decide +kernel
theorem dX3_lets_186 : decode cX3_lets 186 = .ok (.if_icmp .ne 7, 3) := by decide +kernel
theorem dX3_lets_189 : decode cX3_lets 189 = .ok (.iconst 1, 1) := by decide +kernel
theorem dX3_lets_190 : decode cX3_lets 190 = .ok (.goto 4, 3) := by decide +kernel
theorem dX3_lets_193 : decode cX3_lets 193 = .ok (.iconst 0, 1) := by decide +kernel
theorem dX3_lets_194 : decode cX3_lets 194 = .ok (.istore 8, 2) := by decide +kernel
theorem dX3_lets_196 : decode cX3_lets 196 = .ok (.aload_n 0, 1) := by decide +kernel
theorem dX3_lets_197 : decode cX3_lets 197 = .ok (.iconst 0, 1) := by decide +kernel
theorem dX3_lets_198 : decode cX3_lets 198 = .ok (.putfield 35, 3) := by decide +kernel
theorem dX3_lets_201 : decode cX3_lets 201 = .ok (.iload 8, 2) := by decide +kernel
theorem dX3_lets_203 : decode cX3_lets 203 = .ok (.ifCond .eq 12, 3) := by decide +kernel
theorem dX3_lets_206 : decode cX3_lets 206 = .ok (.iload 7, 2) := by decide +kernel
theorem dX3_lets_208 : decode cX3_lets 208 = .ok (.bipush 11, 2) := by decide +kernel
theorem dX3_lets_210 : decode cX3_lets 210 = .ok (.if_icmp .ne 5, 3) := by decide +kernel
theorem dX3_lets_213 : decode cX3_lets 213 = .ok (.iconst 0, 1) := by decide +kernel
theorem dX3_lets_214 : decode cX3_lets 214 = .ok (.ireturn, 1) := by decide +kernel
theorem dX3_lets_215 : decode cX3_lets 215 = .ok (.iload 5, 2) := by decide +kernel
theorem dX3_lets_217 : decode cX3_lets 217 = .ok (.ifCond .ne 8, 3) := by decide +kernel
theorem dX3_lets_220 : decode cX3_lets 220 = .ok (.iload 8, 2) := by decide +kernel
theorem dX3_lets_222 : decode cX3_lets 222 = .ok (.ifCond .eq 7, 3) := by decide +kernel
theorem dX3_lets_225 : decode cX3_lets 225 = .ok (.iconst 1, 1) := by decide +kernel
theorem dX3_lets_226 : decode cX3_lets 226 = .ok (.goto 4, 3) := by decide +kernel
theorem dX3_lets_229 : decode cX3_lets 229 = .ok (.iconst 0, 1) := by decide +kernel
theorem dX3_lets_230 : decode cX3_lets 230 = .ok (.istore 5, 2) := by decide +kernel
theorem dX3_lets_232 : decode cX3_lets 232 = .ok (.iinc 6 1, 3) := by decide +kernel
theorem dX3_lets_235 : decode cX3_lets 235 = .ok (.goto (-130), 3) := by decide +kernel
theorem dX3_lets_238 : decode cX3_lets 238 = .ok (.iload 5, 2) := by decide +kernel
theorem dX3_lets_240 : decode cX3_lets 240 = .ok (.ireturn, 1) := by decide +kernel
noncomputable def fX3_lets_j215_105 (V : VT) (i : Nat) (u2 : Int32) (u3 : Int32) (u4 : Int32) (u5 : Int32) (u6 : Int32) (u8 : Int32) : Option ((VT × Int32 × Int32 × Int32 × Int32 × Int32) ⊕ (Int32 × VT)) := if u5 = 0 then (if u8 = 0 then (lt_ (u6 + (1 : Int32)) fun y21 => some (.inl (V, u2, u3, u4, (0 : Int32), y21))) else (lt_ (u6 + (1 : Int32)) fun y22 => some (.inl (V, u2, u3, u4, (1 : Int32), y22)))) else (lt_ (u6 + (1 : Int32)) fun y20 => some (.inl (V, u2, u3, u4, (1 : Int32), y20)))
noncomputable def fX3_lets_j194_105 (V : VT) (i : Nat) (u2 : Int32) (u3 : Int32) (u4 : Int32) (u5 : Int32) (u6 : Int32) (u7 : Int32) (t0 : Int32) : Option ((VT × Int32 × Int32 × Int32 × Int32 × Int32) ⊕ (Int32 × VT)) := lt_ (va_up V 17 (upd (V 17) 7 (0 : Int32))) fun V19 => if t0 = 0 then (fX3_lets_j215_105 V19 i u2 u3 u4 u5 u6 t0) else (if u7 = (11 : Int32) then (zo_ (0 : Int32) (some (.inr (((0 : Int32), V19))))) else (fX3_lets_j215_105 V19 i u2 u3 u4 u5 u6 t0))
noncomputable def fX3_lets_L105 (V : VT) (i : Nat) (u2 : Int32) (u3 : Int32) (u4 : Int32) (u5 : Int32) (u6 : Int32) : Option ((VT × Int32 × Int32 × Int32 × Int32 × Int32) ⊕ (Int32 × VT)) := if (V 17 1) ≤ u6 then (zo_ u5 (some (.inr ((u5, V))))) else (if (nI 400) ≤ u6 then (zo_ u5 (some (.inr ((u5, V))))) else (rd_ u6 400 (lt_ (V 69 u6.toNatClampNeg) fun y18 => if y18 < (12 : Int32) then (if (10 : Int32) ≤ y18 then (if ((V 17 7) &&& (1 : Int32)) = (1 : Int32) then (fX3_lets_j194_105 V i u2 u3 u4 u5 u6 y18 (1 : Int32)) else (fX3_lets_j194_105 V i u2 u3 u4 u5 u6 y18 (0 : Int32))) else (ob_R (fX3_weigh V y18) fun V30 => lt_ (u6 + (1 : Int32)) fun y31 => some (.inl (V30, u2, u3, u4, u5, y31)))) else (ob_R (fX3_valueOf V i y18 u2 u3 u4) fun y34 => lt_ (va_up V 17 (upd (V 17) 8 ((V 17 8) + y34))) fun V35 => lt_ (u6 + (1 : Int32)) fun y36 => some (.inl (V35, u2, u3, u4, u5, y36))))))
noncomputable def iX3_lets_L105 (i : Nat) : (VT × Int32 × Int32 × Int32 × Int32 × Int32) → Option ((VT × Int32 × Int32 × Int32 × Int32 × Int32) ⊕ (Int32 × VT)) := fun q => fX3_lets_L105 (q.1) i (q.2.1) (q.2.2.1) (q.2.2.2.1) (q.2.2.2.2.1) (q.2.2.2.2.2)
noncomputable def fX3_lets (V : VT) (i : Nat) (x1 : Int32) (x2 : Int32) (x3 : Int32) : Option (Int32 × VT) := ob_R (fX6_isUp V i x1 x3) fun y2 => zo_ y2 (lt_ (va_up V 17 (upd (V 17) 3 y2)) fun V3 => ob_R (fX6_isAway V3 i x1) fun y5 => zo_ y5 (lt_ (va_up V3 17 (upd (V3 17) 4 y5)) fun V6 => ob_R (fX6_inWindow V6 i x1 x2) fun y8 => zo_ y8 (lt_ (va_up V6 17 (upd (V6 17) 5 y8)) fun V9 => ob_R (fX6_apart V9 i x1 x2) fun y11 => lt_ (va_up V9 17 (upd (V9 17) 6 y11)) fun V12 => if (V12 17 2) = (-1 : Int32) then (if (V12 17 3) = 0 then (zo_ (0 : Int32) (some ((0 : Int32), V12))) else (if (V12 17 5) = 0 then (zo_ (0 : Int32) (some ((0 : Int32), V12))) else (if (V12 17 4) = 0 then (if ((12 : Int32) - (V12 i 8)) < (V12 17 6) then (zo_ (0 : Int32) (some ((0 : Int32), V12))) else (zo_ (1 : Int32) (some ((1 : Int32), V12)))) else (zo_ (0 : Int32) (some ((0 : Int32), V12)))))) else (lt_ (va_up V12 17 (upd (V12 17) 7 (0 : Int32))) fun V13 => lt_ (va_up V13 17 (upd (V13 17) 8 (0 : Int32))) fun V14 => ob_R (it_ (iX3_lets_L105 i) FV (V14, x1, x2, x3, (0 : Int32), (0 : Int32))) fun x41 => some x41))))
set_option maxHeartbeats 4000000 in
set_option maxRecDepth 100000 in
theorem wX3_lets_j215_105 {p : Program} {l : Launch} {e : Env} {s : State} {m : MethodId} {args : Array Value} {below : List Frame} {meth : Method} {c : Code} {G : GT} {B : BGt} {Q : State → Prop} (E : En p s m args c meth cX3_lets 9 RX3 (some .boolean) G B) {i : Nat} (hs_i : isSt i) {V : VT} {u2 : Int32} {u3 : Int32} {u4 : Int32} {u5 : Int32} {u6 : Int32} {u8 : Int32} {r : ((VT × Int32 × Int32 × Int32 × Int32 × Int32) ⊕ (Int32 × VT))} (h : fX3_lets_j215_105 V i u2 u3 u4 u5 u6 u8 = some r) (kc : ∀ q : (VT × Int32 × Int32 × Int32 × Int32 × Int32), r = .inl q → ∀ (H : Heap) (locs : List Loc) (ls : Array Slot), HW G s.heap (q.1) H locs → lv_has ls 9 [(0, .ref (G.2.2 17)), (1, .ref (G.2.2 i)), (2, .int (q.2.1)), (3, .int (q.2.2.1)), (4, .int (q.2.2.2.1)), (5, .int (q.2.2.2.2.1)), (6, .int (q.2.2.2.2.2))] → W p l e (rmD 4) s m args below meth c H locs 0 0 Q (F0 m 105 ls [])) (kr : ∀ q : (Int32 × VT), r = .inr (q) → Q = MQ below (QI G s.heap.size q.1 q.2) args s 0 0 (gA G s.heap.size)) {H : Heap} {locs : List Loc} {ls : Array Slot} (hw : HW G s.heap V H locs) (hl : lv_has ls 9 [(0, .ref (G.2.2 17)), (1, .ref (G.2.2 i)), (2, .int u2), (3, .int u3), (4, .int u4), (5, .int u5), (6, .int u6), (8, .int u8)]) : W p l e (rmD 4) s m args below meth c H locs 0 0 Q (F0 m 215 ls []) := by
  have hx := en_x E
  have hb := en_b E
  have hB := en_B E
  unfold fX3_lets_j215_105 at h
  refine lv_iload hx hb dX3_lets_215 (lv_at hl 5 rfl) ?_
  refine lv_if_ne (tgt := 225) hx hb dX3_lets_217 (by decide) (fun c24 => ?_) (fun c24 => ?_)
  · rw [if_neg c24] at h
    refine lv_iconst (v := (1 : Int32)) hx hb dX3_lets_225 (by decide) ?_
    refine lv_goto (tgt := 230) hx hb dX3_lets_226 (by decide) ?_
    refine lv_istore (lv' := [(5, .int (1 : Int32)), (0, .ref (G.2.2 17)), (1, .ref (G.2.2 i)), (2, .int u2), (3, .int u3), (4, .int u4), (6, .int u6), (8, .int u8)]) hx hb dX3_lets_230 hl (by decide) rfl (fun ls hl => ?_)
    obtain ⟨y20, ey20, h⟩ := lt_some h
    refine lv_iinc (v := y20) (lv' := [(6, .int y20), (5, .int (1 : Int32)), (0, .ref (G.2.2 17)), (1, .ref (G.2.2 i)), (2, .int u2), (3, .int u3), (4, .int u4), (8, .int u8)]) hx hb dX3_lets_232 hl (k := 6) rfl (by rw [ey20]; rfl) (by decide) rfl (fun ls hl => ?_)
    refine lv_goto (tgt := 105) hx hb dX3_lets_235 (by decide) ?_
    exact kc (V, u2, u3, u4, (1 : Int32), y20) (Option.some.inj h).symm H locs ls hw (lv_sub hl [2, 3, 4, 5, 6, 1, 0] rfl)
  · rw [if_pos c24] at h
    refine lv_iload hx hb dX3_lets_220 (lv_at hl 7 rfl) ?_
    refine lv_if_eq (tgt := 229) hx hb dX3_lets_222 (by decide) (fun c23 => ?_) (fun c23 => ?_)
    · rw [if_pos c23] at h
      refine lv_iconst (v := (0 : Int32)) hx hb dX3_lets_229 (by decide) ?_
      refine lv_istore (lv' := [(5, .int (0 : Int32)), (0, .ref (G.2.2 17)), (1, .ref (G.2.2 i)), (2, .int u2), (3, .int u3), (4, .int u4), (6, .int u6), (8, .int u8)]) hx hb dX3_lets_230 hl (by decide) rfl (fun ls hl => ?_)
      obtain ⟨y21, ey21, h⟩ := lt_some h
      refine lv_iinc (v := y21) (lv' := [(6, .int y21), (5, .int (0 : Int32)), (0, .ref (G.2.2 17)), (1, .ref (G.2.2 i)), (2, .int u2), (3, .int u3), (4, .int u4), (8, .int u8)]) hx hb dX3_lets_232 hl (k := 6) rfl (by rw [ey21]; rfl) (by decide) rfl (fun ls hl => ?_)
      refine lv_goto (tgt := 105) hx hb dX3_lets_235 (by decide) ?_
      exact kc (V, u2, u3, u4, (0 : Int32), y21) (Option.some.inj h).symm H locs ls hw (lv_sub hl [2, 3, 4, 5, 6, 1, 0] rfl)
    · rw [if_neg c23] at h
      refine lv_iconst (v := (1 : Int32)) hx hb dX3_lets_225 (by decide) ?_
      refine lv_goto (tgt := 230) hx hb dX3_lets_226 (by decide) ?_
      refine lv_istore (lv' := [(5, .int (1 : Int32)), (0, .ref (G.2.2 17)), (1, .ref (G.2.2 i)), (2, .int u2), (3, .int u3), (4, .int u4), (6, .int u6), (8, .int u8)]) hx hb dX3_lets_230 hl (by decide) rfl (fun ls hl => ?_)
      obtain ⟨y22, ey22, h⟩ := lt_some h
      refine lv_iinc (v := y22) (lv' := [(6, .int y22), (5, .int (1 : Int32)), (0, .ref (G.2.2 17)), (1, .ref (G.2.2 i)), (2, .int u2), (3, .int u3), (4, .int u4), (8, .int u8)]) hx hb dX3_lets_232 hl (k := 6) rfl (by rw [ey22]; rfl) (by decide) rfl (fun ls hl => ?_)
      refine lv_goto (tgt := 105) hx hb dX3_lets_235 (by decide) ?_
      exact kc (V, u2, u3, u4, (1 : Int32), y22) (Option.some.inj h).symm H locs ls hw (lv_sub hl [2, 3, 4, 5, 6, 1, 0] rfl)
set_option maxHeartbeats 4000000 in
set_option maxRecDepth 100000 in
theorem wX3_lets_j194_105 {p : Program} {l : Launch} {e : Env} {s : State} {m : MethodId} {args : Array Value} {below : List Frame} {meth : Method} {c : Code} {G : GT} {B : BGt} {Q : State → Prop} (E : En p s m args c meth cX3_lets 9 RX3 (some .boolean) G B) {i : Nat} (hs_i : isSt i) {V : VT} {u2 : Int32} {u3 : Int32} {u4 : Int32} {u5 : Int32} {u6 : Int32} {u7 : Int32} {t0 : Int32} {r : ((VT × Int32 × Int32 × Int32 × Int32 × Int32) ⊕ (Int32 × VT))} (h : fX3_lets_j194_105 V i u2 u3 u4 u5 u6 u7 t0 = some r) (kc : ∀ q : (VT × Int32 × Int32 × Int32 × Int32 × Int32), r = .inl q → ∀ (H : Heap) (locs : List Loc) (ls : Array Slot), HW G s.heap (q.1) H locs → lv_has ls 9 [(0, .ref (G.2.2 17)), (1, .ref (G.2.2 i)), (2, .int (q.2.1)), (3, .int (q.2.2.1)), (4, .int (q.2.2.2.1)), (5, .int (q.2.2.2.2.1)), (6, .int (q.2.2.2.2.2))] → W p l e (rmD 4) s m args below meth c H locs 0 0 Q (F0 m 105 ls [])) (kr : ∀ q : (Int32 × VT), r = .inr (q) → Q = MQ below (QI G s.heap.size q.1 q.2) args s 0 0 (gA G s.heap.size)) {H : Heap} {locs : List Loc} {ls : Array Slot} (hw : HW G s.heap V H locs) (hl : lv_has ls 9 [(0, .ref (G.2.2 17)), (1, .ref (G.2.2 i)), (2, .int u2), (3, .int u3), (4, .int u4), (5, .int u5), (6, .int u6), (7, .int u7)]) : W p l e (rmD 4) s m args below meth c H locs 0 0 Q (F0 m 194 ls [.int t0]) := by
  have hx := en_x E
  have hb := en_b E
  have hB := en_B E
  unfold fX3_lets_j194_105 at h
  refine lv_istore (lv' := [(8, .int t0), (0, .ref (G.2.2 17)), (1, .ref (G.2.2 i)), (2, .int u2), (3, .int u3), (4, .int u4), (5, .int u5), (6, .int u6), (7, .int u7)]) hx hb dX3_lets_194 hl (by decide) rfl (fun ls hl => ?_)
  refine lv_aload_n hx hb dX3_lets_196 rfl (lv_at hl 1 rfl) ?_
  refine lv_iconst (v := (0 : Int32)) hx hb dX3_lets_197 (by decide) ?_
  obtain ⟨V19, eV19, h⟩ := lt_some h
  refine r_pi E hw 17 7 (N := 10) (C := RX3) (T := TX3) (ty0 := tyX3) (ty := .int) (by decide) rfl rfl (by decide) rfl iw_3 rfl tyX3_ok nmX3 rfl rfl (vp_nar_int _) rfl lf_RX3_35 eV19 dX3_lets_198 (fun H locs hw => ?_)
  refine lv_iload hx hb dX3_lets_201 (lv_at hl 0 rfl) ?_
  refine lv_if_eq (tgt := 215) hx hb dX3_lets_203 (by decide) (fun c27 => ?_) (fun c27 => ?_)
  · rw [if_pos c27] at h
    exact wX3_lets_j215_105 E hs_i h kc kr hw (lv_sub hl [1, 2, 3, 4, 5, 6, 7, 0] rfl)
  · rw [if_neg c27] at h
    refine lv_iload hx hb dX3_lets_206 (lv_at hl 8 rfl) ?_
    refine lv_bipush (v := (11 : Int32)) hx hb dX3_lets_208 (by decide) ?_
    refine lv_icmp_ne (tgt := 215) hx hb dX3_lets_210 (by decide) (fun c26 => ?_) (fun c26 => ?_)
    · rw [if_neg c26] at h
      exact wX3_lets_j215_105 E hs_i h kc kr hw (lv_sub hl [1, 2, 3, 4, 5, 6, 7, 0] rfl)
    · rw [if_pos c26] at h
      refine lv_iconst (v := (0 : Int32)) hx hb dX3_lets_213 (by decide) ?_
      obtain ⟨z25, h⟩ := zo_some h
      rw [kr ((0 : Int32), V19) (Option.some.inj h).symm]
      exact r_rz E hw z25 dX3_lets_214
set_option maxHeartbeats 4000000 in
set_option maxRecDepth 100000 in
theorem wX3_lets_L105 {p : Program} {l : Launch} {e : Env} {s : State} {m : MethodId} {args : Array Value} {below : List Frame} {meth : Method} {c : Code} {G : GT} {B : BGt} {Q : State → Prop} (E : En p s m args c meth cX3_lets 9 RX3 (some .boolean) G B) {i : Nat} (hs_i : isSt i) {x : (Int32 × VT)} (kr : ∀ q : (Int32 × VT), x = q → Q = MQ below (QI G s.heap.size q.1 q.2) args s 0 0 (gA G s.heap.size)) : ∀ (n : Nat) (q : (VT × Int32 × Int32 × Int32 × Int32 × Int32)), it_ (iX3_lets_L105 i) n q = some x → ∀ (H : Heap) (locs : List Loc) (ls : Array Slot), HW G s.heap (q.1) H locs → lv_has ls 9 [(0, .ref (G.2.2 17)), (1, .ref (G.2.2 i)), (2, .int (q.2.1)), (3, .int (q.2.2.1)), (4, .int (q.2.2.2.1)), (5, .int (q.2.2.2.2.1)), (6, .int (q.2.2.2.2.2))] → W p l e (rmD 4) s m args below meth c H locs 0 0 Q (F0 m 105 ls []) := by
  have hx := en_x E
  have hb := en_b E
  have hB := en_B E
  refine it_W (fun q : (VT × Int32 × Int32 × Int32 × Int32 × Int32) => ∀ (H : Heap) (locs : List Loc) (ls : Array Slot), HW G s.heap (q.1) H locs → lv_has ls 9 [(0, .ref (G.2.2 17)), (1, .ref (G.2.2 i)), (2, .int (q.2.1)), (3, .int (q.2.2.1)), (4, .int (q.2.2.2.1)), (5, .int (q.2.2.2.2.1)), (6, .int (q.2.2.2.2.2))] → W p l e (rmD 4) s m args below meth c H locs 0 0 Q (F0 m 105 ls [])) x ?_
  intro q r h kc kx
  obtain ⟨V, u2, u3, u4, u5, u6⟩ := q
  intro H locs ls hw hl
  have h : fX3_lets_L105 V i u2 u3 u4 u5 u6 = some r := h
  have hw : HW G s.heap V H locs := hw
  have hl : lv_has ls 9 [(0, .ref (G.2.2 17)), (1, .ref (G.2.2 i)), (2, .int u2), (3, .int u3), (4, .int u4), (5, .int u5), (6, .int u6)] := hl
  have kr : ∀ q : (Int32 × VT), r = .inr (q) → Q = MQ below (QI G s.heap.size q.1 q.2) args s 0 0 (gA G s.heap.size) := fun q e => kr q (kx _ e).symm
  unfold fX3_lets_L105 at h
  refine lv_iload hx hb dX3_lets_105 (lv_at hl 6 rfl) ?_
  refine lv_aload_n hx hb dX3_lets_107 rfl (lv_at hl 0 rfl) ?_
  refine r_gi E hw 17 1 (N := 10) (C := RX3) (T := TX3) (by decide) rfl rfl (by decide) rfl iw_3 rfl lf_RX3_15 dX3_lets_108 ?_
  refine lv_icmp_ge (tgt := 238) hx hb dX3_lets_111 (by decide) (fun c39 => ?_) (fun c39 => ?_)
  · rw [if_pos c39] at h
    refine lv_iload hx hb dX3_lets_238 (lv_at hl 5 rfl) ?_
    obtain ⟨z15, h⟩ := zo_some h
    rw [kr (u5, V) (Option.some.inj h).symm]
    exact r_rz E hw z15 dX3_lets_240
  · rw [if_neg c39] at h
    refine lv_iload hx hb dX3_lets_114 (lv_at hl 6 rfl) ?_
    refine lv_aload_n hx hb dX3_lets_116 rfl (lv_at hl 0 rfl) ?_
    refine r_gr E hw 17 0 69 (N := 10) (C := RX3) (T := TX3) (by decide) rfl rfl (by decide) rfl iw_3 rfl lf_RX3_9 dX3_lets_117 ?_
    refine r_al E hw 69 400 (by decide) (by decide) (by decide) rfl dX3_lets_120 ?_
    refine lv_icmp_ge (tgt := 238) hx hb dX3_lets_121 (by decide) (fun c38 => ?_) (fun c38 => ?_)
    · rw [if_pos c38] at h
      refine lv_iload hx hb dX3_lets_238 (lv_at hl 5 rfl) ?_
      obtain ⟨z16, h⟩ := zo_some h
      rw [kr (u5, V) (Option.some.inj h).symm]
      exact r_rz E hw z16 dX3_lets_240
    · rw [if_neg c38] at h
      refine lv_aload_n hx hb dX3_lets_124 rfl (lv_at hl 0 rfl) ?_
      refine r_gr E hw 17 0 69 (N := 10) (C := RX3) (T := TX3) (by decide) rfl rfl (by decide) rfl iw_3 rfl lf_RX3_9 dX3_lets_125 ?_
      refine lv_iload hx hb dX3_lets_128 (lv_at hl 6 rfl) ?_
      obtain ⟨b17, h⟩ := rd_some h
      refine r_ia E hw 69 400 (by decide) (by decide) (by decide) rfl rfl b17 dX3_lets_130 ?_
      obtain ⟨y18, ey18, h⟩ := lt_some h
      refine lv_eqi ey18 ?_
      refine lv_istore (lv' := [(7, .int y18), (0, .ref (G.2.2 17)), (1, .ref (G.2.2 i)), (2, .int u2), (3, .int u3), (4, .int u4), (5, .int u5), (6, .int u6)]) hx hb dX3_lets_131 hl (by decide) rfl (fun ls hl => ?_)
      refine lv_iload hx hb dX3_lets_133 (lv_at hl 0 rfl) ?_
      refine lv_bipush (v := (12 : Int32)) hx hb dX3_lets_135 (by decide) ?_
      refine lv_icmp_lt (tgt := 163) hx hb dX3_lets_137 (by decide) (fun c37 => ?_) (fun c37 => ?_)
      · rw [if_pos c37] at h
        refine lv_iload hx hb dX3_lets_163 (lv_at hl 0 rfl) ?_
        refine lv_bipush (v := (10 : Int32)) hx hb dX3_lets_165 (by decide) ?_
        refine lv_icmp_ge (tgt := 179) hx hb dX3_lets_167 (by decide) (fun c32 => ?_) (fun c32 => ?_)
        · rw [if_pos c32] at h
          refine lv_aload_n hx hb dX3_lets_179 rfl (lv_at hl 1 rfl) ?_
          refine r_gi E hw 17 7 (N := 10) (C := RX3) (T := TX3) (by decide) rfl rfl (by decide) rfl iw_3 rfl lf_RX3_35 dX3_lets_180 ?_
          refine lv_iconst (v := (1 : Int32)) hx hb dX3_lets_183 (by decide) ?_
          refine lv_iand hx hb dX3_lets_184 ?_
          refine lv_iconst (v := (1 : Int32)) hx hb dX3_lets_185 (by decide) ?_
          refine lv_icmp_ne (tgt := 193) hx hb dX3_lets_186 (by decide) (fun c28 => ?_) (fun c28 => ?_)
          · rw [if_neg c28] at h
            refine lv_iconst (v := (0 : Int32)) hx hb dX3_lets_193 (by decide) ?_
            exact wX3_lets_j194_105 E hs_i h kc kr hw (lv_sub hl [1, 2, 3, 4, 5, 6, 7, 0] rfl)
          · rw [if_pos c28] at h
            refine lv_iconst (v := (1 : Int32)) hx hb dX3_lets_189 (by decide) ?_
            refine lv_goto (tgt := 194) hx hb dX3_lets_190 (by decide) ?_
            exact wX3_lets_j194_105 E hs_i h kc kr hw (lv_sub hl [1, 2, 3, 4, 5, 6, 7, 0] rfl)
        · rw [if_neg c32] at h
          refine lv_aload_n hx hb dX3_lets_170 rfl (lv_at hl 1 rfl) ?_
          refine lv_iload hx hb dX3_lets_171 (lv_at hl 0 rfl) ?_
          obtain ⟨V30, h29, h⟩ := ob_R_some h
          refine c_VV E hw (kX3_weigh (l := l) (G := G) hB  h29) yy_X3_weigh lm_RX3_68 rfl (by decide) rfl rfl hl.1 (by decide) (by decide) rfl (Nat.le_of_ble_eq_true rfl) dX3_lets_173 (fun H locs hw => ?_)
          refine lv_goto (tgt := 232) hx hb dX3_lets_176 (by decide) ?_
          obtain ⟨y31, ey31, h⟩ := lt_some h
          refine lv_iinc (v := y31) (lv' := [(6, .int y31), (7, .int y18), (0, .ref (G.2.2 17)), (1, .ref (G.2.2 i)), (2, .int u2), (3, .int u3), (4, .int u4), (5, .int u5)]) hx hb dX3_lets_232 hl (k := 7) rfl (by rw [ey31]; rfl) (by decide) rfl (fun ls hl => ?_)
          refine lv_goto (tgt := 105) hx hb dX3_lets_235 (by decide) ?_
          exact kc (V30, u2, u3, u4, u5, y31) (Option.some.inj h).symm H locs ls hw (lv_sub hl [2, 3, 4, 5, 6, 7, 0] rfl)
      · rw [if_neg c37] at h
        refine lv_aload_n hx hb dX3_lets_140 rfl (lv_at hl 1 rfl) ?_
        refine lv_dup hx hb dX3_lets_141 rfl ?_
        refine r_gi E hw 17 8 (N := 10) (C := RX3) (T := TX3) (by decide) rfl rfl (by decide) rfl iw_3 rfl lf_RX3_38 dX3_lets_142 ?_
        refine lv_aload_n hx hb dX3_lets_145 rfl (lv_at hl 1 rfl) ?_
        refine lv_iload hx hb dX3_lets_146 (lv_at hl 0 rfl) ?_
        refine lv_aload_n hx hb dX3_lets_148 rfl (lv_at hl 2 rfl) ?_
        refine lv_iload_n hx hb dX3_lets_149 rfl (lv_at hl 3 rfl) ?_
        refine lv_iload_n hx hb dX3_lets_150 rfl (lv_at hl 4 rfl) ?_
        refine lv_iload hx hb dX3_lets_151 (lv_at hl 5 rfl) ?_
        obtain ⟨y34, h33, h⟩ := ob_R_some h
        refine c_VI E hw (kX3_valueOf (l := l) (G := G) hB hs_i h33) yy_X3_valueOf lm_RX3_64 rfl (by decide) rfl rfl hl.1 (by decide) (by decide) rfl (Nat.le_of_ble_eq_true rfl) dX3_lets_153 (fun H locs hw => ?_)
        refine lv_iadd hx hb dX3_lets_156 ?_
        obtain ⟨V35, eV35, h⟩ := lt_some h
        refine r_pi E hw 17 8 (N := 10) (C := RX3) (T := TX3) (ty0 := tyX3) (ty := .int) (by decide) rfl rfl (by decide) rfl iw_3 rfl tyX3_ok nmX3 rfl rfl (vp_nar_int _) rfl lf_RX3_38 eV35 dX3_lets_157 (fun H locs hw => ?_)
        refine lv_goto (tgt := 232) hx hb dX3_lets_160 (by decide) ?_
        obtain ⟨y36, ey36, h⟩ := lt_some h
        refine lv_iinc (v := y36) (lv' := [(6, .int y36), (7, .int y18), (0, .ref (G.2.2 17)), (1, .ref (G.2.2 i)), (2, .int u2), (3, .int u3), (4, .int u4), (5, .int u5)]) hx hb dX3_lets_232 hl (k := 7) rfl (by rw [ey36]; rfl) (by decide) rfl (fun ls hl => ?_)
        refine lv_goto (tgt := 105) hx hb dX3_lets_235 (by decide) ?_
        exact kc (V35, u2, u3, u4, u5, y36) (Option.some.inj h).symm H locs ls hw (lv_sub hl [2, 3, 4, 5, 6, 7, 0] rfl)
set_option maxHeartbeats 4000000 in
set_option maxRecDepth 100000 in
theorem kX3_lets {l : Launch} {G : GT} {B : BGt} (hB : BGok B) {V : VT} {i : Nat} (hs_i : isSt i) {x1 : Int32} {x2 : Int32} {x3 : Int32} {r : (Int32 × VT)} (h : fX3_lets V i x1 x2 x3 = some r) : CI l G B yX3_lets (.code yX3_lets cX3_lets 9 (some .boolean)) 4 [.ref (G.2.2 17), .ref (G.2.2 i), .int x1, .int x2, .int x3] V r.1 r.2 := by
  intro sz
  refine met_of (Qs := fun sz => QI G sz (r.1) (r.2)) hB (by decide) (Nat.le_of_ble_eq_true rfl) ?_ sz
  intro p e s m args below meth c ls E hw hl
  have hx := en_x E
  have hb := en_b E
  generalize hQ : MQ _ _ _ _ _ _ _ = Q
  have kr : Q = MQ below (QI G s.heap.size r.1 r.2) args s 0 0 (gA G s.heap.size) := hQ.symm
  have hl : lv_has ls 9 [(0, .ref (G.2.2 17)), (1, .ref (G.2.2 i)), (2, .int x1), (3, .int x2), (4, .int x3)] := hl
  obtain ⟨H, eH⟩ : ∃ H, H = s.heap := ⟨_, rfl⟩
  obtain ⟨locs, elocs⟩ : ∃ z : List Loc, z = [] := ⟨_, rfl⟩
  have hw : HW G s.heap V H locs := by rw [eH, elocs]; exact hw
  show W p l e _ s m args below meth c s.heap [] 0 0 Q (F0 m 0 ls [])
  rw [← eH, ← elocs]
  unfold fX3_lets at h
  refine lv_aload_n hx hb dX3_lets_0 rfl (lv_at hl 0 rfl) ?_
  refine lv_aload_n hx hb dX3_lets_1 rfl (lv_at hl 1 rfl) ?_
  refine lv_iload_n hx hb dX3_lets_2 rfl (lv_at hl 2 rfl) ?_
  refine lv_iload hx hb dX3_lets_3 (lv_at hl 4 rfl) ?_
  obtain ⟨y2, h1, h⟩ := ob_R_some h
  refine c_VI E hw (kX6_isUp (l := l) (G := G) hB hs_i h1) yy_X6_isUp lm_RX3_48 rfl (st_lt hs_i) (st_c hs_i) rfl hl.1 (by decide) (by decide) rfl (Nat.le_of_ble_eq_true rfl) dX3_lets_5 (fun H locs hw => ?_)
  obtain ⟨z54, h⟩ := zo_some h
  obtain ⟨V3, eV3, h⟩ := lt_some h
  refine r_pi E hw 17 3 (N := 10) (C := RX3) (T := TX3) (ty0 := tyX3) (ty := .boolean) (by decide) rfl rfl (by decide) rfl iw_3 rfl tyX3_ok nmX3 rfl rfl (nar_z z54) (fit_z z54) lf_RX3_22 eV3 dX3_lets_8 (fun H locs hw => ?_)
  refine lv_aload_n hx hb dX3_lets_11 rfl (lv_at hl 0 rfl) ?_
  refine lv_aload_n hx hb dX3_lets_12 rfl (lv_at hl 1 rfl) ?_
  refine lv_iload_n hx hb dX3_lets_13 rfl (lv_at hl 2 rfl) ?_
  obtain ⟨y5, h4, h⟩ := ob_R_some h
  refine c_VI E hw (kX6_isAway (l := l) (G := G) hB hs_i h4) yy_X6_isAway lm_RX3_53 rfl (st_lt hs_i) (st_c hs_i) rfl hl.1 (by decide) (by decide) rfl (Nat.le_of_ble_eq_true rfl) dX3_lets_14 (fun H locs hw => ?_)
  obtain ⟨z53, h⟩ := zo_some h
  obtain ⟨V6, eV6, h⟩ := lt_some h
  refine r_pi E hw 17 4 (N := 10) (C := RX3) (T := TX3) (ty0 := tyX3) (ty := .boolean) (by decide) rfl rfl (by decide) rfl iw_3 rfl tyX3_ok nmX3 rfl rfl (nar_z z53) (fit_z z53) lf_RX3_26 eV6 dX3_lets_17 (fun H locs hw => ?_)
  refine lv_aload_n hx hb dX3_lets_20 rfl (lv_at hl 0 rfl) ?_
  refine lv_aload_n hx hb dX3_lets_21 rfl (lv_at hl 1 rfl) ?_
  refine lv_iload_n hx hb dX3_lets_22 rfl (lv_at hl 2 rfl) ?_
  refine lv_iload_n hx hb dX3_lets_23 rfl (lv_at hl 3 rfl) ?_
  obtain ⟨y8, h7, h⟩ := ob_R_some h
  refine c_VI E hw (kX6_inWindow (l := l) (G := G) hB hs_i h7) yy_X6_inWindow lm_RX3_56 rfl (st_lt hs_i) (st_c hs_i) rfl hl.1 (by decide) (by decide) rfl (Nat.le_of_ble_eq_true rfl) dX3_lets_24 (fun H locs hw => ?_)
  obtain ⟨z52, h⟩ := zo_some h
  obtain ⟨V9, eV9, h⟩ := lt_some h
  refine r_pi E hw 17 5 (N := 10) (C := RX3) (T := TX3) (ty0 := tyX3) (ty := .boolean) (by decide) rfl rfl (by decide) rfl iw_3 rfl tyX3_ok nmX3 rfl rfl (nar_z z52) (fit_z z52) lf_RX3_29 eV9 dX3_lets_27 (fun H locs hw => ?_)
  refine lv_aload_n hx hb dX3_lets_30 rfl (lv_at hl 0 rfl) ?_
  refine lv_aload_n hx hb dX3_lets_31 rfl (lv_at hl 1 rfl) ?_
  refine lv_iload_n hx hb dX3_lets_32 rfl (lv_at hl 2 rfl) ?_
  refine lv_iload_n hx hb dX3_lets_33 rfl (lv_at hl 3 rfl) ?_
  obtain ⟨y11, h10, h⟩ := ob_R_some h
  refine c_VI E hw (kX6_apart (l := l) (G := G) hB hs_i h10) yy_X6_apart lm_RX3_58 rfl (st_lt hs_i) (st_c hs_i) rfl hl.1 (by decide) (by decide) rfl (Nat.le_of_ble_eq_true rfl) dX3_lets_34 (fun H locs hw => ?_)
  obtain ⟨V12, eV12, h⟩ := lt_some h
  refine r_pi E hw 17 6 (N := 10) (C := RX3) (T := TX3) (ty0 := tyX3) (ty := .int) (by decide) rfl rfl (by decide) rfl iw_3 rfl tyX3_ok nmX3 rfl rfl (vp_nar_int _) rfl lf_RX3_32 eV12 dX3_lets_37 (fun H locs hw => ?_)
  refine lv_aload_n hx hb dX3_lets_40 rfl (lv_at hl 0 rfl) ?_
  refine r_gi E hw 17 2 (N := 10) (C := RX3) (T := TX3) (by decide) rfl rfl (by decide) rfl iw_3 rfl lf_RX3_19 dX3_lets_41 ?_
  refine lv_iconst (v := (-1 : Int32)) hx hb dX3_lets_44 (by decide) ?_
  refine lv_icmp_ne (tgt := 89) hx hb dX3_lets_45 (by decide) (fun c51 => ?_) (fun c51 => ?_)
  · rw [if_neg c51] at h
    refine lv_iconst (v := (0 : Int32)) hx hb dX3_lets_89 (by decide) ?_
    refine lv_istore (lv' := [(5, .int (0 : Int32)), (0, .ref (G.2.2 17)), (1, .ref (G.2.2 i)), (2, .int x1), (3, .int x2), (4, .int x3)]) hx hb dX3_lets_90 hl (by decide) rfl (fun ls hl => ?_)
    refine lv_aload_n hx hb dX3_lets_92 rfl (lv_at hl 1 rfl) ?_
    refine lv_iconst (v := (0 : Int32)) hx hb dX3_lets_93 (by decide) ?_
    obtain ⟨V13, eV13, h⟩ := lt_some h
    refine r_pi E hw 17 7 (N := 10) (C := RX3) (T := TX3) (ty0 := tyX3) (ty := .int) (by decide) rfl rfl (by decide) rfl iw_3 rfl tyX3_ok nmX3 rfl rfl (vp_nar_int _) rfl lf_RX3_35 eV13 dX3_lets_94 (fun H locs hw => ?_)
    refine lv_aload_n hx hb dX3_lets_97 rfl (lv_at hl 1 rfl) ?_
    refine lv_iconst (v := (0 : Int32)) hx hb dX3_lets_98 (by decide) ?_
    obtain ⟨V14, eV14, h⟩ := lt_some h
    refine r_pi E hw 17 8 (N := 10) (C := RX3) (T := TX3) (ty0 := tyX3) (ty := .int) (by decide) rfl rfl (by decide) rfl iw_3 rfl tyX3_ok nmX3 rfl rfl (vp_nar_int _) rfl lf_RX3_38 eV14 dX3_lets_99 (fun H locs hw => ?_)
    refine lv_iconst (v := (0 : Int32)) hx hb dX3_lets_102 (by decide) ?_
    refine lv_istore (lv' := [(6, .int (0 : Int32)), (5, .int (0 : Int32)), (0, .ref (G.2.2 17)), (1, .ref (G.2.2 i)), (2, .int x1), (3, .int x2), (4, .int x3)]) hx hb dX3_lets_103 hl (by decide) rfl (fun ls hl => ?_)
    obtain ⟨x41, h40, h⟩ := ob_R_some h
    have h := Option.some.inj h
    subst h
    exact wX3_lets_L105 E hs_i (fun q e => by subst e; exact kr) FV (V14, x1, x2, x3, (0 : Int32), (0 : Int32)) h40 H locs ls hw (lv_sub hl [2, 3, 4, 5, 6, 1, 0] rfl)
  · rw [if_pos c51] at h
    refine lv_aload_n hx hb dX3_lets_48 rfl (lv_at hl 0 rfl) ?_
    refine r_gi E hw 17 3 (N := 10) (C := RX3) (T := TX3) (by decide) rfl rfl (by decide) rfl iw_3 rfl lf_RX3_22 dX3_lets_49 ?_
    refine lv_if_eq (tgt := 87) hx hb dX3_lets_52 (by decide) (fun c50 => ?_) (fun c50 => ?_)
    · rw [if_pos c50] at h
      refine lv_iconst (v := (0 : Int32)) hx hb dX3_lets_87 (by decide) ?_
      obtain ⟨z42, h⟩ := zo_some h
      have h := Option.some.inj h
      subst h
      rw [kr]
      exact r_rz E hw z42 dX3_lets_88
    · rw [if_neg c50] at h
      refine lv_aload_n hx hb dX3_lets_55 rfl (lv_at hl 0 rfl) ?_
      refine r_gi E hw 17 5 (N := 10) (C := RX3) (T := TX3) (by decide) rfl rfl (by decide) rfl iw_3 rfl lf_RX3_29 dX3_lets_56 ?_
      refine lv_if_eq (tgt := 87) hx hb dX3_lets_59 (by decide) (fun c49 => ?_) (fun c49 => ?_)
      · rw [if_pos c49] at h
        refine lv_iconst (v := (0 : Int32)) hx hb dX3_lets_87 (by decide) ?_
        obtain ⟨z43, h⟩ := zo_some h
        have h := Option.some.inj h
        subst h
        rw [kr]
        exact r_rz E hw z43 dX3_lets_88
      · rw [if_neg c49] at h
        refine lv_aload_n hx hb dX3_lets_62 rfl (lv_at hl 0 rfl) ?_
        refine r_gi E hw 17 4 (N := 10) (C := RX3) (T := TX3) (by decide) rfl rfl (by decide) rfl iw_3 rfl lf_RX3_26 dX3_lets_63 ?_
        refine lv_if_ne (tgt := 87) hx hb dX3_lets_66 (by decide) (fun c48 => ?_) (fun c48 => ?_)
        · rw [if_neg c48] at h
          refine lv_iconst (v := (0 : Int32)) hx hb dX3_lets_87 (by decide) ?_
          obtain ⟨z44, h⟩ := zo_some h
          have h := Option.some.inj h
          subst h
          rw [kr]
          exact r_rz E hw z44 dX3_lets_88
        · rw [if_pos c48] at h
          refine lv_aload_n hx hb dX3_lets_69 rfl (lv_at hl 0 rfl) ?_
          refine r_gi E hw 17 6 (N := 10) (C := RX3) (T := TX3) (by decide) rfl rfl (by decide) rfl iw_3 rfl lf_RX3_32 dX3_lets_70 ?_
          refine lv_bipush (v := (12 : Int32)) hx hb dX3_lets_73 (by decide) ?_
          refine lv_aload_n hx hb dX3_lets_75 rfl (lv_at hl 1 rfl) ?_
          refine r_giN E hw i 8 (N := 13) (C := RX6) (T := TX6) (st_lt hs_i) (st_c hs_i) (st_N hs_i) (by decide) (st_n hs_i (k := 8) (by decide)) iw_6 rfl lf_RX3_61 dX3_lets_76 ?_
          refine lv_isub hx hb dX3_lets_79 ?_
          refine lv_icmp_gt (tgt := 87) hx hb dX3_lets_80 (by decide) (fun c47 => ?_) (fun c47 => ?_)
          · rw [if_pos c47] at h
            refine lv_iconst (v := (0 : Int32)) hx hb dX3_lets_87 (by decide) ?_
            obtain ⟨z45, h⟩ := zo_some h
            have h := Option.some.inj h
            subst h
            rw [kr]
            exact r_rz E hw z45 dX3_lets_88
          · rw [if_neg c47] at h
            refine lv_iconst (v := (1 : Int32)) hx hb dX3_lets_83 (by decide) ?_
            refine lv_goto (tgt := 88) hx hb dX3_lets_84 (by decide) ?_
            obtain ⟨z46, h⟩ := zo_some h
            have h := Option.some.inj h
            subst h
            rw [kr]
            exact r_rz E hw z46 dX3_lets_88
/-! ===== AllSawIt$Sight.witnessBits(LAllSawIt$State;LAllSawIt$Law;II)I ===== -/
theorem dX5_witnessBits_0 : decode cX5_witnessBits 0 = .ok (.iconst 0, 1) := by decide +kernel
theorem dX5_witnessBits_1 : decode cX5_witnessBits 1 = .ok (.istore 4, 2) := by decide +kernel
theorem dX5_witnessBits_3 : decode cX5_witnessBits 3 = .ok (.iconst 0, 1) := by decide +kernel
theorem dX5_witnessBits_4 : decode cX5_witnessBits 4 = .ok (.istore 5, 2) := by decide +kernel
theorem dX5_witnessBits_6 : decode cX5_witnessBits 6 = .ok (.iload 5, 2) := by decide +kernel
theorem dX5_witnessBits_8 : decode cX5_witnessBits 8 = .ok (.aload_n 0, 1) := by decide +kernel
theorem dX5_witnessBits_9 : decode cX5_witnessBits 9 = .ok (.getfield 21, 3) := by decide +kernel
theorem dX5_witnessBits_12 : decode cX5_witnessBits 12 = .ok (.if_icmp .ge 30, 3) := by decide +kernel
theorem dX5_witnessBits_15 : decode cX5_witnessBits 15 = .ok (.aload_n 1, 1) := by decide +kernel
theorem dX5_witnessBits_16 : decode cX5_witnessBits 16 = .ok (.aload_n 0, 1) := by decide +kernel
theorem dX5_witnessBits_17 : decode cX5_witnessBits 17 = .ok (.iload 5, 2) := by decide +kernel
theorem dX5_witnessBits_19 : decode cX5_witnessBits 19 = .ok (.iload_n 2, 1) := by decide +kernel
theorem dX5_witnessBits_20 : decode cX5_witnessBits 20 = .ok (.iload_n 3, 1) := by decide +kernel
theorem dX5_witnessBits_21 : decode cX5_witnessBits 21 = .ok (.invokevirtual 27, 3) := by decide +kernel
theorem dX5_witnessBits_24 : decode cX5_witnessBits 24 = .ok (.ifCond .eq 12, 3) := by decide +kernel
theorem dX5_witnessBits_27 : decode cX5_witnessBits 27 = .ok (.iload 4, 2) := by decide +kernel
theorem dX5_witnessBits_29 : decode cX5_witnessBits 29 = .ok (.iconst 1, 1) := by decide +kernel
theorem dX5_witnessBits_30 : decode cX5_witnessBits 30 = .ok (.iload 5, 2) := by decide +kernel
theorem dX5_witnessBits_32 : decode cX5_witnessBits 32 = .ok (.ishl, 1) := by decide +kernel
theorem dX5_witnessBits_33 : decode cX5_witnessBits 33 = .ok (.ior, 1) := by decide +kernel
theorem dX5_witnessBits_34 : decode cX5_witnessBits 34 = .ok (.istore 4, 2) := by decide +kernel
theorem dX5_witnessBits_36 : decode cX5_witnessBits 36 = .ok (.iinc 5 1, 3) := by decide +kernel
theorem dX5_witnessBits_39 : decode cX5_witnessBits 39 = .ok (.goto (-33), 3) := by decide +kernel
theorem dX5_witnessBits_42 : decode cX5_witnessBits 42 = .ok (.iload 4, 2) := by decide +kernel
theorem dX5_witnessBits_44 : decode cX5_witnessBits 44 = .ok (.ireturn, 1) := by decide +kernel
noncomputable def fX5_witnessBits_L6 (V : VT) (i : Nat) (u2 : Int32) (u3 : Int32) (u4 : Int32) (u5 : Int32) : Option ((VT × Int32 × Int32 × Int32 × Int32) ⊕ (Int32 × VT)) := if (V i 3) ≤ u5 then (some (.inr ((u4, V)))) else (ob_I (fX3_lets V i u5 u2 u3) fun y2 V3 => if y2 = 0 then (lt_ (u5 + (1 : Int32)) fun y4 => some (.inl (V3, u2, u3, u4, y4))) else (lt_ (u4 ||| ((1 : Int32) <<< (u5 &&& 31))) fun y5 => lt_ (u5 + (1 : Int32)) fun y6 => some (.inl (V3, u2, u3, y5, y6))))
noncomputable def iX5_witnessBits_L6 (i : Nat) : (VT × Int32 × Int32 × Int32 × Int32) → Option ((VT × Int32 × Int32 × Int32 × Int32) ⊕ (Int32 × VT)) := fun q => fX5_witnessBits_L6 (q.1) i (q.2.1) (q.2.2.1) (q.2.2.2.1) (q.2.2.2.2)
noncomputable def fX5_witnessBits (V : VT) (i : Nat) (x1 : Int32) (x2 : Int32) : Option (Int32 × VT) := ob_R (it_ (iX5_witnessBits_L6 i) FV (V, x1, x2, (0 : Int32), (0 : Int32))) fun x10 => some x10
set_option maxHeartbeats 4000000 in
set_option maxRecDepth 100000 in
theorem wX5_witnessBits_L6 {p : Program} {l : Launch} {e : Env} {s : State} {m : MethodId} {args : Array Value} {below : List Frame} {meth : Method} {c : Code} {G : GT} {B : BGt} {Q : State → Prop} (E : En p s m args c meth cX5_witnessBits 6 RX5 (some .int) G B) {i : Nat} (hs_i : isSt i) {x : (Int32 × VT)} (kr : ∀ q : (Int32 × VT), x = q → Q = MQ below (QI G s.heap.size q.1 q.2) args s 0 0 (gA G s.heap.size)) : ∀ (n : Nat) (q : (VT × Int32 × Int32 × Int32 × Int32)), it_ (iX5_witnessBits_L6 i) n q = some x → ∀ (H : Heap) (locs : List Loc) (ls : Array Slot), HW G s.heap (q.1) H locs → lv_has ls 6 [(0, .ref (G.2.2 i)), (1, .ref (G.2.2 17)), (2, .int (q.2.1)), (3, .int (q.2.2.1)), (4, .int (q.2.2.2.1)), (5, .int (q.2.2.2.2))] → W p l e (rmD 5) s m args below meth c H locs 0 0 Q (F0 m 6 ls []) := by
  have hx := en_x E
  have hb := en_b E
  have hB := en_B E
  refine it_W (fun q : (VT × Int32 × Int32 × Int32 × Int32) => ∀ (H : Heap) (locs : List Loc) (ls : Array Slot), HW G s.heap (q.1) H locs → lv_has ls 6 [(0, .ref (G.2.2 i)), (1, .ref (G.2.2 17)), (2, .int (q.2.1)), (3, .int (q.2.2.1)), (4, .int (q.2.2.2.1)), (5, .int (q.2.2.2.2))] → W p l e (rmD 5) s m args below meth c H locs 0 0 Q (F0 m 6 ls [])) x ?_
  intro q r h kc kx
  obtain ⟨V, u2, u3, u4, u5⟩ := q
  intro H locs ls hw hl
  have h : fX5_witnessBits_L6 V i u2 u3 u4 u5 = some r := h
  have hw : HW G s.heap V H locs := hw
  have hl : lv_has ls 6 [(0, .ref (G.2.2 i)), (1, .ref (G.2.2 17)), (2, .int u2), (3, .int u3), (4, .int u4), (5, .int u5)] := hl
  have kr : ∀ q : (Int32 × VT), r = .inr (q) → Q = MQ below (QI G s.heap.size q.1 q.2) args s 0 0 (gA G s.heap.size) := fun q e => kr q (kx _ e).symm
  unfold fX5_witnessBits_L6 at h
  refine lv_iload hx hb dX5_witnessBits_6 (lv_at hl 5 rfl) ?_
  refine lv_aload_n hx hb dX5_witnessBits_8 rfl (lv_at hl 0 rfl) ?_
  refine r_giN E hw i 3 (N := 13) (C := RX6) (T := TX6) (st_lt hs_i) (st_c hs_i) (st_N hs_i) (by decide) (st_n hs_i (k := 3) (by decide)) iw_6 rfl lf_RX5_21 dX5_witnessBits_9 ?_
  refine lv_icmp_ge (tgt := 42) hx hb dX5_witnessBits_12 (by decide) (fun c8 => ?_) (fun c8 => ?_)
  · rw [if_pos c8] at h
    refine lv_iload hx hb dX5_witnessBits_42 (lv_at hl 4 rfl) ?_
    rw [kr (u4, V) (Option.some.inj h).symm]
    exact r_ri E hw dX5_witnessBits_44
  · rw [if_neg c8] at h
    refine lv_aload_n hx hb dX5_witnessBits_15 rfl (lv_at hl 1 rfl) ?_
    refine lv_aload_n hx hb dX5_witnessBits_16 rfl (lv_at hl 0 rfl) ?_
    refine lv_iload hx hb dX5_witnessBits_17 (lv_at hl 5 rfl) ?_
    refine lv_iload_n hx hb dX5_witnessBits_19 rfl (lv_at hl 2 rfl) ?_
    refine lv_iload_n hx hb dX5_witnessBits_20 rfl (lv_at hl 3 rfl) ?_
    obtain ⟨y2, V3, h1, h⟩ := ob_I_some h
    refine c_VI E hw (kX3_lets (l := l) (G := G) hB hs_i h1) yy_X3_lets lm_RX5_27 rfl (by decide) rfl rfl hl.1 (by decide) (by decide) rfl (Nat.le_of_ble_eq_true rfl) dX5_witnessBits_21 (fun H locs hw => ?_)
    refine lv_if_eq (tgt := 36) hx hb dX5_witnessBits_24 (by decide) (fun c7 => ?_) (fun c7 => ?_)
    · rw [if_pos c7] at h
      obtain ⟨y4, ey4, h⟩ := lt_some h
      refine lv_iinc (v := y4) (lv' := [(5, .int y4), (0, .ref (G.2.2 i)), (1, .ref (G.2.2 17)), (2, .int u2), (3, .int u3), (4, .int u4)]) hx hb dX5_witnessBits_36 hl (k := 5) rfl (by rw [ey4]; rfl) (by decide) rfl (fun ls hl => ?_)
      refine lv_goto (tgt := 6) hx hb dX5_witnessBits_39 (by decide) ?_
      exact kc (V3, u2, u3, u4, y4) (Option.some.inj h).symm H locs ls hw (lv_sub hl [1, 2, 3, 4, 5, 0] rfl)
    · rw [if_neg c7] at h
      refine lv_iload hx hb dX5_witnessBits_27 (lv_at hl 4 rfl) ?_
      refine lv_iconst (v := (1 : Int32)) hx hb dX5_witnessBits_29 (by decide) ?_
      refine lv_iload hx hb dX5_witnessBits_30 (lv_at hl 5 rfl) ?_
      refine lv_ishl hx hb dX5_witnessBits_32 ?_
      refine lv_ior hx hb dX5_witnessBits_33 ?_
      obtain ⟨y5, ey5, h⟩ := lt_some h
      refine lv_eqi ey5 ?_
      refine lv_istore (lv' := [(4, .int y5), (0, .ref (G.2.2 i)), (1, .ref (G.2.2 17)), (2, .int u2), (3, .int u3), (5, .int u5)]) hx hb dX5_witnessBits_34 hl (by decide) rfl (fun ls hl => ?_)
      obtain ⟨y6, ey6, h⟩ := lt_some h
      refine lv_iinc (v := y6) (lv' := [(5, .int y6), (4, .int y5), (0, .ref (G.2.2 i)), (1, .ref (G.2.2 17)), (2, .int u2), (3, .int u3)]) hx hb dX5_witnessBits_36 hl (k := 5) rfl (by rw [ey6]; rfl) (by decide) rfl (fun ls hl => ?_)
      refine lv_goto (tgt := 6) hx hb dX5_witnessBits_39 (by decide) ?_
      exact kc (V3, u2, u3, y5, y6) (Option.some.inj h).symm H locs ls hw (lv_sub hl [2, 3, 4, 5, 1, 0] rfl)
set_option maxHeartbeats 4000000 in
set_option maxRecDepth 100000 in
theorem kX5_witnessBits {l : Launch} {G : GT} {B : BGt} (hB : BGok B) {V : VT} {i : Nat} (hs_i : isSt i) {x1 : Int32} {x2 : Int32} {r : (Int32 × VT)} (h : fX5_witnessBits V i x1 x2 = some r) : CI l G B yX5_witnessBits (.code yX5_witnessBits cX5_witnessBits 6 (some .int)) 5 [.ref (G.2.2 i), .ref (G.2.2 17), .int x1, .int x2] V r.1 r.2 := by
  intro sz
  refine met_of (Qs := fun sz => QI G sz (r.1) (r.2)) hB (by decide) (Nat.le_of_ble_eq_true rfl) ?_ sz
  intro p e s m args below meth c ls E hw hl
  have hx := en_x E
  have hb := en_b E
  generalize hQ : MQ _ _ _ _ _ _ _ = Q
  have kr : Q = MQ below (QI G s.heap.size r.1 r.2) args s 0 0 (gA G s.heap.size) := hQ.symm
  have hl : lv_has ls 6 [(0, .ref (G.2.2 i)), (1, .ref (G.2.2 17)), (2, .int x1), (3, .int x2)] := hl
  obtain ⟨H, eH⟩ : ∃ H, H = s.heap := ⟨_, rfl⟩
  obtain ⟨locs, elocs⟩ : ∃ z : List Loc, z = [] := ⟨_, rfl⟩
  have hw : HW G s.heap V H locs := by rw [eH, elocs]; exact hw
  show W p l e _ s m args below meth c s.heap [] 0 0 Q (F0 m 0 ls [])
  rw [← eH, ← elocs]
  unfold fX5_witnessBits at h
  refine lv_iconst (v := (0 : Int32)) hx hb dX5_witnessBits_0 (by decide) ?_
  refine lv_istore (lv' := [(4, .int (0 : Int32)), (0, .ref (G.2.2 i)), (1, .ref (G.2.2 17)), (2, .int x1), (3, .int x2)]) hx hb dX5_witnessBits_1 hl (by decide) rfl (fun ls hl => ?_)
  refine lv_iconst (v := (0 : Int32)) hx hb dX5_witnessBits_3 (by decide) ?_
  refine lv_istore (lv' := [(5, .int (0 : Int32)), (4, .int (0 : Int32)), (0, .ref (G.2.2 i)), (1, .ref (G.2.2 17)), (2, .int x1), (3, .int x2)]) hx hb dX5_witnessBits_4 hl (by decide) rfl (fun ls hl => ?_)
  obtain ⟨x10, h9, h⟩ := ob_R_some h
  have h := Option.some.inj h
  subst h
  exact wX5_witnessBits_L6 E hs_i (fun q e => by subst e; exact kr) FV (V, x1, x2, (0 : Int32), (0 : Int32)) h9 H locs ls hw (lv_sub hl [2, 3, 4, 5, 1, 0] rfl)
/-! ===== AllSawIt$Sight.placeBits(LAllSawIt$State;LAllSawIt$Law;II)I ===== -/
theorem dX5_placeBits_0 : decode cX5_placeBits 0 = .ok (.iconst 0, 1) := by decide +kernel
theorem dX5_placeBits_1 : decode cX5_placeBits 1 = .ok (.istore 4, 2) := by decide +kernel
theorem dX5_placeBits_3 : decode cX5_placeBits 3 = .ok (.iconst 0, 1) := by decide +kernel
theorem dX5_placeBits_4 : decode cX5_placeBits 4 = .ok (.istore 5, 2) := by decide +kernel
theorem dX5_placeBits_6 : decode cX5_placeBits 6 = .ok (.iload 5, 2) := by decide +kernel
theorem dX5_placeBits_8 : decode cX5_placeBits 8 = .ok (.bipush 24, 2) := by decide +kernel
theorem dX5_placeBits_10 : decode cX5_placeBits 10 = .ok (.if_icmp .ge 30, 3) := by decide +kernel
theorem dX5_placeBits_13 : decode cX5_placeBits 13 = .ok (.aload_n 1, 1) := by decide +kernel
theorem dX5_placeBits_14 : decode cX5_placeBits 14 = .ok (.aload_n 0, 1) := by decide +kernel
theorem dX5_placeBits_15 : decode cX5_placeBits 15 = .ok (.iload_n 2, 1) := by decide +kernel
theorem dX5_placeBits_16 : decode cX5_placeBits 16 = .ok (.iload 5, 2) := by decide +kernel
theorem dX5_placeBits_18 : decode cX5_placeBits 18 = .ok (.iload_n 3, 1) := by decide +kernel
theorem dX5_placeBits_19 : decode cX5_placeBits 19 = .ok (.invokevirtual 27, 3) := by decide +kernel
theorem dX5_placeBits_22 : decode cX5_placeBits 22 = .ok (.ifCond .eq 12, 3) := by decide +kernel
theorem dX5_placeBits_25 : decode cX5_placeBits 25 = .ok (.iload 4, 2) := by decide +kernel
theorem dX5_placeBits_27 : decode cX5_placeBits 27 = .ok (.iconst 1, 1) := by decide +kernel
theorem dX5_placeBits_28 : decode cX5_placeBits 28 = .ok (.iload 5, 2) := by decide +kernel
theorem dX5_placeBits_30 : decode cX5_placeBits 30 = .ok (.ishl, 1) := by decide +kernel
theorem dX5_placeBits_31 : decode cX5_placeBits 31 = .ok (.ior, 1) := by decide +kernel
theorem dX5_placeBits_32 : decode cX5_placeBits 32 = .ok (.istore 4, 2) := by decide +kernel
theorem dX5_placeBits_34 : decode cX5_placeBits 34 = .ok (.iinc 5 1, 3) := by decide +kernel
theorem dX5_placeBits_37 : decode cX5_placeBits 37 = .ok (.goto (-31), 3) := by decide +kernel
theorem dX5_placeBits_40 : decode cX5_placeBits 40 = .ok (.iload 4, 2) := by decide +kernel
theorem dX5_placeBits_42 : decode cX5_placeBits 42 = .ok (.ireturn, 1) := by decide +kernel
noncomputable def fX5_placeBits_L6 (V : VT) (i : Nat) (u2 : Int32) (u3 : Int32) (u4 : Int32) (u5 : Int32) : Option ((VT × Int32 × Int32 × Int32 × Int32) ⊕ (Int32 × VT)) := if (24 : Int32) ≤ u5 then (some (.inr ((u4, V)))) else (ob_I (fX3_lets V i u2 u5 u3) fun y2 V3 => if y2 = 0 then (lt_ (u5 + (1 : Int32)) fun y4 => some (.inl (V3, u2, u3, u4, y4))) else (lt_ (u4 ||| ((1 : Int32) <<< (u5 &&& 31))) fun y5 => lt_ (u5 + (1 : Int32)) fun y6 => some (.inl (V3, u2, u3, y5, y6))))
noncomputable def iX5_placeBits_L6 (i : Nat) : (VT × Int32 × Int32 × Int32 × Int32) → Option ((VT × Int32 × Int32 × Int32 × Int32) ⊕ (Int32 × VT)) := fun q => fX5_placeBits_L6 (q.1) i (q.2.1) (q.2.2.1) (q.2.2.2.1) (q.2.2.2.2)
noncomputable def fX5_placeBits (V : VT) (i : Nat) (x1 : Int32) (x2 : Int32) : Option (Int32 × VT) := ob_R (it_ (iX5_placeBits_L6 i) FV (V, x1, x2, (0 : Int32), (0 : Int32))) fun x10 => some x10
set_option maxHeartbeats 4000000 in
set_option maxRecDepth 100000 in
theorem wX5_placeBits_L6 {p : Program} {l : Launch} {e : Env} {s : State} {m : MethodId} {args : Array Value} {below : List Frame} {meth : Method} {c : Code} {G : GT} {B : BGt} {Q : State → Prop} (E : En p s m args c meth cX5_placeBits 6 RX5 (some .int) G B) {i : Nat} (hs_i : isSt i) {x : (Int32 × VT)} (kr : ∀ q : (Int32 × VT), x = q → Q = MQ below (QI G s.heap.size q.1 q.2) args s 0 0 (gA G s.heap.size)) : ∀ (n : Nat) (q : (VT × Int32 × Int32 × Int32 × Int32)), it_ (iX5_placeBits_L6 i) n q = some x → ∀ (H : Heap) (locs : List Loc) (ls : Array Slot), HW G s.heap (q.1) H locs → lv_has ls 6 [(0, .ref (G.2.2 i)), (1, .ref (G.2.2 17)), (2, .int (q.2.1)), (3, .int (q.2.2.1)), (4, .int (q.2.2.2.1)), (5, .int (q.2.2.2.2))] → W p l e (rmD 5) s m args below meth c H locs 0 0 Q (F0 m 6 ls []) := by
  have hx := en_x E
  have hb := en_b E
  have hB := en_B E
  refine it_W (fun q : (VT × Int32 × Int32 × Int32 × Int32) => ∀ (H : Heap) (locs : List Loc) (ls : Array Slot), HW G s.heap (q.1) H locs → lv_has ls 6 [(0, .ref (G.2.2 i)), (1, .ref (G.2.2 17)), (2, .int (q.2.1)), (3, .int (q.2.2.1)), (4, .int (q.2.2.2.1)), (5, .int (q.2.2.2.2))] → W p l e (rmD 5) s m args below meth c H locs 0 0 Q (F0 m 6 ls [])) x ?_
  intro q r h kc kx
  obtain ⟨V, u2, u3, u4, u5⟩ := q
  intro H locs ls hw hl
  have h : fX5_placeBits_L6 V i u2 u3 u4 u5 = some r := h
  have hw : HW G s.heap V H locs := hw
  have hl : lv_has ls 6 [(0, .ref (G.2.2 i)), (1, .ref (G.2.2 17)), (2, .int u2), (3, .int u3), (4, .int u4), (5, .int u5)] := hl
  have kr : ∀ q : (Int32 × VT), r = .inr (q) → Q = MQ below (QI G s.heap.size q.1 q.2) args s 0 0 (gA G s.heap.size) := fun q e => kr q (kx _ e).symm
  unfold fX5_placeBits_L6 at h
  refine lv_iload hx hb dX5_placeBits_6 (lv_at hl 5 rfl) ?_
  refine lv_bipush (v := (24 : Int32)) hx hb dX5_placeBits_8 (by decide) ?_
  refine lv_icmp_ge (tgt := 40) hx hb dX5_placeBits_10 (by decide) (fun c8 => ?_) (fun c8 => ?_)
  · rw [if_pos c8] at h
    refine lv_iload hx hb dX5_placeBits_40 (lv_at hl 4 rfl) ?_
    rw [kr (u4, V) (Option.some.inj h).symm]
    exact r_ri E hw dX5_placeBits_42
  · rw [if_neg c8] at h
    refine lv_aload_n hx hb dX5_placeBits_13 rfl (lv_at hl 1 rfl) ?_
    refine lv_aload_n hx hb dX5_placeBits_14 rfl (lv_at hl 0 rfl) ?_
    refine lv_iload_n hx hb dX5_placeBits_15 rfl (lv_at hl 2 rfl) ?_
    refine lv_iload hx hb dX5_placeBits_16 (lv_at hl 5 rfl) ?_
    refine lv_iload_n hx hb dX5_placeBits_18 rfl (lv_at hl 3 rfl) ?_
    obtain ⟨y2, V3, h1, h⟩ := ob_I_some h
    refine c_VI E hw (kX3_lets (l := l) (G := G) hB hs_i h1) yy_X3_lets lm_RX5_27 rfl (by decide) rfl rfl hl.1 (by decide) (by decide) rfl (Nat.le_of_ble_eq_true rfl) dX5_placeBits_19 (fun H locs hw => ?_)
    refine lv_if_eq (tgt := 34) hx hb dX5_placeBits_22 (by decide) (fun c7 => ?_) (fun c7 => ?_)
    · rw [if_pos c7] at h
      obtain ⟨y4, ey4, h⟩ := lt_some h
      refine lv_iinc (v := y4) (lv' := [(5, .int y4), (0, .ref (G.2.2 i)), (1, .ref (G.2.2 17)), (2, .int u2), (3, .int u3), (4, .int u4)]) hx hb dX5_placeBits_34 hl (k := 5) rfl (by rw [ey4]; rfl) (by decide) rfl (fun ls hl => ?_)
      refine lv_goto (tgt := 6) hx hb dX5_placeBits_37 (by decide) ?_
      exact kc (V3, u2, u3, u4, y4) (Option.some.inj h).symm H locs ls hw (lv_sub hl [1, 2, 3, 4, 5, 0] rfl)
    · rw [if_neg c7] at h
      refine lv_iload hx hb dX5_placeBits_25 (lv_at hl 4 rfl) ?_
      refine lv_iconst (v := (1 : Int32)) hx hb dX5_placeBits_27 (by decide) ?_
      refine lv_iload hx hb dX5_placeBits_28 (lv_at hl 5 rfl) ?_
      refine lv_ishl hx hb dX5_placeBits_30 ?_
      refine lv_ior hx hb dX5_placeBits_31 ?_
      obtain ⟨y5, ey5, h⟩ := lt_some h
      refine lv_eqi ey5 ?_
      refine lv_istore (lv' := [(4, .int y5), (0, .ref (G.2.2 i)), (1, .ref (G.2.2 17)), (2, .int u2), (3, .int u3), (5, .int u5)]) hx hb dX5_placeBits_32 hl (by decide) rfl (fun ls hl => ?_)
      obtain ⟨y6, ey6, h⟩ := lt_some h
      refine lv_iinc (v := y6) (lv' := [(5, .int y6), (4, .int y5), (0, .ref (G.2.2 i)), (1, .ref (G.2.2 17)), (2, .int u2), (3, .int u3)]) hx hb dX5_placeBits_34 hl (k := 5) rfl (by rw [ey6]; rfl) (by decide) rfl (fun ls hl => ?_)
      refine lv_goto (tgt := 6) hx hb dX5_placeBits_37 (by decide) ?_
      exact kc (V3, u2, u3, y5, y6) (Option.some.inj h).symm H locs ls hw (lv_sub hl [2, 3, 4, 5, 1, 0] rfl)
set_option maxHeartbeats 4000000 in
set_option maxRecDepth 100000 in
theorem kX5_placeBits {l : Launch} {G : GT} {B : BGt} (hB : BGok B) {V : VT} {i : Nat} (hs_i : isSt i) {x1 : Int32} {x2 : Int32} {r : (Int32 × VT)} (h : fX5_placeBits V i x1 x2 = some r) : CI l G B yX5_placeBits (.code yX5_placeBits cX5_placeBits 6 (some .int)) 5 [.ref (G.2.2 i), .ref (G.2.2 17), .int x1, .int x2] V r.1 r.2 := by
  intro sz
  refine met_of (Qs := fun sz => QI G sz (r.1) (r.2)) hB (by decide) (Nat.le_of_ble_eq_true rfl) ?_ sz
  intro p e s m args below meth c ls E hw hl
  have hx := en_x E
  have hb := en_b E
  generalize hQ : MQ _ _ _ _ _ _ _ = Q
  have kr : Q = MQ below (QI G s.heap.size r.1 r.2) args s 0 0 (gA G s.heap.size) := hQ.symm
  have hl : lv_has ls 6 [(0, .ref (G.2.2 i)), (1, .ref (G.2.2 17)), (2, .int x1), (3, .int x2)] := hl
  obtain ⟨H, eH⟩ : ∃ H, H = s.heap := ⟨_, rfl⟩
  obtain ⟨locs, elocs⟩ : ∃ z : List Loc, z = [] := ⟨_, rfl⟩
  have hw : HW G s.heap V H locs := by rw [eH, elocs]; exact hw
  show W p l e _ s m args below meth c s.heap [] 0 0 Q (F0 m 0 ls [])
  rw [← eH, ← elocs]
  unfold fX5_placeBits at h
  refine lv_iconst (v := (0 : Int32)) hx hb dX5_placeBits_0 (by decide) ?_
  refine lv_istore (lv' := [(4, .int (0 : Int32)), (0, .ref (G.2.2 i)), (1, .ref (G.2.2 17)), (2, .int x1), (3, .int x2)]) hx hb dX5_placeBits_1 hl (by decide) rfl (fun ls hl => ?_)
  refine lv_iconst (v := (0 : Int32)) hx hb dX5_placeBits_3 (by decide) ?_
  refine lv_istore (lv' := [(5, .int (0 : Int32)), (4, .int (0 : Int32)), (0, .ref (G.2.2 i)), (1, .ref (G.2.2 17)), (2, .int x1), (3, .int x2)]) hx hb dX5_placeBits_4 hl (by decide) rfl (fun ls hl => ?_)
  obtain ⟨x10, h9, h⟩ := ob_R_some h
  have h := Option.some.inj h
  subst h
  exact wX5_placeBits_L6 E hs_i (fun q e => by subst e; exact kr) FV (V, x1, x2, (0 : Int32), (0 : Int32)) h9 H locs ls hw (lv_sub hl [2, 3, 4, 5, 1, 0] rfl)
/-! ===== AllSawIt$Sight.openBits(LAllSawIt$State;LAllSawIt$Law;I)I ===== -/
theorem dX5_openBits_0 : decode cX5_openBits 0 = .ok (.aload_n 0, 1) := by decide +kernel
theorem dX5_openBits_1 : decode cX5_openBits 1 = .ok (.getfield 21, 3) := by decide +kernel
theorem dX5_openBits_4 : decode cX5_openBits 4 = .ok (.ifCond .ne 7, 3) := by decide +kernel
theorem dX5_openBits_7 : decode cX5_openBits 7 = .ok (.iconst 0, 1) := by decide +kernel
theorem dX5_openBits_8 : decode cX5_openBits 8 = .ok (.goto 5, 3) := by decide +kernel
theorem dX5_openBits_11 : decode cX5_openBits 11 = .ok (.ldc 33, 2) := by decide +kernel
theorem dX5_openBits_13 : decode cX5_openBits 13 = .ok (.istore_n 3, 1) := by decide +kernel
theorem dX5_openBits_14 : decode cX5_openBits 14 = .ok (.iconst 0, 1) := by decide +kernel
theorem dX5_openBits_15 : decode cX5_openBits 15 = .ok (.istore 4, 2) := by decide +kernel
theorem dX5_openBits_17 : decode cX5_openBits 17 = .ok (.iload 4, 2) := by decide +kernel
theorem dX5_openBits_19 : decode cX5_openBits 19 = .ok (.aload_n 0, 1) := by decide +kernel
theorem dX5_openBits_20 : decode cX5_openBits 20 = .ok (.getfield 21, 3) := by decide +kernel
theorem dX5_openBits_23 : decode cX5_openBits 23 = .ok (.if_icmp .ge 20, 3) := by decide +kernel
theorem dX5_openBits_26 : decode cX5_openBits 26 = .ok (.iload_n 3, 1) := by decide +kernel
theorem dX5_openBits_27 : decode cX5_openBits 27 = .ok (.aload_n 0, 1) := by decide +kernel
theorem dX5_openBits_28 : decode cX5_openBits 28 = .ok (.aload_n 1, 1) := by decide +kernel
theorem dX5_openBits_29 : decode cX5_openBits 29 = .ok (.iload 4, 2) := by decide +kernel
theorem dX5_openBits_31 : decode cX5_openBits 31 = .ok (.iload_n 2, 1) := by decide +kernel
theorem dX5_openBits_32 : decode cX5_openBits 32 = .ok (.invokestatic 34, 3) := by decide +kernel
theorem dX5_openBits_35 : decode cX5_openBits 35 = .ok (.iand, 1) := by decide +kernel
theorem dX5_openBits_36 : decode cX5_openBits 36 = .ok (.istore_n 3, 1) := by decide +kernel
theorem dX5_openBits_37 : decode cX5_openBits 37 = .ok (.iinc 4 1, 3) := by decide +kernel
theorem dX5_openBits_40 : decode cX5_openBits 40 = .ok (.goto (-23), 3) := by decide +kernel
theorem dX5_openBits_43 : decode cX5_openBits 43 = .ok (.iload_n 3, 1) := by decide +kernel
theorem dX5_openBits_44 : decode cX5_openBits 44 = .ok (.ireturn, 1) := by decide +kernel
noncomputable def fX5_openBits_L17 (V : VT) (i : Nat) (u2 : Int32) (u3 : Int32) (u4 : Int32) : Option ((VT × Int32 × Int32 × Int32) ⊕ (Int32 × VT)) := if (V i 3) ≤ u4 then (some (.inr ((u3, V)))) else (ob_I (fX5_placeBits V i u4 u2) fun y2 V3 => lt_ (u3 &&& y2) fun y4 => lt_ (u4 + (1 : Int32)) fun y5 => some (.inl (V3, u2, y4, y5)))
noncomputable def iX5_openBits_L17 (i : Nat) : (VT × Int32 × Int32 × Int32) → Option ((VT × Int32 × Int32 × Int32) ⊕ (Int32 × VT)) := fun q => fX5_openBits_L17 (q.1) i (q.2.1) (q.2.2.1) (q.2.2.2)
noncomputable def fX5_openBits (V : VT) (i : Nat) (x1 : Int32) : Option (Int32 × VT) := if (V i 3) = 0 then (ob_R (it_ (iX5_openBits_L17 i) FV (V, x1, (0 : Int32), (0 : Int32))) fun x10 => some x10) else (ob_R (it_ (iX5_openBits_L17 i) FV (V, x1, (16777215 : Int32), (0 : Int32))) fun x8 => some x8)
set_option maxHeartbeats 4000000 in
set_option maxRecDepth 100000 in
theorem wX5_openBits_L17 {p : Program} {l : Launch} {e : Env} {s : State} {m : MethodId} {args : Array Value} {below : List Frame} {meth : Method} {c : Code} {G : GT} {B : BGt} {Q : State → Prop} (E : En p s m args c meth cX5_openBits 5 RX5 (some .int) G B) {i : Nat} (hs_i : isSt i) {x : (Int32 × VT)} (kr : ∀ q : (Int32 × VT), x = q → Q = MQ below (QI G s.heap.size q.1 q.2) args s 0 0 (gA G s.heap.size)) : ∀ (n : Nat) (q : (VT × Int32 × Int32 × Int32)), it_ (iX5_openBits_L17 i) n q = some x → ∀ (H : Heap) (locs : List Loc) (ls : Array Slot), HW G s.heap (q.1) H locs → lv_has ls 5 [(0, .ref (G.2.2 i)), (1, .ref (G.2.2 17)), (2, .int (q.2.1)), (3, .int (q.2.2.1)), (4, .int (q.2.2.2))] → W p l e (rmD 6) s m args below meth c H locs 0 0 Q (F0 m 17 ls []) := by
  have hx := en_x E
  have hb := en_b E
  have hB := en_B E
  refine it_W (fun q : (VT × Int32 × Int32 × Int32) => ∀ (H : Heap) (locs : List Loc) (ls : Array Slot), HW G s.heap (q.1) H locs → lv_has ls 5 [(0, .ref (G.2.2 i)), (1, .ref (G.2.2 17)), (2, .int (q.2.1)), (3, .int (q.2.2.1)), (4, .int (q.2.2.2))] → W p l e (rmD 6) s m args below meth c H locs 0 0 Q (F0 m 17 ls [])) x ?_
  intro q r h kc kx
  obtain ⟨V, u2, u3, u4⟩ := q
  intro H locs ls hw hl
  have h : fX5_openBits_L17 V i u2 u3 u4 = some r := h
  have hw : HW G s.heap V H locs := hw
  have hl : lv_has ls 5 [(0, .ref (G.2.2 i)), (1, .ref (G.2.2 17)), (2, .int u2), (3, .int u3), (4, .int u4)] := hl
  have kr : ∀ q : (Int32 × VT), r = .inr (q) → Q = MQ below (QI G s.heap.size q.1 q.2) args s 0 0 (gA G s.heap.size) := fun q e => kr q (kx _ e).symm
  unfold fX5_openBits_L17 at h
  refine lv_iload hx hb dX5_openBits_17 (lv_at hl 4 rfl) ?_
  refine lv_aload_n hx hb dX5_openBits_19 rfl (lv_at hl 0 rfl) ?_
  refine r_giN E hw i 3 (N := 13) (C := RX6) (T := TX6) (st_lt hs_i) (st_c hs_i) (st_N hs_i) (by decide) (st_n hs_i (k := 3) (by decide)) iw_6 rfl lf_RX5_21 dX5_openBits_20 ?_
  refine lv_icmp_ge (tgt := 43) hx hb dX5_openBits_23 (by decide) (fun c6 => ?_) (fun c6 => ?_)
  · rw [if_pos c6] at h
    refine lv_iload_n hx hb dX5_openBits_43 rfl (lv_at hl 3 rfl) ?_
    rw [kr (u3, V) (Option.some.inj h).symm]
    exact r_ri E hw dX5_openBits_44
  · rw [if_neg c6] at h
    refine lv_iload_n hx hb dX5_openBits_26 rfl (lv_at hl 3 rfl) ?_
    refine lv_aload_n hx hb dX5_openBits_27 rfl (lv_at hl 0 rfl) ?_
    refine lv_aload_n hx hb dX5_openBits_28 rfl (lv_at hl 1 rfl) ?_
    refine lv_iload hx hb dX5_openBits_29 (lv_at hl 4 rfl) ?_
    refine lv_iload_n hx hb dX5_openBits_31 rfl (lv_at hl 2 rfl) ?_
    obtain ⟨y2, V3, h1, h⟩ := ob_I_some h
    refine c_SI E hw (kX5_placeBits (l := l) (G := G) hB hs_i h1) yy_X5_placeBits lm_RX5_34 rfl hl.1 (by decide) (by decide) rfl (Nat.le_of_ble_eq_true rfl) dX5_openBits_32 (fun H locs hw => ?_)
    refine lv_iand hx hb dX5_openBits_35 ?_
    obtain ⟨y4, ey4, h⟩ := lt_some h
    refine lv_eqi ey4 ?_
    refine lv_istore_n (lv' := [(3, .int y4), (0, .ref (G.2.2 i)), (1, .ref (G.2.2 17)), (2, .int u2), (4, .int u4)]) hx hb dX5_openBits_36 rfl hl (by decide) rfl (fun ls hl => ?_)
    obtain ⟨y5, ey5, h⟩ := lt_some h
    refine lv_iinc (v := y5) (lv' := [(4, .int y5), (3, .int y4), (0, .ref (G.2.2 i)), (1, .ref (G.2.2 17)), (2, .int u2)]) hx hb dX5_openBits_37 hl (k := 4) rfl (by rw [ey5]; rfl) (by decide) rfl (fun ls hl => ?_)
    refine lv_goto (tgt := 17) hx hb dX5_openBits_40 (by decide) ?_
    exact kc (V3, u2, y4, y5) (Option.some.inj h).symm H locs ls hw (lv_sub hl [2, 3, 4, 1, 0] rfl)
set_option maxHeartbeats 4000000 in
set_option maxRecDepth 100000 in
theorem kX5_openBits {l : Launch} {G : GT} {B : BGt} (hB : BGok B) {V : VT} {i : Nat} (hs_i : isSt i) {x1 : Int32} {r : (Int32 × VT)} (h : fX5_openBits V i x1 = some r) : CI l G B yX5_openBits (.code yX5_openBits cX5_openBits 5 (some .int)) 6 [.ref (G.2.2 i), .ref (G.2.2 17), .int x1] V r.1 r.2 := by
  intro sz
  refine met_of (Qs := fun sz => QI G sz (r.1) (r.2)) hB (by decide) (Nat.le_of_ble_eq_true rfl) ?_ sz
  intro p e s m args below meth c ls E hw hl
  have hx := en_x E
  have hb := en_b E
  generalize hQ : MQ _ _ _ _ _ _ _ = Q
  have kr : Q = MQ below (QI G s.heap.size r.1 r.2) args s 0 0 (gA G s.heap.size) := hQ.symm
  have hl : lv_has ls 5 [(0, .ref (G.2.2 i)), (1, .ref (G.2.2 17)), (2, .int x1)] := hl
  obtain ⟨H, eH⟩ : ∃ H, H = s.heap := ⟨_, rfl⟩
  obtain ⟨locs, elocs⟩ : ∃ z : List Loc, z = [] := ⟨_, rfl⟩
  have hw : HW G s.heap V H locs := by rw [eH, elocs]; exact hw
  show W p l e _ s m args below meth c s.heap [] 0 0 Q (F0 m 0 ls [])
  rw [← eH, ← elocs]
  unfold fX5_openBits at h
  refine lv_aload_n hx hb dX5_openBits_0 rfl (lv_at hl 0 rfl) ?_
  refine r_giN E hw i 3 (N := 13) (C := RX6) (T := TX6) (st_lt hs_i) (st_c hs_i) (st_N hs_i) (by decide) (st_n hs_i (k := 3) (by decide)) iw_6 rfl lf_RX5_21 dX5_openBits_1 ?_
  refine lv_if_ne (tgt := 11) hx hb dX5_openBits_4 (by decide) (fun c11 => ?_) (fun c11 => ?_)
  · rw [if_neg c11] at h
    refine lv_ldc (own := RX5) (v := (16777215 : Int32)) hx hb E.2.2.2.1 (en_w E kn_RX5_33 rfl) dX5_openBits_11 ?_
    refine lv_istore_n (lv' := [(3, .int (16777215 : Int32)), (0, .ref (G.2.2 i)), (1, .ref (G.2.2 17)), (2, .int x1)]) hx hb dX5_openBits_13 rfl hl (by decide) rfl (fun ls hl => ?_)
    refine lv_iconst (v := (0 : Int32)) hx hb dX5_openBits_14 (by decide) ?_
    refine lv_istore (lv' := [(4, .int (0 : Int32)), (3, .int (16777215 : Int32)), (0, .ref (G.2.2 i)), (1, .ref (G.2.2 17)), (2, .int x1)]) hx hb dX5_openBits_15 hl (by decide) rfl (fun ls hl => ?_)
    obtain ⟨x8, h7, h⟩ := ob_R_some h
    have h := Option.some.inj h
    subst h
    exact wX5_openBits_L17 E hs_i (fun q e => by subst e; exact kr) FV (V, x1, (16777215 : Int32), (0 : Int32)) h7 H locs ls hw (lv_sub hl [2, 3, 4, 1, 0] rfl)
  · rw [if_pos c11] at h
    refine lv_iconst (v := (0 : Int32)) hx hb dX5_openBits_7 (by decide) ?_
    refine lv_goto (tgt := 13) hx hb dX5_openBits_8 (by decide) ?_
    refine lv_istore_n (lv' := [(3, .int (0 : Int32)), (0, .ref (G.2.2 i)), (1, .ref (G.2.2 17)), (2, .int x1)]) hx hb dX5_openBits_13 rfl hl (by decide) rfl (fun ls hl => ?_)
    refine lv_iconst (v := (0 : Int32)) hx hb dX5_openBits_14 (by decide) ?_
    refine lv_istore (lv' := [(4, .int (0 : Int32)), (3, .int (0 : Int32)), (0, .ref (G.2.2 i)), (1, .ref (G.2.2 17)), (2, .int x1)]) hx hb dX5_openBits_15 hl (by decide) rfl (fun ls hl => ?_)
    obtain ⟨x10, h9, h⟩ := ob_R_some h
    have h := Option.some.inj h
    subst h
    exact wX5_openBits_L17 E hs_i (fun q e => by subst e; exact kr) FV (V, x1, (0 : Int32), (0 : Int32)) h9 H locs ls hw (lv_sub hl [2, 3, 4, 1, 0] rfl)
/-! ===== AllSawIt$Sight.darkBits(LAllSawIt$State;LAllSawIt$Law;I)I ===== -/
theorem dX5_darkBits_0 : decode cX5_darkBits 0 = .ok (.ldc 33, 2) := by decide +kernel
theorem dX5_darkBits_2 : decode cX5_darkBits 2 = .ok (.istore_n 3, 1) := by decide +kernel
theorem dX5_darkBits_3 : decode cX5_darkBits 3 = .ok (.iconst 0, 1) := by decide +kernel
theorem dX5_darkBits_4 : decode cX5_darkBits 4 = .ok (.istore 4, 2) := by decide +kernel
theorem dX5_darkBits_6 : decode cX5_darkBits 6 = .ok (.iload 4, 2) := by decide +kernel
theorem dX5_darkBits_8 : decode cX5_darkBits 8 = .ok (.aload_n 0, 1) := by decide +kernel
theorem dX5_darkBits_9 : decode cX5_darkBits 9 = .ok (.getfield 21, 3) := by decide +kernel
theorem dX5_darkBits_12 : decode cX5_darkBits 12 = .ok (.if_icmp .ge 22, 3) := by decide +kernel
theorem dX5_darkBits_15 : decode cX5_darkBits 15 = .ok (.iload_n 3, 1) := by decide +kernel
theorem dX5_darkBits_16 : decode cX5_darkBits 16 = .ok (.aload_n 0, 1) := by decide +kernel
theorem dX5_darkBits_17 : decode cX5_darkBits 17 = .ok (.aload_n 1, 1) := by decide +kernel
theorem dX5_darkBits_18 : decode cX5_darkBits 18 = .ok (.iload 4, 2) := by decide +kernel
theorem dX5_darkBits_20 : decode cX5_darkBits 20 = .ok (.iload_n 2, 1) := by decide +kernel
theorem dX5_darkBits_21 : decode cX5_darkBits 21 = .ok (.invokestatic 34, 3) := by decide +kernel
theorem dX5_darkBits_24 : decode cX5_darkBits 24 = .ok (.iconst (-1), 1) := by decide +kernel
theorem dX5_darkBits_25 : decode cX5_darkBits 25 = .ok (.ixor, 1) := by decide +kernel
theorem dX5_darkBits_26 : decode cX5_darkBits 26 = .ok (.iand, 1) := by decide +kernel
theorem dX5_darkBits_27 : decode cX5_darkBits 27 = .ok (.istore_n 3, 1) := by decide +kernel
theorem dX5_darkBits_28 : decode cX5_darkBits 28 = .ok (.iinc 4 1, 3) := by decide +kernel
theorem dX5_darkBits_31 : decode cX5_darkBits 31 = .ok (.goto (-25), 3) := by decide +kernel
theorem dX5_darkBits_34 : decode cX5_darkBits 34 = .ok (.iload_n 3, 1) := by decide +kernel
theorem dX5_darkBits_35 : decode cX5_darkBits 35 = .ok (.ireturn, 1) := by decide +kernel
noncomputable def fX5_darkBits_L6 (V : VT) (i : Nat) (u2 : Int32) (u3 : Int32) (u4 : Int32) : Option ((VT × Int32 × Int32 × Int32) ⊕ (Int32 × VT)) := if (V i 3) ≤ u4 then (some (.inr ((u3, V)))) else (ob_I (fX5_placeBits V i u4 u2) fun y2 V3 => lt_ (u3 &&& (y2 ^^^ (-1 : Int32))) fun y4 => lt_ (u4 + (1 : Int32)) fun y5 => some (.inl (V3, u2, y4, y5)))
noncomputable def iX5_darkBits_L6 (i : Nat) : (VT × Int32 × Int32 × Int32) → Option ((VT × Int32 × Int32 × Int32) ⊕ (Int32 × VT)) := fun q => fX5_darkBits_L6 (q.1) i (q.2.1) (q.2.2.1) (q.2.2.2)
noncomputable def fX5_darkBits (V : VT) (i : Nat) (x1 : Int32) : Option (Int32 × VT) := ob_R (it_ (iX5_darkBits_L6 i) FV (V, x1, (16777215 : Int32), (0 : Int32))) fun x8 => some x8
set_option maxHeartbeats 4000000 in
set_option maxRecDepth 100000 in
theorem wX5_darkBits_L6 {p : Program} {l : Launch} {e : Env} {s : State} {m : MethodId} {args : Array Value} {below : List Frame} {meth : Method} {c : Code} {G : GT} {B : BGt} {Q : State → Prop} (E : En p s m args c meth cX5_darkBits 5 RX5 (some .int) G B) {i : Nat} (hs_i : isSt i) {x : (Int32 × VT)} (kr : ∀ q : (Int32 × VT), x = q → Q = MQ below (QI G s.heap.size q.1 q.2) args s 0 0 (gA G s.heap.size)) : ∀ (n : Nat) (q : (VT × Int32 × Int32 × Int32)), it_ (iX5_darkBits_L6 i) n q = some x → ∀ (H : Heap) (locs : List Loc) (ls : Array Slot), HW G s.heap (q.1) H locs → lv_has ls 5 [(0, .ref (G.2.2 i)), (1, .ref (G.2.2 17)), (2, .int (q.2.1)), (3, .int (q.2.2.1)), (4, .int (q.2.2.2))] → W p l e (rmD 6) s m args below meth c H locs 0 0 Q (F0 m 6 ls []) := by
  have hx := en_x E
  have hb := en_b E
  have hB := en_B E
  refine it_W (fun q : (VT × Int32 × Int32 × Int32) => ∀ (H : Heap) (locs : List Loc) (ls : Array Slot), HW G s.heap (q.1) H locs → lv_has ls 5 [(0, .ref (G.2.2 i)), (1, .ref (G.2.2 17)), (2, .int (q.2.1)), (3, .int (q.2.2.1)), (4, .int (q.2.2.2))] → W p l e (rmD 6) s m args below meth c H locs 0 0 Q (F0 m 6 ls [])) x ?_
  intro q r h kc kx
  obtain ⟨V, u2, u3, u4⟩ := q
  intro H locs ls hw hl
  have h : fX5_darkBits_L6 V i u2 u3 u4 = some r := h
  have hw : HW G s.heap V H locs := hw
  have hl : lv_has ls 5 [(0, .ref (G.2.2 i)), (1, .ref (G.2.2 17)), (2, .int u2), (3, .int u3), (4, .int u4)] := hl
  have kr : ∀ q : (Int32 × VT), r = .inr (q) → Q = MQ below (QI G s.heap.size q.1 q.2) args s 0 0 (gA G s.heap.size) := fun q e => kr q (kx _ e).symm
  unfold fX5_darkBits_L6 at h
  refine lv_iload hx hb dX5_darkBits_6 (lv_at hl 4 rfl) ?_
  refine lv_aload_n hx hb dX5_darkBits_8 rfl (lv_at hl 0 rfl) ?_
  refine r_giN E hw i 3 (N := 13) (C := RX6) (T := TX6) (st_lt hs_i) (st_c hs_i) (st_N hs_i) (by decide) (st_n hs_i (k := 3) (by decide)) iw_6 rfl lf_RX5_21 dX5_darkBits_9 ?_
  refine lv_icmp_ge (tgt := 34) hx hb dX5_darkBits_12 (by decide) (fun c6 => ?_) (fun c6 => ?_)
  · rw [if_pos c6] at h
    refine lv_iload_n hx hb dX5_darkBits_34 rfl (lv_at hl 3 rfl) ?_
    rw [kr (u3, V) (Option.some.inj h).symm]
    exact r_ri E hw dX5_darkBits_35
  · rw [if_neg c6] at h
    refine lv_iload_n hx hb dX5_darkBits_15 rfl (lv_at hl 3 rfl) ?_
    refine lv_aload_n hx hb dX5_darkBits_16 rfl (lv_at hl 0 rfl) ?_
    refine lv_aload_n hx hb dX5_darkBits_17 rfl (lv_at hl 1 rfl) ?_
    refine lv_iload hx hb dX5_darkBits_18 (lv_at hl 4 rfl) ?_
    refine lv_iload_n hx hb dX5_darkBits_20 rfl (lv_at hl 2 rfl) ?_
    obtain ⟨y2, V3, h1, h⟩ := ob_I_some h
    refine c_SI E hw (kX5_placeBits (l := l) (G := G) hB hs_i h1) yy_X5_placeBits lm_RX5_34 rfl hl.1 (by decide) (by decide) rfl (Nat.le_of_ble_eq_true rfl) dX5_darkBits_21 (fun H locs hw => ?_)
    refine lv_iconst (v := (-1 : Int32)) hx hb dX5_darkBits_24 (by decide) ?_
    refine lv_ixor hx hb dX5_darkBits_25 ?_
    refine lv_iand hx hb dX5_darkBits_26 ?_
    obtain ⟨y4, ey4, h⟩ := lt_some h
    refine lv_eqi ey4 ?_
    refine lv_istore_n (lv' := [(3, .int y4), (0, .ref (G.2.2 i)), (1, .ref (G.2.2 17)), (2, .int u2), (4, .int u4)]) hx hb dX5_darkBits_27 rfl hl (by decide) rfl (fun ls hl => ?_)
    obtain ⟨y5, ey5, h⟩ := lt_some h
    refine lv_iinc (v := y5) (lv' := [(4, .int y5), (3, .int y4), (0, .ref (G.2.2 i)), (1, .ref (G.2.2 17)), (2, .int u2)]) hx hb dX5_darkBits_28 hl (k := 4) rfl (by rw [ey5]; rfl) (by decide) rfl (fun ls hl => ?_)
    refine lv_goto (tgt := 6) hx hb dX5_darkBits_31 (by decide) ?_
    exact kc (V3, u2, y4, y5) (Option.some.inj h).symm H locs ls hw (lv_sub hl [2, 3, 4, 1, 0] rfl)
set_option maxHeartbeats 4000000 in
set_option maxRecDepth 100000 in
theorem kX5_darkBits {l : Launch} {G : GT} {B : BGt} (hB : BGok B) {V : VT} {i : Nat} (hs_i : isSt i) {x1 : Int32} {r : (Int32 × VT)} (h : fX5_darkBits V i x1 = some r) : CI l G B yX5_darkBits (.code yX5_darkBits cX5_darkBits 5 (some .int)) 6 [.ref (G.2.2 i), .ref (G.2.2 17), .int x1] V r.1 r.2 := by
  intro sz
  refine met_of (Qs := fun sz => QI G sz (r.1) (r.2)) hB (by decide) (Nat.le_of_ble_eq_true rfl) ?_ sz
  intro p e s m args below meth c ls E hw hl
  have hx := en_x E
  have hb := en_b E
  generalize hQ : MQ _ _ _ _ _ _ _ = Q
  have kr : Q = MQ below (QI G s.heap.size r.1 r.2) args s 0 0 (gA G s.heap.size) := hQ.symm
  have hl : lv_has ls 5 [(0, .ref (G.2.2 i)), (1, .ref (G.2.2 17)), (2, .int x1)] := hl
  obtain ⟨H, eH⟩ : ∃ H, H = s.heap := ⟨_, rfl⟩
  obtain ⟨locs, elocs⟩ : ∃ z : List Loc, z = [] := ⟨_, rfl⟩
  have hw : HW G s.heap V H locs := by rw [eH, elocs]; exact hw
  show W p l e _ s m args below meth c s.heap [] 0 0 Q (F0 m 0 ls [])
  rw [← eH, ← elocs]
  unfold fX5_darkBits at h
  refine lv_ldc (own := RX5) (v := (16777215 : Int32)) hx hb E.2.2.2.1 (en_w E kn_RX5_33 rfl) dX5_darkBits_0 ?_
  refine lv_istore_n (lv' := [(3, .int (16777215 : Int32)), (0, .ref (G.2.2 i)), (1, .ref (G.2.2 17)), (2, .int x1)]) hx hb dX5_darkBits_2 rfl hl (by decide) rfl (fun ls hl => ?_)
  refine lv_iconst (v := (0 : Int32)) hx hb dX5_darkBits_3 (by decide) ?_
  refine lv_istore (lv' := [(4, .int (0 : Int32)), (3, .int (16777215 : Int32)), (0, .ref (G.2.2 i)), (1, .ref (G.2.2 17)), (2, .int x1)]) hx hb dX5_darkBits_4 hl (by decide) rfl (fun ls hl => ?_)
  obtain ⟨x8, h7, h⟩ := ob_R_some h
  have h := Option.some.inj h
  subst h
  exact wX5_darkBits_L6 E hs_i (fun q e => by subst e; exact kr) FV (V, x1, (16777215 : Int32), (0 : Int32)) h7 H locs ls hw (lv_sub hl [2, 3, 4, 1, 0] rfl)
/-! ===== AllSawIt$Sight.aloneBits(LAllSawIt$State;LAllSawIt$Law;I)I ===== -/
theorem dX5_aloneBits_0 : decode cX5_aloneBits 0 = .ok (.iconst 0, 1) := by decide +kernel
theorem dX5_aloneBits_1 : decode cX5_aloneBits 1 = .ok (.istore_n 3, 1) := by decide +kernel
theorem dX5_aloneBits_2 : decode cX5_aloneBits 2 = .ok (.iconst 0, 1) := by decide +kernel
theorem dX5_aloneBits_3 : decode cX5_aloneBits 3 = .ok (.istore 4, 2) := by decide +kernel
theorem dX5_aloneBits_5 : decode cX5_aloneBits 5 = .ok (.iconst 0, 1) := by decide +kernel
theorem dX5_aloneBits_6 : decode cX5_aloneBits 6 = .ok (.istore 5, 2) := by decide +kernel
theorem dX5_aloneBits_8 : decode cX5_aloneBits 8 = .ok (.iload 5, 2) := by decide +kernel
theorem dX5_aloneBits_10 : decode cX5_aloneBits 10 = .ok (.aload_n 0, 1) := by decide +kernel
theorem dX5_aloneBits_11 : decode cX5_aloneBits 11 = .ok (.getfield 21, 3) := by decide +kernel
theorem dX5_aloneBits_14 : decode cX5_aloneBits 14 = .ok (.if_icmp .ge 33, 3) := by decide +kernel
theorem dX5_aloneBits_17 : decode cX5_aloneBits 17 = .ok (.aload_n 0, 1) := by decide +kernel
theorem dX5_aloneBits_18 : decode cX5_aloneBits 18 = .ok (.aload_n 1, 1) := by decide +kernel
theorem dX5_aloneBits_19 : decode cX5_aloneBits 19 = .ok (.iload 5, 2) := by decide +kernel
theorem dX5_aloneBits_21 : decode cX5_aloneBits 21 = .ok (.iload_n 2, 1) := by decide +kernel
theorem dX5_aloneBits_22 : decode cX5_aloneBits 22 = .ok (.invokestatic 34, 3) := by decide +kernel
theorem dX5_aloneBits_25 : decode cX5_aloneBits 25 = .ok (.istore 6, 2) := by decide +kernel
theorem dX5_aloneBits_27 : decode cX5_aloneBits 27 = .ok (.iload 4, 2) := by decide +kernel
theorem dX5_aloneBits_29 : decode cX5_aloneBits 29 = .ok (.iload_n 3, 1) := by decide +kernel
theorem dX5_aloneBits_30 : decode cX5_aloneBits 30 = .ok (.iload 6, 2) := by decide +kernel
theorem dX5_aloneBits_32 : decode cX5_aloneBits 32 = .ok (.iand, 1) := by decide +kernel
theorem dX5_aloneBits_33 : decode cX5_aloneBits 33 = .ok (.ior, 1) := by decide +kernel
theorem dX5_aloneBits_34 : decode cX5_aloneBits 34 = .ok (.istore 4, 2) := by decide +kernel
theorem dX5_aloneBits_36 : decode cX5_aloneBits 36 = .ok (.iload_n 3, 1) := by decide +kernel
theorem dX5_aloneBits_37 : decode cX5_aloneBits 37 = .ok (.iload 6, 2) := by decide +kernel
theorem dX5_aloneBits_39 : decode cX5_aloneBits 39 = .ok (.ior, 1) := by decide +kernel
theorem dX5_aloneBits_40 : decode cX5_aloneBits 40 = .ok (.istore_n 3, 1) := by decide +kernel
theorem dX5_aloneBits_41 : decode cX5_aloneBits 41 = .ok (.iinc 5 1, 3) := by decide +kernel
theorem dX5_aloneBits_44 : decode cX5_aloneBits 44 = .ok (.goto (-36), 3) := by decide +kernel
theorem dX5_aloneBits_47 : decode cX5_aloneBits 47 = .ok (.iload_n 3, 1) := by decide +kernel
theorem dX5_aloneBits_48 : decode cX5_aloneBits 48 = .ok (.iload 4, 2) := by decide +kernel
theorem dX5_aloneBits_50 : decode cX5_aloneBits 50 = .ok (.iconst (-1), 1) := by decide +kernel
theorem dX5_aloneBits_51 : decode cX5_aloneBits 51 = .ok (.ixor, 1) := by decide +kernel
theorem dX5_aloneBits_52 : decode cX5_aloneBits 52 = .ok (.iand, 1) := by decide +kernel
theorem dX5_aloneBits_53 : decode cX5_aloneBits 53 = .ok (.ireturn, 1) := by decide +kernel
noncomputable def fX5_aloneBits_L8 (V : VT) (i : Nat) (u2 : Int32) (u3 : Int32) (u4 : Int32) (u5 : Int32) : Option ((VT × Int32 × Int32 × Int32 × Int32) ⊕ (Int32 × VT)) := if (V i 3) ≤ u5 then (some (.inr (((u3 &&& (u4 ^^^ (-1 : Int32))), V)))) else (ob_I (fX5_placeBits V i u5 u2) fun y2 V3 => lt_ (u4 ||| (u3 &&& y2)) fun y4 => lt_ (u3 ||| y2) fun y5 => lt_ (u5 + (1 : Int32)) fun y6 => some (.inl (V3, u2, y5, y4, y6)))
noncomputable def iX5_aloneBits_L8 (i : Nat) : (VT × Int32 × Int32 × Int32 × Int32) → Option ((VT × Int32 × Int32 × Int32 × Int32) ⊕ (Int32 × VT)) := fun q => fX5_aloneBits_L8 (q.1) i (q.2.1) (q.2.2.1) (q.2.2.2.1) (q.2.2.2.2)
noncomputable def fX5_aloneBits (V : VT) (i : Nat) (x1 : Int32) : Option (Int32 × VT) := ob_R (it_ (iX5_aloneBits_L8 i) FV (V, x1, (0 : Int32), (0 : Int32), (0 : Int32))) fun x9 => some x9
set_option maxHeartbeats 4000000 in
set_option maxRecDepth 100000 in
theorem wX5_aloneBits_L8 {p : Program} {l : Launch} {e : Env} {s : State} {m : MethodId} {args : Array Value} {below : List Frame} {meth : Method} {c : Code} {G : GT} {B : BGt} {Q : State → Prop} (E : En p s m args c meth cX5_aloneBits 7 RX5 (some .int) G B) {i : Nat} (hs_i : isSt i) {x : (Int32 × VT)} (kr : ∀ q : (Int32 × VT), x = q → Q = MQ below (QI G s.heap.size q.1 q.2) args s 0 0 (gA G s.heap.size)) : ∀ (n : Nat) (q : (VT × Int32 × Int32 × Int32 × Int32)), it_ (iX5_aloneBits_L8 i) n q = some x → ∀ (H : Heap) (locs : List Loc) (ls : Array Slot), HW G s.heap (q.1) H locs → lv_has ls 7 [(0, .ref (G.2.2 i)), (1, .ref (G.2.2 17)), (2, .int (q.2.1)), (3, .int (q.2.2.1)), (4, .int (q.2.2.2.1)), (5, .int (q.2.2.2.2))] → W p l e (rmD 6) s m args below meth c H locs 0 0 Q (F0 m 8 ls []) := by
  have hx := en_x E
  have hb := en_b E
  have hB := en_B E
  refine it_W (fun q : (VT × Int32 × Int32 × Int32 × Int32) => ∀ (H : Heap) (locs : List Loc) (ls : Array Slot), HW G s.heap (q.1) H locs → lv_has ls 7 [(0, .ref (G.2.2 i)), (1, .ref (G.2.2 17)), (2, .int (q.2.1)), (3, .int (q.2.2.1)), (4, .int (q.2.2.2.1)), (5, .int (q.2.2.2.2))] → W p l e (rmD 6) s m args below meth c H locs 0 0 Q (F0 m 8 ls [])) x ?_
  intro q r h kc kx
  obtain ⟨V, u2, u3, u4, u5⟩ := q
  intro H locs ls hw hl
  have h : fX5_aloneBits_L8 V i u2 u3 u4 u5 = some r := h
  have hw : HW G s.heap V H locs := hw
  have hl : lv_has ls 7 [(0, .ref (G.2.2 i)), (1, .ref (G.2.2 17)), (2, .int u2), (3, .int u3), (4, .int u4), (5, .int u5)] := hl
  have kr : ∀ q : (Int32 × VT), r = .inr (q) → Q = MQ below (QI G s.heap.size q.1 q.2) args s 0 0 (gA G s.heap.size) := fun q e => kr q (kx _ e).symm
  unfold fX5_aloneBits_L8 at h
  refine lv_iload hx hb dX5_aloneBits_8 (lv_at hl 5 rfl) ?_
  refine lv_aload_n hx hb dX5_aloneBits_10 rfl (lv_at hl 0 rfl) ?_
  refine r_giN E hw i 3 (N := 13) (C := RX6) (T := TX6) (st_lt hs_i) (st_c hs_i) (st_N hs_i) (by decide) (st_n hs_i (k := 3) (by decide)) iw_6 rfl lf_RX5_21 dX5_aloneBits_11 ?_
  refine lv_icmp_ge (tgt := 47) hx hb dX5_aloneBits_14 (by decide) (fun c7 => ?_) (fun c7 => ?_)
  · rw [if_pos c7] at h
    refine lv_iload_n hx hb dX5_aloneBits_47 rfl (lv_at hl 3 rfl) ?_
    refine lv_iload hx hb dX5_aloneBits_48 (lv_at hl 4 rfl) ?_
    refine lv_iconst (v := (-1 : Int32)) hx hb dX5_aloneBits_50 (by decide) ?_
    refine lv_ixor hx hb dX5_aloneBits_51 ?_
    refine lv_iand hx hb dX5_aloneBits_52 ?_
    rw [kr ((u3 &&& (u4 ^^^ (-1 : Int32))), V) (Option.some.inj h).symm]
    exact r_ri E hw dX5_aloneBits_53
  · rw [if_neg c7] at h
    refine lv_aload_n hx hb dX5_aloneBits_17 rfl (lv_at hl 0 rfl) ?_
    refine lv_aload_n hx hb dX5_aloneBits_18 rfl (lv_at hl 1 rfl) ?_
    refine lv_iload hx hb dX5_aloneBits_19 (lv_at hl 5 rfl) ?_
    refine lv_iload_n hx hb dX5_aloneBits_21 rfl (lv_at hl 2 rfl) ?_
    obtain ⟨y2, V3, h1, h⟩ := ob_I_some h
    refine c_SI E hw (kX5_placeBits (l := l) (G := G) hB hs_i h1) yy_X5_placeBits lm_RX5_34 rfl hl.1 (by decide) (by decide) rfl (Nat.le_of_ble_eq_true rfl) dX5_aloneBits_22 (fun H locs hw => ?_)
    refine lv_istore (lv' := [(6, .int y2), (0, .ref (G.2.2 i)), (1, .ref (G.2.2 17)), (2, .int u2), (3, .int u3), (4, .int u4), (5, .int u5)]) hx hb dX5_aloneBits_25 hl (by decide) rfl (fun ls hl => ?_)
    refine lv_iload hx hb dX5_aloneBits_27 (lv_at hl 5 rfl) ?_
    refine lv_iload_n hx hb dX5_aloneBits_29 rfl (lv_at hl 4 rfl) ?_
    refine lv_iload hx hb dX5_aloneBits_30 (lv_at hl 0 rfl) ?_
    refine lv_iand hx hb dX5_aloneBits_32 ?_
    refine lv_ior hx hb dX5_aloneBits_33 ?_
    obtain ⟨y4, ey4, h⟩ := lt_some h
    refine lv_eqi ey4 ?_
    refine lv_istore (lv' := [(4, .int y4), (6, .int y2), (0, .ref (G.2.2 i)), (1, .ref (G.2.2 17)), (2, .int u2), (3, .int u3), (5, .int u5)]) hx hb dX5_aloneBits_34 hl (by decide) rfl (fun ls hl => ?_)
    refine lv_iload_n hx hb dX5_aloneBits_36 rfl (lv_at hl 5 rfl) ?_
    refine lv_iload hx hb dX5_aloneBits_37 (lv_at hl 1 rfl) ?_
    refine lv_ior hx hb dX5_aloneBits_39 ?_
    obtain ⟨y5, ey5, h⟩ := lt_some h
    refine lv_eqi ey5 ?_
    refine lv_istore_n (lv' := [(3, .int y5), (4, .int y4), (6, .int y2), (0, .ref (G.2.2 i)), (1, .ref (G.2.2 17)), (2, .int u2), (5, .int u5)]) hx hb dX5_aloneBits_40 rfl hl (by decide) rfl (fun ls hl => ?_)
    obtain ⟨y6, ey6, h⟩ := lt_some h
    refine lv_iinc (v := y6) (lv' := [(5, .int y6), (3, .int y5), (4, .int y4), (6, .int y2), (0, .ref (G.2.2 i)), (1, .ref (G.2.2 17)), (2, .int u2)]) hx hb dX5_aloneBits_41 hl (k := 6) rfl (by rw [ey6]; rfl) (by decide) rfl (fun ls hl => ?_)
    refine lv_goto (tgt := 8) hx hb dX5_aloneBits_44 (by decide) ?_
    exact kc (V3, u2, y5, y4, y6) (Option.some.inj h).symm H locs ls hw (lv_sub hl [4, 5, 6, 1, 2, 0] rfl)
set_option maxHeartbeats 4000000 in
set_option maxRecDepth 100000 in
theorem kX5_aloneBits {l : Launch} {G : GT} {B : BGt} (hB : BGok B) {V : VT} {i : Nat} (hs_i : isSt i) {x1 : Int32} {r : (Int32 × VT)} (h : fX5_aloneBits V i x1 = some r) : CI l G B yX5_aloneBits (.code yX5_aloneBits cX5_aloneBits 7 (some .int)) 6 [.ref (G.2.2 i), .ref (G.2.2 17), .int x1] V r.1 r.2 := by
  intro sz
  refine met_of (Qs := fun sz => QI G sz (r.1) (r.2)) hB (by decide) (Nat.le_of_ble_eq_true rfl) ?_ sz
  intro p e s m args below meth c ls E hw hl
  have hx := en_x E
  have hb := en_b E
  generalize hQ : MQ _ _ _ _ _ _ _ = Q
  have kr : Q = MQ below (QI G s.heap.size r.1 r.2) args s 0 0 (gA G s.heap.size) := hQ.symm
  have hl : lv_has ls 7 [(0, .ref (G.2.2 i)), (1, .ref (G.2.2 17)), (2, .int x1)] := hl
  obtain ⟨H, eH⟩ : ∃ H, H = s.heap := ⟨_, rfl⟩
  obtain ⟨locs, elocs⟩ : ∃ z : List Loc, z = [] := ⟨_, rfl⟩
  have hw : HW G s.heap V H locs := by rw [eH, elocs]; exact hw
  show W p l e _ s m args below meth c s.heap [] 0 0 Q (F0 m 0 ls [])
  rw [← eH, ← elocs]
  unfold fX5_aloneBits at h
  refine lv_iconst (v := (0 : Int32)) hx hb dX5_aloneBits_0 (by decide) ?_
  refine lv_istore_n (lv' := [(3, .int (0 : Int32)), (0, .ref (G.2.2 i)), (1, .ref (G.2.2 17)), (2, .int x1)]) hx hb dX5_aloneBits_1 rfl hl (by decide) rfl (fun ls hl => ?_)
  refine lv_iconst (v := (0 : Int32)) hx hb dX5_aloneBits_2 (by decide) ?_
  refine lv_istore (lv' := [(4, .int (0 : Int32)), (3, .int (0 : Int32)), (0, .ref (G.2.2 i)), (1, .ref (G.2.2 17)), (2, .int x1)]) hx hb dX5_aloneBits_3 hl (by decide) rfl (fun ls hl => ?_)
  refine lv_iconst (v := (0 : Int32)) hx hb dX5_aloneBits_5 (by decide) ?_
  refine lv_istore (lv' := [(5, .int (0 : Int32)), (4, .int (0 : Int32)), (3, .int (0 : Int32)), (0, .ref (G.2.2 i)), (1, .ref (G.2.2 17)), (2, .int x1)]) hx hb dX5_aloneBits_6 hl (by decide) rfl (fun ls hl => ?_)
  obtain ⟨x9, h8, h⟩ := ob_R_some h
  have h := Option.some.inj h
  subst h
  exact wX5_aloneBits_L8 E hs_i (fun q e => by subst e; exact kr) FV (V, x1, (0 : Int32), (0 : Int32), (0 : Int32)) h8 H locs ls hw (lv_sub hl [3, 4, 5, 2, 1, 0] rfl)
/-! ===== AllSawIt$Sight.sightsOf(LAllSawIt$State;LAllSawIt$Law;I)I ===== -/
theorem dX5_sightsOf_0 : decode cX5_sightsOf 0 = .ok (.iconst 0, 1) := by decide +kernel
theorem dX5_sightsOf_1 : decode cX5_sightsOf 1 = .ok (.istore_n 3, 1) := by decide +kernel
theorem dX5_sightsOf_2 : decode cX5_sightsOf 2 = .ok (.iconst 0, 1) := by decide +kernel
theorem dX5_sightsOf_3 : decode cX5_sightsOf 3 = .ok (.istore 4, 2) := by decide +kernel
theorem dX5_sightsOf_5 : decode cX5_sightsOf 5 = .ok (.iload 4, 2) := by decide +kernel
theorem dX5_sightsOf_7 : decode cX5_sightsOf 7 = .ok (.bipush 24, 2) := by decide +kernel
theorem dX5_sightsOf_9 : decode cX5_sightsOf 9 = .ok (.if_icmp .ge 23, 3) := by decide +kernel
theorem dX5_sightsOf_12 : decode cX5_sightsOf 12 = .ok (.iload_n 3, 1) := by decide +kernel
theorem dX5_sightsOf_13 : decode cX5_sightsOf 13 = .ok (.aload_n 0, 1) := by decide +kernel
theorem dX5_sightsOf_14 : decode cX5_sightsOf 14 = .ok (.aload_n 1, 1) := by decide +kernel
theorem dX5_sightsOf_15 : decode cX5_sightsOf 15 = .ok (.iload_n 2, 1) := by decide +kernel
theorem dX5_sightsOf_16 : decode cX5_sightsOf 16 = .ok (.iload 4, 2) := by decide +kernel
theorem dX5_sightsOf_18 : decode cX5_sightsOf 18 = .ok (.invokestatic 34, 3) := by decide +kernel
theorem dX5_sightsOf_21 : decode cX5_sightsOf 21 = .ok (.invokestatic 38, 3) := by decide +kernel
theorem dX5_sightsOf_24 : decode cX5_sightsOf 24 = .ok (.iadd, 1) := by decide +kernel
theorem dX5_sightsOf_25 : decode cX5_sightsOf 25 = .ok (.istore_n 3, 1) := by decide +kernel
theorem dX5_sightsOf_26 : decode cX5_sightsOf 26 = .ok (.iinc 4 1, 3) := by decide +kernel
theorem dX5_sightsOf_29 : decode cX5_sightsOf 29 = .ok (.goto (-24), 3) := by decide +kernel
theorem dX5_sightsOf_32 : decode cX5_sightsOf 32 = .ok (.iload_n 3, 1) := by decide +kernel
theorem dX5_sightsOf_33 : decode cX5_sightsOf 33 = .ok (.ireturn, 1) := by decide +kernel
noncomputable def fX5_sightsOf_L5 (V : VT) (i : Nat) (u2 : Int32) (u3 : Int32) (u4 : Int32) : Option ((VT × Int32 × Int32 × Int32) ⊕ (Int32 × VT)) := if (24 : Int32) ≤ u4 then (some (.inr ((u3, V)))) else (ob_I (fX5_placeBits V i u2 u4) fun y2 V3 => ob_R (fJ6_bitCount_0f7a4 V3 y2) fun y5 => lt_ (u3 + y5) fun y6 => lt_ (u4 + (1 : Int32)) fun y7 => some (.inl (V3, u2, y6, y7)))
noncomputable def iX5_sightsOf_L5 (i : Nat) : (VT × Int32 × Int32 × Int32) → Option ((VT × Int32 × Int32 × Int32) ⊕ (Int32 × VT)) := fun q => fX5_sightsOf_L5 (q.1) i (q.2.1) (q.2.2.1) (q.2.2.2)
noncomputable def fX5_sightsOf (V : VT) (i : Nat) (x1 : Int32) : Option (Int32 × VT) := ob_R (it_ (iX5_sightsOf_L5 i) FV (V, x1, (0 : Int32), (0 : Int32))) fun x10 => some x10
set_option maxHeartbeats 4000000 in
set_option maxRecDepth 100000 in
theorem wX5_sightsOf_L5 {p : Program} {l : Launch} {e : Env} {s : State} {m : MethodId} {args : Array Value} {below : List Frame} {meth : Method} {c : Code} {G : GT} {B : BGt} {Q : State → Prop} (E : En p s m args c meth cX5_sightsOf 5 RX5 (some .int) G B) {i : Nat} (hs_i : isSt i) {x : (Int32 × VT)} (kr : ∀ q : (Int32 × VT), x = q → Q = MQ below (QI G s.heap.size q.1 q.2) args s 0 0 (gA G s.heap.size)) : ∀ (n : Nat) (q : (VT × Int32 × Int32 × Int32)), it_ (iX5_sightsOf_L5 i) n q = some x → ∀ (H : Heap) (locs : List Loc) (ls : Array Slot), HW G s.heap (q.1) H locs → lv_has ls 5 [(0, .ref (G.2.2 i)), (1, .ref (G.2.2 17)), (2, .int (q.2.1)), (3, .int (q.2.2.1)), (4, .int (q.2.2.2))] → W p l e (rmD 6) s m args below meth c H locs 0 0 Q (F0 m 5 ls []) := by
  have hx := en_x E
  have hb := en_b E
  have hB := en_B E
  refine it_W (fun q : (VT × Int32 × Int32 × Int32) => ∀ (H : Heap) (locs : List Loc) (ls : Array Slot), HW G s.heap (q.1) H locs → lv_has ls 5 [(0, .ref (G.2.2 i)), (1, .ref (G.2.2 17)), (2, .int (q.2.1)), (3, .int (q.2.2.1)), (4, .int (q.2.2.2))] → W p l e (rmD 6) s m args below meth c H locs 0 0 Q (F0 m 5 ls [])) x ?_
  intro q r h kc kx
  obtain ⟨V, u2, u3, u4⟩ := q
  intro H locs ls hw hl
  have h : fX5_sightsOf_L5 V i u2 u3 u4 = some r := h
  have hw : HW G s.heap V H locs := hw
  have hl : lv_has ls 5 [(0, .ref (G.2.2 i)), (1, .ref (G.2.2 17)), (2, .int u2), (3, .int u3), (4, .int u4)] := hl
  have kr : ∀ q : (Int32 × VT), r = .inr (q) → Q = MQ below (QI G s.heap.size q.1 q.2) args s 0 0 (gA G s.heap.size) := fun q e => kr q (kx _ e).symm
  unfold fX5_sightsOf_L5 at h
  refine lv_iload hx hb dX5_sightsOf_5 (lv_at hl 4 rfl) ?_
  refine lv_bipush (v := (24 : Int32)) hx hb dX5_sightsOf_7 (by decide) ?_
  refine lv_icmp_ge (tgt := 32) hx hb dX5_sightsOf_9 (by decide) (fun c8 => ?_) (fun c8 => ?_)
  · rw [if_pos c8] at h
    refine lv_iload_n hx hb dX5_sightsOf_32 rfl (lv_at hl 3 rfl) ?_
    rw [kr (u3, V) (Option.some.inj h).symm]
    exact r_ri E hw dX5_sightsOf_33
  · rw [if_neg c8] at h
    refine lv_iload_n hx hb dX5_sightsOf_12 rfl (lv_at hl 3 rfl) ?_
    refine lv_aload_n hx hb dX5_sightsOf_13 rfl (lv_at hl 0 rfl) ?_
    refine lv_aload_n hx hb dX5_sightsOf_14 rfl (lv_at hl 1 rfl) ?_
    refine lv_iload_n hx hb dX5_sightsOf_15 rfl (lv_at hl 2 rfl) ?_
    refine lv_iload hx hb dX5_sightsOf_16 (lv_at hl 4 rfl) ?_
    obtain ⟨y2, V3, h1, h⟩ := ob_I_some h
    refine c_SI E hw (kX5_placeBits (l := l) (G := G) hB hs_i h1) yy_X5_placeBits lm_RX5_34 rfl hl.1 (by decide) (by decide) rfl (Nat.le_of_ble_eq_true rfl) dX5_sightsOf_18 (fun H locs hw => ?_)
    obtain ⟨y5, h4, h⟩ := ob_R_some h
    refine c_SI E hw (kJ6_bitCount_0f7a4 (l := l) (G := G) hB  h4) yy_J6_bitCount_0f7a4 lm_RX5_38 rfl hl.1 (by decide) (by decide) rfl (Nat.le_of_ble_eq_true rfl) dX5_sightsOf_21 (fun H locs hw => ?_)
    refine lv_iadd hx hb dX5_sightsOf_24 ?_
    obtain ⟨y6, ey6, h⟩ := lt_some h
    refine lv_eqi ey6 ?_
    refine lv_istore_n (lv' := [(3, .int y6), (0, .ref (G.2.2 i)), (1, .ref (G.2.2 17)), (2, .int u2), (4, .int u4)]) hx hb dX5_sightsOf_25 rfl hl (by decide) rfl (fun ls hl => ?_)
    obtain ⟨y7, ey7, h⟩ := lt_some h
    refine lv_iinc (v := y7) (lv' := [(4, .int y7), (3, .int y6), (0, .ref (G.2.2 i)), (1, .ref (G.2.2 17)), (2, .int u2)]) hx hb dX5_sightsOf_26 hl (k := 4) rfl (by rw [ey7]; rfl) (by decide) rfl (fun ls hl => ?_)
    refine lv_goto (tgt := 5) hx hb dX5_sightsOf_29 (by decide) ?_
    exact kc (V3, u2, y6, y7) (Option.some.inj h).symm H locs ls hw (lv_sub hl [2, 3, 4, 1, 0] rfl)
set_option maxHeartbeats 4000000 in
set_option maxRecDepth 100000 in
theorem kX5_sightsOf {l : Launch} {G : GT} {B : BGt} (hB : BGok B) {V : VT} {i : Nat} (hs_i : isSt i) {x1 : Int32} {r : (Int32 × VT)} (h : fX5_sightsOf V i x1 = some r) : CI l G B yX5_sightsOf (.code yX5_sightsOf cX5_sightsOf 5 (some .int)) 6 [.ref (G.2.2 i), .ref (G.2.2 17), .int x1] V r.1 r.2 := by
  intro sz
  refine met_of (Qs := fun sz => QI G sz (r.1) (r.2)) hB (by decide) (Nat.le_of_ble_eq_true rfl) ?_ sz
  intro p e s m args below meth c ls E hw hl
  have hx := en_x E
  have hb := en_b E
  generalize hQ : MQ _ _ _ _ _ _ _ = Q
  have kr : Q = MQ below (QI G s.heap.size r.1 r.2) args s 0 0 (gA G s.heap.size) := hQ.symm
  have hl : lv_has ls 5 [(0, .ref (G.2.2 i)), (1, .ref (G.2.2 17)), (2, .int x1)] := hl
  obtain ⟨H, eH⟩ : ∃ H, H = s.heap := ⟨_, rfl⟩
  obtain ⟨locs, elocs⟩ : ∃ z : List Loc, z = [] := ⟨_, rfl⟩
  have hw : HW G s.heap V H locs := by rw [eH, elocs]; exact hw
  show W p l e _ s m args below meth c s.heap [] 0 0 Q (F0 m 0 ls [])
  rw [← eH, ← elocs]
  unfold fX5_sightsOf at h
  refine lv_iconst (v := (0 : Int32)) hx hb dX5_sightsOf_0 (by decide) ?_
  refine lv_istore_n (lv' := [(3, .int (0 : Int32)), (0, .ref (G.2.2 i)), (1, .ref (G.2.2 17)), (2, .int x1)]) hx hb dX5_sightsOf_1 rfl hl (by decide) rfl (fun ls hl => ?_)
  refine lv_iconst (v := (0 : Int32)) hx hb dX5_sightsOf_2 (by decide) ?_
  refine lv_istore (lv' := [(4, .int (0 : Int32)), (3, .int (0 : Int32)), (0, .ref (G.2.2 i)), (1, .ref (G.2.2 17)), (2, .int x1)]) hx hb dX5_sightsOf_3 hl (by decide) rfl (fun ls hl => ?_)
  obtain ⟨x10, h9, h⟩ := ob_R_some h
  have h := Option.some.inj h
  subst h
  exact wX5_sightsOf_L5 E hs_i (fun q e => by subst e; exact kr) FV (V, x1, (0 : Int32), (0 : Int32)) h9 H locs ls hw (lv_sub hl [2, 3, 4, 1, 0] rfl)
/-! ===== AllSawIt$Sight.bestSpot(LAllSawIt$State;LAllSawIt$Law;)I ===== -/
theorem dX5_bestSpot_0 : decode cX5_bestSpot 0 = .ok (.iconst (-1), 1) := by decide +kernel
theorem dX5_bestSpot_1 : decode cX5_bestSpot 1 = .ok (.istore_n 2, 1) := by decide +kernel
theorem dX5_bestSpot_2 : decode cX5_bestSpot 2 = .ok (.iconst (-1), 1) := by decide +kernel
theorem dX5_bestSpot_3 : decode cX5_bestSpot 3 = .ok (.istore_n 3, 1) := by decide +kernel
theorem dX5_bestSpot_4 : decode cX5_bestSpot 4 = .ok (.iconst 0, 1) := by decide +kernel
theorem dX5_bestSpot_5 : decode cX5_bestSpot 5 = .ok (.istore 4, 2) := by decide +kernel
theorem dX5_bestSpot_7 : decode cX5_bestSpot 7 = .ok (.iload 4, 2) := by decide +kernel
theorem dX5_bestSpot_9 : decode cX5_bestSpot 9 = .ok (.bipush 24, 2) := by decide +kernel
theorem dX5_bestSpot_11 : decode cX5_bestSpot 11 = .ok (.if_icmp .ge 57, 3) := by decide +kernel
theorem dX5_bestSpot_14 : decode cX5_bestSpot 14 = .ok (.iconst 0, 1) := by decide +kernel
theorem dX5_bestSpot_15 : decode cX5_bestSpot 15 = .ok (.istore 5, 2) := by decide +kernel
theorem dX5_bestSpot_17 : decode cX5_bestSpot 17 = .ok (.iload 5, 2) := by decide +kernel
theorem dX5_bestSpot_19 : decode cX5_bestSpot 19 = .ok (.bipush 24, 2) := by decide +kernel
theorem dX5_bestSpot_21 : decode cX5_bestSpot 21 = .ok (.if_icmp .ge 41, 3) := by decide +kernel
theorem dX5_bestSpot_24 : decode cX5_bestSpot 24 = .ok (.aload_n 0, 1) := by decide +kernel
theorem dX5_bestSpot_25 : decode cX5_bestSpot 25 = .ok (.aload_n 1, 1) := by decide +kernel
theorem dX5_bestSpot_26 : decode cX5_bestSpot 26 = .ok (.iload 5, 2) := by decide +kernel
theorem dX5_bestSpot_28 : decode cX5_bestSpot 28 = .ok (.iload 4, 2) := by decide +kernel
theorem dX5_bestSpot_30 : decode cX5_bestSpot 30 = .ok (.invokestatic 44, 3) := by decide +kernel
theorem dX5_bestSpot_33 : decode cX5_bestSpot 33 = .ok (.invokestatic 38, 3) := by decide +kernel
theorem dX5_bestSpot_36 : decode cX5_bestSpot 36 = .ok (.istore 6, 2) := by decide +kernel
theorem dX5_bestSpot_38 : decode cX5_bestSpot 38 = .ok (.iload 6, 2) := by decide +kernel
theorem dX5_bestSpot_40 : decode cX5_bestSpot 40 = .ok (.iload_n 2, 1) := by decide +kernel
theorem dX5_bestSpot_41 : decode cX5_bestSpot 41 = .ok (.if_icmp .le 15, 3) := by decide +kernel
theorem dX5_bestSpot_44 : decode cX5_bestSpot 44 = .ok (.iload 6, 2) := by decide +kernel
theorem dX5_bestSpot_46 : decode cX5_bestSpot 46 = .ok (.istore_n 2, 1) := by decide +kernel
theorem dX5_bestSpot_47 : decode cX5_bestSpot 47 = .ok (.bipush 100, 2) := by decide +kernel
theorem dX5_bestSpot_49 : decode cX5_bestSpot 49 = .ok (.iload 4, 2) := by decide +kernel
theorem dX5_bestSpot_51 : decode cX5_bestSpot 51 = .ok (.imul, 1) := by decide +kernel
theorem dX5_bestSpot_52 : decode cX5_bestSpot 52 = .ok (.iload 5, 2) := by decide +kernel
theorem dX5_bestSpot_54 : decode cX5_bestSpot 54 = .ok (.iadd, 1) := by decide +kernel
theorem dX5_bestSpot_55 : decode cX5_bestSpot 55 = .ok (.istore_n 3, 1) := by decide +kernel
theorem dX5_bestSpot_56 : decode cX5_bestSpot 56 = .ok (.iinc 5 1, 3) := by decide +kernel
theorem dX5_bestSpot_59 : decode cX5_bestSpot 59 = .ok (.goto (-42), 3) := by decide +kernel
theorem dX5_bestSpot_62 : decode cX5_bestSpot 62 = .ok (.iinc 4 1, 3) := by decide +kernel
theorem dX5_bestSpot_65 : decode cX5_bestSpot 65 = .ok (.goto (-58), 3) := by decide +kernel
theorem dX5_bestSpot_68 : decode cX5_bestSpot 68 = .ok (.iload_n 3, 1) := by decide +kernel
theorem dX5_bestSpot_69 : decode cX5_bestSpot 69 = .ok (.ireturn, 1) := by decide +kernel
noncomputable def fX5_bestSpot_L17 (V : VT) (i : Nat) (u2 : Int32) (u3 : Int32) (u4 : Int32) (u5 : Int32) : Option ((VT × Int32 × Int32 × Int32 × Int32) ⊕ (VT × Int32 × Int32 × Int32)) := if (24 : Int32) ≤ u5 then (some (.inr ((V, u2, u3, u4)))) else (ob_I (fX5_witnessBits V i u5 u4) fun y2 V3 => ob_R (fJ6_bitCount_0f7a4 V3 y2) fun y5 => if y5 ≤ u2 then (lt_ (u5 + (1 : Int32)) fun y6 => some (.inl (V3, u2, u3, u4, y6))) else (lt_ (((100 : Int32) * u4) + u5) fun y7 => lt_ (u5 + (1 : Int32)) fun y8 => some (.inl (V3, y5, y7, u4, y8))))
noncomputable def iX5_bestSpot_L17 (i : Nat) : (VT × Int32 × Int32 × Int32 × Int32) → Option ((VT × Int32 × Int32 × Int32 × Int32) ⊕ (VT × Int32 × Int32 × Int32)) := fun q => fX5_bestSpot_L17 (q.1) i (q.2.1) (q.2.2.1) (q.2.2.2.1) (q.2.2.2.2)
noncomputable def fX5_bestSpot_L7 (V : VT) (i : Nat) (u2 : Int32) (u3 : Int32) (u4 : Int32) : Option ((VT × Int32 × Int32 × Int32) ⊕ (Int32 × VT)) := if (24 : Int32) ≤ u4 then (some (.inr ((u3, V)))) else (ob_R (it_ (iX5_bestSpot_L17 i) FV (V, u2, u3, u4, (0 : Int32))) fun x12 => (dt4_ x12 fun V16 y13 y14 y15 => lt_ (y15 + (1 : Int32)) fun y17 => some (.inl (V16, y13, y14, y17))))
noncomputable def iX5_bestSpot_L7 (i : Nat) : (VT × Int32 × Int32 × Int32) → Option ((VT × Int32 × Int32 × Int32) ⊕ (Int32 × VT)) := fun q => fX5_bestSpot_L7 (q.1) i (q.2.1) (q.2.2.1) (q.2.2.2)
noncomputable def fX5_bestSpot (V : VT) (i : Nat) : Option (Int32 × VT) := ob_R (it_ (iX5_bestSpot_L7 i) FV (V, (-1 : Int32), (-1 : Int32), (0 : Int32))) fun x20 => some x20
set_option maxHeartbeats 4000000 in
set_option maxRecDepth 100000 in
theorem wX5_bestSpot_L17 {p : Program} {l : Launch} {e : Env} {s : State} {m : MethodId} {args : Array Value} {below : List Frame} {meth : Method} {c : Code} {G : GT} {B : BGt} {Q : State → Prop} (E : En p s m args c meth cX5_bestSpot 7 RX5 (some .int) G B) {i : Nat} (hs_i : isSt i) {x : (VT × Int32 × Int32 × Int32)} (ke : ∀ q : (VT × Int32 × Int32 × Int32), x = q → ∀ (H : Heap) (locs : List Loc) (ls : Array Slot), HW G s.heap (q.1) H locs → lv_has ls 7 [(0, .ref (G.2.2 i)), (1, .ref (G.2.2 17)), (2, .int (q.2.1)), (3, .int (q.2.2.1)), (4, .int (q.2.2.2))] → W p l e (rmD 6) s m args below meth c H locs 0 0 Q (F0 m 62 ls [])) : ∀ (n : Nat) (q : (VT × Int32 × Int32 × Int32 × Int32)), it_ (iX5_bestSpot_L17 i) n q = some x → ∀ (H : Heap) (locs : List Loc) (ls : Array Slot), HW G s.heap (q.1) H locs → lv_has ls 7 [(0, .ref (G.2.2 i)), (1, .ref (G.2.2 17)), (2, .int (q.2.1)), (3, .int (q.2.2.1)), (4, .int (q.2.2.2.1)), (5, .int (q.2.2.2.2))] → W p l e (rmD 6) s m args below meth c H locs 0 0 Q (F0 m 17 ls []) := by
  have hx := en_x E
  have hb := en_b E
  have hB := en_B E
  refine it_W (fun q : (VT × Int32 × Int32 × Int32 × Int32) => ∀ (H : Heap) (locs : List Loc) (ls : Array Slot), HW G s.heap (q.1) H locs → lv_has ls 7 [(0, .ref (G.2.2 i)), (1, .ref (G.2.2 17)), (2, .int (q.2.1)), (3, .int (q.2.2.1)), (4, .int (q.2.2.2.1)), (5, .int (q.2.2.2.2))] → W p l e (rmD 6) s m args below meth c H locs 0 0 Q (F0 m 17 ls [])) x ?_
  intro q r h kc kx
  obtain ⟨V, u2, u3, u4, u5⟩ := q
  intro H locs ls hw hl
  have h : fX5_bestSpot_L17 V i u2 u3 u4 u5 = some r := h
  have hw : HW G s.heap V H locs := hw
  have hl : lv_has ls 7 [(0, .ref (G.2.2 i)), (1, .ref (G.2.2 17)), (2, .int u2), (3, .int u3), (4, .int u4), (5, .int u5)] := hl
  have ke : ∀ q : (VT × Int32 × Int32 × Int32), r = .inr (q) → ∀ (H : Heap) (locs : List Loc) (ls : Array Slot), HW G s.heap (q.1) H locs → lv_has ls 7 [(0, .ref (G.2.2 i)), (1, .ref (G.2.2 17)), (2, .int (q.2.1)), (3, .int (q.2.2.1)), (4, .int (q.2.2.2))] → W p l e (rmD 6) s m args below meth c H locs 0 0 Q (F0 m 62 ls []) := fun q e => ke q (kx _ e).symm
  unfold fX5_bestSpot_L17 at h
  refine lv_iload hx hb dX5_bestSpot_17 (lv_at hl 5 rfl) ?_
  refine lv_bipush (v := (24 : Int32)) hx hb dX5_bestSpot_19 (by decide) ?_
  refine lv_icmp_ge (tgt := 62) hx hb dX5_bestSpot_21 (by decide) (fun c10 => ?_) (fun c10 => ?_)
  · rw [if_pos c10] at h
    exact ke (V, u2, u3, u4) (Option.some.inj h).symm H locs ls hw (lv_sub hl [0, 1, 2, 3, 4] rfl)
  · rw [if_neg c10] at h
    refine lv_aload_n hx hb dX5_bestSpot_24 rfl (lv_at hl 0 rfl) ?_
    refine lv_aload_n hx hb dX5_bestSpot_25 rfl (lv_at hl 1 rfl) ?_
    refine lv_iload hx hb dX5_bestSpot_26 (lv_at hl 5 rfl) ?_
    refine lv_iload hx hb dX5_bestSpot_28 (lv_at hl 4 rfl) ?_
    obtain ⟨y2, V3, h1, h⟩ := ob_I_some h
    refine c_SI E hw (kX5_witnessBits (l := l) (G := G) hB hs_i h1) yy_X5_witnessBits lm_RX5_44 rfl hl.1 (by decide) (by decide) rfl (Nat.le_of_ble_eq_true rfl) dX5_bestSpot_30 (fun H locs hw => ?_)
    obtain ⟨y5, h4, h⟩ := ob_R_some h
    refine c_SI E hw (kJ6_bitCount_0f7a4 (l := l) (G := G) hB  h4) yy_J6_bitCount_0f7a4 lm_RX5_38 rfl hl.1 (by decide) (by decide) rfl (Nat.le_of_ble_eq_true rfl) dX5_bestSpot_33 (fun H locs hw => ?_)
    refine lv_istore (lv' := [(6, .int y5), (0, .ref (G.2.2 i)), (1, .ref (G.2.2 17)), (2, .int u2), (3, .int u3), (4, .int u4), (5, .int u5)]) hx hb dX5_bestSpot_36 hl (by decide) rfl (fun ls hl => ?_)
    refine lv_iload hx hb dX5_bestSpot_38 (lv_at hl 0 rfl) ?_
    refine lv_iload_n hx hb dX5_bestSpot_40 rfl (lv_at hl 3 rfl) ?_
    refine lv_icmp_le (tgt := 56) hx hb dX5_bestSpot_41 (by decide) (fun c9 => ?_) (fun c9 => ?_)
    · rw [if_pos c9] at h
      obtain ⟨y6, ey6, h⟩ := lt_some h
      refine lv_iinc (v := y6) (lv' := [(5, .int y6), (6, .int y5), (0, .ref (G.2.2 i)), (1, .ref (G.2.2 17)), (2, .int u2), (3, .int u3), (4, .int u4)]) hx hb dX5_bestSpot_56 hl (k := 6) rfl (by rw [ey6]; rfl) (by decide) rfl (fun ls hl => ?_)
      refine lv_goto (tgt := 17) hx hb dX5_bestSpot_59 (by decide) ?_
      exact kc (V3, u2, u3, u4, y6) (Option.some.inj h).symm H locs ls hw (lv_sub hl [2, 3, 4, 5, 6, 0] rfl)
    · rw [if_neg c9] at h
      refine lv_iload hx hb dX5_bestSpot_44 (lv_at hl 0 rfl) ?_
      refine lv_istore_n (lv' := [(2, .int y5), (6, .int y5), (0, .ref (G.2.2 i)), (1, .ref (G.2.2 17)), (3, .int u3), (4, .int u4), (5, .int u5)]) hx hb dX5_bestSpot_46 rfl hl (by decide) rfl (fun ls hl => ?_)
      refine lv_bipush (v := (100 : Int32)) hx hb dX5_bestSpot_47 (by decide) ?_
      refine lv_iload hx hb dX5_bestSpot_49 (lv_at hl 5 rfl) ?_
      refine lv_imul hx hb dX5_bestSpot_51 ?_
      refine lv_iload hx hb dX5_bestSpot_52 (lv_at hl 6 rfl) ?_
      refine lv_iadd hx hb dX5_bestSpot_54 ?_
      obtain ⟨y7, ey7, h⟩ := lt_some h
      refine lv_eqi ey7 ?_
      refine lv_istore_n (lv' := [(3, .int y7), (2, .int y5), (6, .int y5), (0, .ref (G.2.2 i)), (1, .ref (G.2.2 17)), (4, .int u4), (5, .int u5)]) hx hb dX5_bestSpot_55 rfl hl (by decide) rfl (fun ls hl => ?_)
      obtain ⟨y8, ey8, h⟩ := lt_some h
      refine lv_iinc (v := y8) (lv' := [(5, .int y8), (3, .int y7), (2, .int y5), (6, .int y5), (0, .ref (G.2.2 i)), (1, .ref (G.2.2 17)), (4, .int u4)]) hx hb dX5_bestSpot_56 hl (k := 6) rfl (by rw [ey8]; rfl) (by decide) rfl (fun ls hl => ?_)
      refine lv_goto (tgt := 17) hx hb dX5_bestSpot_59 (by decide) ?_
      exact kc (V3, y5, y7, u4, y8) (Option.some.inj h).symm H locs ls hw (lv_sub hl [4, 5, 2, 1, 6, 0] rfl)
set_option maxHeartbeats 4000000 in
set_option maxRecDepth 100000 in
theorem wX5_bestSpot_L7 {p : Program} {l : Launch} {e : Env} {s : State} {m : MethodId} {args : Array Value} {below : List Frame} {meth : Method} {c : Code} {G : GT} {B : BGt} {Q : State → Prop} (E : En p s m args c meth cX5_bestSpot 7 RX5 (some .int) G B) {i : Nat} (hs_i : isSt i) {x : (Int32 × VT)} (kr : ∀ q : (Int32 × VT), x = q → Q = MQ below (QI G s.heap.size q.1 q.2) args s 0 0 (gA G s.heap.size)) : ∀ (n : Nat) (q : (VT × Int32 × Int32 × Int32)), it_ (iX5_bestSpot_L7 i) n q = some x → ∀ (H : Heap) (locs : List Loc) (ls : Array Slot), HW G s.heap (q.1) H locs → lv_has ls 7 [(0, .ref (G.2.2 i)), (1, .ref (G.2.2 17)), (2, .int (q.2.1)), (3, .int (q.2.2.1)), (4, .int (q.2.2.2))] → W p l e (rmD 6) s m args below meth c H locs 0 0 Q (F0 m 7 ls []) := by
  have hx := en_x E
  have hb := en_b E
  have hB := en_B E
  refine it_W (fun q : (VT × Int32 × Int32 × Int32) => ∀ (H : Heap) (locs : List Loc) (ls : Array Slot), HW G s.heap (q.1) H locs → lv_has ls 7 [(0, .ref (G.2.2 i)), (1, .ref (G.2.2 17)), (2, .int (q.2.1)), (3, .int (q.2.2.1)), (4, .int (q.2.2.2))] → W p l e (rmD 6) s m args below meth c H locs 0 0 Q (F0 m 7 ls [])) x ?_
  intro q r h kc kx
  obtain ⟨V, u2, u3, u4⟩ := q
  intro H locs ls hw hl
  have h : fX5_bestSpot_L7 V i u2 u3 u4 = some r := h
  have hw : HW G s.heap V H locs := hw
  have hl : lv_has ls 7 [(0, .ref (G.2.2 i)), (1, .ref (G.2.2 17)), (2, .int u2), (3, .int u3), (4, .int u4)] := hl
  have kr : ∀ q : (Int32 × VT), r = .inr (q) → Q = MQ below (QI G s.heap.size q.1 q.2) args s 0 0 (gA G s.heap.size) := fun q e => kr q (kx _ e).symm
  unfold fX5_bestSpot_L7 at h
  refine lv_iload hx hb dX5_bestSpot_7 (lv_at hl 4 rfl) ?_
  refine lv_bipush (v := (24 : Int32)) hx hb dX5_bestSpot_9 (by decide) ?_
  refine lv_icmp_ge (tgt := 68) hx hb dX5_bestSpot_11 (by decide) (fun c18 => ?_) (fun c18 => ?_)
  · rw [if_pos c18] at h
    refine lv_iload_n hx hb dX5_bestSpot_68 rfl (lv_at hl 3 rfl) ?_
    rw [kr (u3, V) (Option.some.inj h).symm]
    exact r_ri E hw dX5_bestSpot_69
  · rw [if_neg c18] at h
    refine lv_iconst (v := (0 : Int32)) hx hb dX5_bestSpot_14 (by decide) ?_
    refine lv_istore (lv' := [(5, .int (0 : Int32)), (0, .ref (G.2.2 i)), (1, .ref (G.2.2 17)), (2, .int u2), (3, .int u3), (4, .int u4)]) hx hb dX5_bestSpot_15 hl (by decide) rfl (fun ls hl => ?_)
    obtain ⟨x12, h11, h⟩ := ob_R_some h
    obtain ⟨V16, y13, y14, y15⟩ := x12
    refine wX5_bestSpot_L17 E hs_i (fun q e H locs ls hw hl => ?_) FV (V, u2, u3, u4, (0 : Int32)) h11 H locs ls hw (lv_sub hl [1, 2, 3, 4, 5, 0] rfl)
    subst e
    have hw : HW G s.heap V16 H locs := hw
    have hl : lv_has ls 7 [(0, .ref (G.2.2 i)), (1, .ref (G.2.2 17)), (2, .int y13), (3, .int y14), (4, .int y15)] := hl
    have h := dt4_eq h
    obtain ⟨y17, ey17, h⟩ := lt_some h
    refine lv_iinc (v := y17) (lv' := [(4, .int y17), (0, .ref (G.2.2 i)), (1, .ref (G.2.2 17)), (2, .int y13), (3, .int y14)]) hx hb dX5_bestSpot_62 hl (k := 4) rfl (by rw [ey17]; rfl) (by decide) rfl (fun ls hl => ?_)
    refine lv_goto (tgt := 7) hx hb dX5_bestSpot_65 (by decide) ?_
    exact kc (V16, y13, y14, y17) (Option.some.inj h).symm H locs ls hw (lv_sub hl [1, 2, 3, 4, 0] rfl)
set_option maxHeartbeats 4000000 in
set_option maxRecDepth 100000 in
theorem kX5_bestSpot {l : Launch} {G : GT} {B : BGt} (hB : BGok B) {V : VT} {i : Nat} (hs_i : isSt i) {r : (Int32 × VT)} (h : fX5_bestSpot V i = some r) : CI l G B yX5_bestSpot (.code yX5_bestSpot cX5_bestSpot 7 (some .int)) 6 [.ref (G.2.2 i), .ref (G.2.2 17)] V r.1 r.2 := by
  intro sz
  refine met_of (Qs := fun sz => QI G sz (r.1) (r.2)) hB (by decide) (Nat.le_of_ble_eq_true rfl) ?_ sz
  intro p e s m args below meth c ls E hw hl
  have hx := en_x E
  have hb := en_b E
  generalize hQ : MQ _ _ _ _ _ _ _ = Q
  have kr : Q = MQ below (QI G s.heap.size r.1 r.2) args s 0 0 (gA G s.heap.size) := hQ.symm
  have hl : lv_has ls 7 [(0, .ref (G.2.2 i)), (1, .ref (G.2.2 17))] := hl
  obtain ⟨H, eH⟩ : ∃ H, H = s.heap := ⟨_, rfl⟩
  obtain ⟨locs, elocs⟩ : ∃ z : List Loc, z = [] := ⟨_, rfl⟩
  have hw : HW G s.heap V H locs := by rw [eH, elocs]; exact hw
  show W p l e _ s m args below meth c s.heap [] 0 0 Q (F0 m 0 ls [])
  rw [← eH, ← elocs]
  unfold fX5_bestSpot at h
  refine lv_iconst (v := (-1 : Int32)) hx hb dX5_bestSpot_0 (by decide) ?_
  refine lv_istore_n (lv' := [(2, .int (-1 : Int32)), (0, .ref (G.2.2 i)), (1, .ref (G.2.2 17))]) hx hb dX5_bestSpot_1 rfl hl (by decide) rfl (fun ls hl => ?_)
  refine lv_iconst (v := (-1 : Int32)) hx hb dX5_bestSpot_2 (by decide) ?_
  refine lv_istore_n (lv' := [(3, .int (-1 : Int32)), (2, .int (-1 : Int32)), (0, .ref (G.2.2 i)), (1, .ref (G.2.2 17))]) hx hb dX5_bestSpot_3 rfl hl (by decide) rfl (fun ls hl => ?_)
  refine lv_iconst (v := (0 : Int32)) hx hb dX5_bestSpot_4 (by decide) ?_
  refine lv_istore (lv' := [(4, .int (0 : Int32)), (3, .int (-1 : Int32)), (2, .int (-1 : Int32)), (0, .ref (G.2.2 i)), (1, .ref (G.2.2 17))]) hx hb dX5_bestSpot_5 hl (by decide) rfl (fun ls hl => ?_)
  obtain ⟨x20, h19, h⟩ := ob_R_some h
  have h := Option.some.inj h
  subst h
  exact wX5_bestSpot_L7 E hs_i (fun q e => by subst e; exact kr) FV (V, (-1 : Int32), (-1 : Int32), (0 : Int32)) h19 H locs ls hw (lv_sub hl [3, 4, 2, 1, 0] rfl)
/-! ===== AllSawIt$Sight.longestUnseen(LAllSawIt$State;LAllSawIt$Law;I)I ===== -/
theorem dX5_longestUnseen_0 : decode cX5_longestUnseen 0 = .ok (.iconst 0, 1) := by decide +kernel
theorem dX5_longestUnseen_1 : decode cX5_longestUnseen 1 = .ok (.istore_n 3, 1) := by decide +kernel
theorem dX5_longestUnseen_2 : decode cX5_longestUnseen 2 = .ok (.iconst 0, 1) := by decide +kernel
theorem dX5_longestUnseen_3 : decode cX5_longestUnseen 3 = .ok (.istore 4, 2) := by decide +kernel
theorem dX5_longestUnseen_5 : decode cX5_longestUnseen 5 = .ok (.iconst 0, 1) := by decide +kernel
theorem dX5_longestUnseen_6 : decode cX5_longestUnseen 6 = .ok (.istore 5, 2) := by decide +kernel
theorem dX5_longestUnseen_8 : decode cX5_longestUnseen 8 = .ok (.iload 5, 2) := by decide +kernel
theorem dX5_longestUnseen_10 : decode cX5_longestUnseen 10 = .ok (.bipush 48, 2) := by decide +kernel
theorem dX5_longestUnseen_12 : decode cX5_longestUnseen 12 = .ok (.if_icmp .ge 40, 3) := by decide +kernel
theorem dX5_longestUnseen_15 : decode cX5_longestUnseen 15 = .ok (.aload_n 0, 1) := by decide +kernel
theorem dX5_longestUnseen_16 : decode cX5_longestUnseen 16 = .ok (.aload_n 1, 1) := by decide +kernel
theorem dX5_longestUnseen_17 : decode cX5_longestUnseen 17 = .ok (.iload_n 2, 1) := by decide +kernel
theorem dX5_longestUnseen_18 : decode cX5_longestUnseen 18 = .ok (.iload 5, 2) := by decide +kernel
theorem dX5_longestUnseen_20 : decode cX5_longestUnseen 20 = .ok (.bipush 24, 2) := by decide +kernel
theorem dX5_longestUnseen_22 : decode cX5_longestUnseen 22 = .ok (.irem, 1) := by decide +kernel
theorem dX5_longestUnseen_23 : decode cX5_longestUnseen 23 = .ok (.invokestatic 44, 3) := by decide +kernel
theorem dX5_longestUnseen_26 : decode cX5_longestUnseen 26 = .ok (.ifCond .ne 10, 3) := by decide +kernel
theorem dX5_longestUnseen_29 : decode cX5_longestUnseen 29 = .ok (.iload 4, 2) := by decide +kernel
theorem dX5_longestUnseen_31 : decode cX5_longestUnseen 31 = .ok (.iconst 1, 1) := by decide +kernel
theorem dX5_longestUnseen_32 : decode cX5_longestUnseen 32 = .ok (.iadd, 1) := by decide +kernel
theorem dX5_longestUnseen_33 : decode cX5_longestUnseen 33 = .ok (.goto 4, 3) := by decide +kernel
theorem dX5_longestUnseen_36 : decode cX5_longestUnseen 36 = .ok (.iconst 0, 1) := by decide +kernel
theorem dX5_longestUnseen_37 : decode cX5_longestUnseen 37 = .ok (.istore 4, 2) := by decide +kernel
theorem dX5_longestUnseen_39 : decode cX5_longestUnseen 39 = .ok (.iload_n 3, 1) := by decide +kernel
theorem dX5_longestUnseen_40 : decode cX5_longestUnseen 40 = .ok (.iload 4, 2) := by decide +kernel
theorem dX5_longestUnseen_42 : decode cX5_longestUnseen 42 = .ok (.invokestatic 47, 3) := by decide +kernel
theorem dX5_longestUnseen_45 : decode cX5_longestUnseen 45 = .ok (.istore_n 3, 1) := by decide +kernel
theorem dX5_longestUnseen_46 : decode cX5_longestUnseen 46 = .ok (.iinc 5 1, 3) := by decide +kernel
theorem dX5_longestUnseen_49 : decode cX5_longestUnseen 49 = .ok (.goto (-41), 3) := by decide +kernel
theorem dX5_longestUnseen_52 : decode cX5_longestUnseen 52 = .ok (.iload_n 3, 1) := by decide +kernel
theorem dX5_longestUnseen_53 : decode cX5_longestUnseen 53 = .ok (.bipush 24, 2) := by decide +kernel
theorem dX5_longestUnseen_55 : decode cX5_longestUnseen 55 = .ok (.invokestatic 53, 3) := by decide +kernel
theorem dX5_longestUnseen_58 : decode cX5_longestUnseen 58 = .ok (.ireturn, 1) := by decide +kernel
noncomputable def fX5_longestUnseen_L8 (V : VT) (i : Nat) (u2 : Int32) (u3 : Int32) (u4 : Int32) (u5 : Int32) : Option ((VT × Int32 × Int32 × Int32 × Int32) ⊕ (Int32 × VT)) := if (48 : Int32) ≤ u5 then (some (.inr (((if (24 : Int32) < u3 then (24 : Int32) else u3), V)))) else (ob_I (fX5_witnessBits V i u2 (u5 - u5 / (24 : Int32) * (24 : Int32))) fun y2 V3 => if y2 = 0 then (lt_ (u4 + (1 : Int32)) fun y6 => lt_ (if u3 < y6 then y6 else u3) fun y7 => lt_ (u5 + (1 : Int32)) fun y8 => some (.inl (V3, u2, y7, y6, y8))) else (lt_ (if u3 < (0 : Int32) then (0 : Int32) else u3) fun y4 => lt_ (u5 + (1 : Int32)) fun y5 => some (.inl (V3, u2, y4, (0 : Int32), y5))))
noncomputable def iX5_longestUnseen_L8 (i : Nat) : (VT × Int32 × Int32 × Int32 × Int32) → Option ((VT × Int32 × Int32 × Int32 × Int32) ⊕ (Int32 × VT)) := fun q => fX5_longestUnseen_L8 (q.1) i (q.2.1) (q.2.2.1) (q.2.2.2.1) (q.2.2.2.2)
noncomputable def fX5_longestUnseen (V : VT) (i : Nat) (x1 : Int32) : Option (Int32 × VT) := ob_R (it_ (iX5_longestUnseen_L8 i) FV (V, x1, (0 : Int32), (0 : Int32), (0 : Int32))) fun x12 => some x12
set_option maxHeartbeats 4000000 in
set_option maxRecDepth 100000 in
theorem wX5_longestUnseen_L8 {p : Program} {l : Launch} {e : Env} {s : State} {m : MethodId} {args : Array Value} {below : List Frame} {meth : Method} {c : Code} {G : GT} {B : BGt} {Q : State → Prop} (E : En p s m args c meth cX5_longestUnseen 6 RX5 (some .int) G B) {i : Nat} (hs_i : isSt i) {x : (Int32 × VT)} (kr : ∀ q : (Int32 × VT), x = q → Q = MQ below (QI G s.heap.size q.1 q.2) args s 0 0 (gA G s.heap.size)) : ∀ (n : Nat) (q : (VT × Int32 × Int32 × Int32 × Int32)), it_ (iX5_longestUnseen_L8 i) n q = some x → ∀ (H : Heap) (locs : List Loc) (ls : Array Slot), HW G s.heap (q.1) H locs → lv_has ls 6 [(0, .ref (G.2.2 i)), (1, .ref (G.2.2 17)), (2, .int (q.2.1)), (3, .int (q.2.2.1)), (4, .int (q.2.2.2.1)), (5, .int (q.2.2.2.2))] → W p l e (rmD 6) s m args below meth c H locs 0 0 Q (F0 m 8 ls []) := by
  have hx := en_x E
  have hb := en_b E
  have hB := en_B E
  refine it_W (fun q : (VT × Int32 × Int32 × Int32 × Int32) => ∀ (H : Heap) (locs : List Loc) (ls : Array Slot), HW G s.heap (q.1) H locs → lv_has ls 6 [(0, .ref (G.2.2 i)), (1, .ref (G.2.2 17)), (2, .int (q.2.1)), (3, .int (q.2.2.1)), (4, .int (q.2.2.2.1)), (5, .int (q.2.2.2.2))] → W p l e (rmD 6) s m args below meth c H locs 0 0 Q (F0 m 8 ls [])) x ?_
  intro q r h kc kx
  obtain ⟨V, u2, u3, u4, u5⟩ := q
  intro H locs ls hw hl
  have h : fX5_longestUnseen_L8 V i u2 u3 u4 u5 = some r := h
  have hw : HW G s.heap V H locs := hw
  have hl : lv_has ls 6 [(0, .ref (G.2.2 i)), (1, .ref (G.2.2 17)), (2, .int u2), (3, .int u3), (4, .int u4), (5, .int u5)] := hl
  have kr : ∀ q : (Int32 × VT), r = .inr (q) → Q = MQ below (QI G s.heap.size q.1 q.2) args s 0 0 (gA G s.heap.size) := fun q e => kr q (kx _ e).symm
  unfold fX5_longestUnseen_L8 at h
  refine lv_iload hx hb dX5_longestUnseen_8 (lv_at hl 5 rfl) ?_
  refine lv_bipush (v := (48 : Int32)) hx hb dX5_longestUnseen_10 (by decide) ?_
  refine lv_icmp_ge (tgt := 52) hx hb dX5_longestUnseen_12 (by decide) (fun c10 => ?_) (fun c10 => ?_)
  · rw [if_pos c10] at h
    refine lv_iload_n hx hb dX5_longestUnseen_52 rfl (lv_at hl 3 rfl) ?_
    refine lv_bipush (v := (24 : Int32)) hx hb dX5_longestUnseen_53 (by decide) ?_
    refine r_min E hl.1 lm_RX5_53 (by decide) (Nat.le_of_ble_eq_true rfl) dX5_longestUnseen_55 ?_
    rw [kr ((if (24 : Int32) < u3 then (24 : Int32) else u3), V) (Option.some.inj h).symm]
    exact r_ri E hw dX5_longestUnseen_58
  · rw [if_neg c10] at h
    refine lv_aload_n hx hb dX5_longestUnseen_15 rfl (lv_at hl 0 rfl) ?_
    refine lv_aload_n hx hb dX5_longestUnseen_16 rfl (lv_at hl 1 rfl) ?_
    refine lv_iload_n hx hb dX5_longestUnseen_17 rfl (lv_at hl 2 rfl) ?_
    refine lv_iload hx hb dX5_longestUnseen_18 (lv_at hl 5 rfl) ?_
    refine lv_bipush (v := (24 : Int32)) hx hb dX5_longestUnseen_20 (by decide) ?_
    refine lv_irem hx hb dX5_longestUnseen_22 (by decide) ?_
    obtain ⟨y2, V3, h1, h⟩ := ob_I_some h
    refine c_SI E hw (kX5_witnessBits (l := l) (G := G) hB hs_i h1) yy_X5_witnessBits lm_RX5_44 rfl hl.1 (by decide) (by decide) rfl (Nat.le_of_ble_eq_true rfl) dX5_longestUnseen_23 (fun H locs hw => ?_)
    refine lv_if_ne (tgt := 36) hx hb dX5_longestUnseen_26 (by decide) (fun c9 => ?_) (fun c9 => ?_)
    · rw [if_neg c9] at h
      refine lv_iconst (v := (0 : Int32)) hx hb dX5_longestUnseen_36 (by decide) ?_
      refine lv_istore (lv' := [(4, .int (0 : Int32)), (0, .ref (G.2.2 i)), (1, .ref (G.2.2 17)), (2, .int u2), (3, .int u3), (5, .int u5)]) hx hb dX5_longestUnseen_37 hl (by decide) rfl (fun ls hl => ?_)
      refine lv_iload_n hx hb dX5_longestUnseen_39 rfl (lv_at hl 4 rfl) ?_
      refine lv_iload hx hb dX5_longestUnseen_40 (lv_at hl 0 rfl) ?_
      refine r_max E hl.1 lm_RX5_47 (by decide) (Nat.le_of_ble_eq_true rfl) dX5_longestUnseen_42 ?_
      obtain ⟨y4, ey4, h⟩ := lt_some h
      refine lv_eqi ey4 ?_
      refine lv_istore_n (lv' := [(3, .int y4), (4, .int (0 : Int32)), (0, .ref (G.2.2 i)), (1, .ref (G.2.2 17)), (2, .int u2), (5, .int u5)]) hx hb dX5_longestUnseen_45 rfl hl (by decide) rfl (fun ls hl => ?_)
      obtain ⟨y5, ey5, h⟩ := lt_some h
      refine lv_iinc (v := y5) (lv' := [(5, .int y5), (3, .int y4), (4, .int (0 : Int32)), (0, .ref (G.2.2 i)), (1, .ref (G.2.2 17)), (2, .int u2)]) hx hb dX5_longestUnseen_46 hl (k := 5) rfl (by rw [ey5]; rfl) (by decide) rfl (fun ls hl => ?_)
      refine lv_goto (tgt := 8) hx hb dX5_longestUnseen_49 (by decide) ?_
      exact kc (V3, u2, y4, (0 : Int32), y5) (Option.some.inj h).symm H locs ls hw (lv_sub hl [3, 4, 5, 1, 2, 0] rfl)
    · rw [if_pos c9] at h
      refine lv_iload hx hb dX5_longestUnseen_29 (lv_at hl 4 rfl) ?_
      refine lv_iconst (v := (1 : Int32)) hx hb dX5_longestUnseen_31 (by decide) ?_
      refine lv_iadd hx hb dX5_longestUnseen_32 ?_
      refine lv_goto (tgt := 37) hx hb dX5_longestUnseen_33 (by decide) ?_
      obtain ⟨y6, ey6, h⟩ := lt_some h
      refine lv_eqi ey6 ?_
      refine lv_istore (lv' := [(4, .int y6), (0, .ref (G.2.2 i)), (1, .ref (G.2.2 17)), (2, .int u2), (3, .int u3), (5, .int u5)]) hx hb dX5_longestUnseen_37 hl (by decide) rfl (fun ls hl => ?_)
      refine lv_iload_n hx hb dX5_longestUnseen_39 rfl (lv_at hl 4 rfl) ?_
      refine lv_iload hx hb dX5_longestUnseen_40 (lv_at hl 0 rfl) ?_
      refine r_max E hl.1 lm_RX5_47 (by decide) (Nat.le_of_ble_eq_true rfl) dX5_longestUnseen_42 ?_
      obtain ⟨y7, ey7, h⟩ := lt_some h
      refine lv_eqi ey7 ?_
      refine lv_istore_n (lv' := [(3, .int y7), (4, .int y6), (0, .ref (G.2.2 i)), (1, .ref (G.2.2 17)), (2, .int u2), (5, .int u5)]) hx hb dX5_longestUnseen_45 rfl hl (by decide) rfl (fun ls hl => ?_)
      obtain ⟨y8, ey8, h⟩ := lt_some h
      refine lv_iinc (v := y8) (lv' := [(5, .int y8), (3, .int y7), (4, .int y6), (0, .ref (G.2.2 i)), (1, .ref (G.2.2 17)), (2, .int u2)]) hx hb dX5_longestUnseen_46 hl (k := 5) rfl (by rw [ey8]; rfl) (by decide) rfl (fun ls hl => ?_)
      refine lv_goto (tgt := 8) hx hb dX5_longestUnseen_49 (by decide) ?_
      exact kc (V3, u2, y7, y6, y8) (Option.some.inj h).symm H locs ls hw (lv_sub hl [3, 4, 5, 1, 2, 0] rfl)
set_option maxHeartbeats 4000000 in
set_option maxRecDepth 100000 in
theorem kX5_longestUnseen {l : Launch} {G : GT} {B : BGt} (hB : BGok B) {V : VT} {i : Nat} (hs_i : isSt i) {x1 : Int32} {r : (Int32 × VT)} (h : fX5_longestUnseen V i x1 = some r) : CI l G B yX5_longestUnseen (.code yX5_longestUnseen cX5_longestUnseen 6 (some .int)) 6 [.ref (G.2.2 i), .ref (G.2.2 17), .int x1] V r.1 r.2 := by
  intro sz
  refine met_of (Qs := fun sz => QI G sz (r.1) (r.2)) hB (by decide) (Nat.le_of_ble_eq_true rfl) ?_ sz
  intro p e s m args below meth c ls E hw hl
  have hx := en_x E
  have hb := en_b E
  generalize hQ : MQ _ _ _ _ _ _ _ = Q
  have kr : Q = MQ below (QI G s.heap.size r.1 r.2) args s 0 0 (gA G s.heap.size) := hQ.symm
  have hl : lv_has ls 6 [(0, .ref (G.2.2 i)), (1, .ref (G.2.2 17)), (2, .int x1)] := hl
  obtain ⟨H, eH⟩ : ∃ H, H = s.heap := ⟨_, rfl⟩
  obtain ⟨locs, elocs⟩ : ∃ z : List Loc, z = [] := ⟨_, rfl⟩
  have hw : HW G s.heap V H locs := by rw [eH, elocs]; exact hw
  show W p l e _ s m args below meth c s.heap [] 0 0 Q (F0 m 0 ls [])
  rw [← eH, ← elocs]
  unfold fX5_longestUnseen at h
  refine lv_iconst (v := (0 : Int32)) hx hb dX5_longestUnseen_0 (by decide) ?_
  refine lv_istore_n (lv' := [(3, .int (0 : Int32)), (0, .ref (G.2.2 i)), (1, .ref (G.2.2 17)), (2, .int x1)]) hx hb dX5_longestUnseen_1 rfl hl (by decide) rfl (fun ls hl => ?_)
  refine lv_iconst (v := (0 : Int32)) hx hb dX5_longestUnseen_2 (by decide) ?_
  refine lv_istore (lv' := [(4, .int (0 : Int32)), (3, .int (0 : Int32)), (0, .ref (G.2.2 i)), (1, .ref (G.2.2 17)), (2, .int x1)]) hx hb dX5_longestUnseen_3 hl (by decide) rfl (fun ls hl => ?_)
  refine lv_iconst (v := (0 : Int32)) hx hb dX5_longestUnseen_5 (by decide) ?_
  refine lv_istore (lv' := [(5, .int (0 : Int32)), (4, .int (0 : Int32)), (3, .int (0 : Int32)), (0, .ref (G.2.2 i)), (1, .ref (G.2.2 17)), (2, .int x1)]) hx hb dX5_longestUnseen_6 hl (by decide) rfl (fun ls hl => ?_)
  obtain ⟨x12, h11, h⟩ := ob_R_some h
  have h := Option.some.inj h
  subst h
  exact wX5_longestUnseen_L8 E hs_i (fun q e => by subst e; exact kr) FV (V, x1, (0 : Int32), (0 : Int32), (0 : Int32)) h11 H locs ls hw (lv_sub hl [3, 4, 5, 2, 1, 0] rfl)
/-! ===== AllSawIt$Sight.lookOut(LAllSawIt$State;LAllSawIt$Law;I)I ===== -/
theorem dX5_lookOut_0 : decode cX5_lookOut 0 = .ok (.iconst 0, 1) := by decide +kernel
theorem dX5_lookOut_1 : decode cX5_lookOut 1 = .ok (.istore 4, 2) := by decide +kernel
theorem dX5_lookOut_3 : decode cX5_lookOut 3 = .ok (.iconst 0, 1) := by decide +kernel
theorem dX5_lookOut_4 : decode cX5_lookOut 4 = .ok (.istore 5, 2) := by decide +kernel
theorem dX5_lookOut_6 : decode cX5_lookOut 6 = .ok (.iload 5, 2) := by decide +kernel
theorem dX5_lookOut_8 : decode cX5_lookOut 8 = .ok (.aload_n 1, 1) := by decide +kernel
theorem dX5_lookOut_9 : decode cX5_lookOut 9 = .ok (.getfield 21, 3) := by decide +kernel
theorem dX5_lookOut_12 : decode cX5_lookOut 12 = .ok (.if_icmp .ge 46, 3) := by decide +kernel
theorem dX5_lookOut_15 : decode cX5_lookOut 15 = .ok (.iload 5, 2) := by decide +kernel
theorem dX5_lookOut_17 : decode cX5_lookOut 17 = .ok (.aload_n 0, 1) := by decide +kernel
theorem dX5_lookOut_18 : decode cX5_lookOut 18 = .ok (.getfield 18, 3) := by decide +kernel
theorem dX5_lookOut_21 : decode cX5_lookOut 21 = .ok (.arraylength, 1) := by decide +kernel
theorem dX5_lookOut_22 : decode cX5_lookOut 22 = .ok (.if_icmp .ge 36, 3) := by decide +kernel
theorem dX5_lookOut_25 : decode cX5_lookOut 25 = .ok (.aload_n 0, 1) := by decide +kernel
theorem dX5_lookOut_26 : decode cX5_lookOut 26 = .ok (.getfield 18, 3) := by decide +kernel
theorem dX5_lookOut_29 : decode cX5_lookOut 29 = .ok (.iload 5, 2) := by decide +kernel
theorem dX5_lookOut_31 : decode cX5_lookOut 31 = .ok (.aload_n 1, 1) := by decide +kernel
theorem dX5_lookOut_32 : decode cX5_lookOut 32 = .ok (.aload_n 2, 1) := by decide +kernel
theorem dX5_lookOut_33 : decode cX5_lookOut 33 = .ok (.iload 5, 2) := by decide +kernel
theorem dX5_lookOut_35 : decode cX5_lookOut 35 = .ok (.iload_n 3, 1) := by decide +kernel
theorem dX5_lookOut_36 : decode cX5_lookOut 36 = .ok (.invokestatic 34, 3) := by decide +kernel
theorem dX5_lookOut_39 : decode cX5_lookOut 39 = .ok (.iastore, 1) := by decide +kernel
theorem dX5_lookOut_40 : decode cX5_lookOut 40 = .ok (.iload 4, 2) := by decide +kernel
theorem dX5_lookOut_42 : decode cX5_lookOut 42 = .ok (.aload_n 0, 1) := by decide +kernel
theorem dX5_lookOut_43 : decode cX5_lookOut 43 = .ok (.getfield 18, 3) := by decide +kernel
theorem dX5_lookOut_46 : decode cX5_lookOut 46 = .ok (.iload 5, 2) := by decide +kernel
theorem dX5_lookOut_48 : decode cX5_lookOut 48 = .ok (.iaload, 1) := by decide +kernel
theorem dX5_lookOut_49 : decode cX5_lookOut 49 = .ok (.ior, 1) := by decide +kernel
theorem dX5_lookOut_50 : decode cX5_lookOut 50 = .ok (.istore 4, 2) := by decide +kernel
theorem dX5_lookOut_52 : decode cX5_lookOut 52 = .ok (.iinc 5 1, 3) := by decide +kernel
theorem dX5_lookOut_55 : decode cX5_lookOut 55 = .ok (.goto (-49), 3) := by decide +kernel
theorem dX5_lookOut_58 : decode cX5_lookOut 58 = .ok (.iload 4, 2) := by decide +kernel
theorem dX5_lookOut_60 : decode cX5_lookOut 60 = .ok (.ireturn, 1) := by decide +kernel
noncomputable def fX5_lookOut_L6 (V : VT) (i : Nat) (u3 : Int32) (u4 : Int32) (u5 : Int32) : Option ((VT × Int32 × Int32 × Int32) ⊕ (Int32 × VT)) := if (V i 3) ≤ u5 then (some (.inr ((u4, V)))) else (if (nI 8) ≤ u5 then (some (.inr ((u4, V)))) else (ob_I (fX5_placeBits V i u5 u3) fun y2 V3 => rd_ u5 8 (lt_ (va_up V3 75 (upd (V3 75) u5.toNatClampNeg y2)) fun V5 => rd_ u5 8 (lt_ (u4 ||| (V5 75 u5.toNatClampNeg)) fun y7 => lt_ (u5 + (1 : Int32)) fun y8 => some (.inl (V5, u3, y7, y8))))))
noncomputable def iX5_lookOut_L6 (i : Nat) : (VT × Int32 × Int32 × Int32) → Option ((VT × Int32 × Int32 × Int32) ⊕ (Int32 × VT)) := fun q => fX5_lookOut_L6 (q.1) i (q.2.1) (q.2.2.1) (q.2.2.2)
noncomputable def fX5_lookOut (V : VT) (i : Nat) (x1 : Int32) : Option (Int32 × VT) := ob_R (it_ (iX5_lookOut_L6 i) FV (V, x1, (0 : Int32), (0 : Int32))) fun x12 => some x12
set_option maxHeartbeats 4000000 in
set_option maxRecDepth 100000 in
theorem wX5_lookOut_L6 {p : Program} {l : Launch} {e : Env} {s : State} {m : MethodId} {args : Array Value} {below : List Frame} {meth : Method} {c : Code} {G : GT} {B : BGt} {Q : State → Prop} (E : En p s m args c meth cX5_lookOut 6 RX5 (some .int) G B) {i : Nat} (hs_i : isSt i) {x : (Int32 × VT)} (kr : ∀ q : (Int32 × VT), x = q → Q = MQ below (QI G s.heap.size q.1 q.2) args s 0 0 (gA G s.heap.size)) : ∀ (n : Nat) (q : (VT × Int32 × Int32 × Int32)), it_ (iX5_lookOut_L6 i) n q = some x → ∀ (H : Heap) (locs : List Loc) (ls : Array Slot), HW G s.heap (q.1) H locs → lv_has ls 6 [(0, .ref (G.2.2 21)), (1, .ref (G.2.2 i)), (2, .ref (G.2.2 17)), (3, .int (q.2.1)), (4, .int (q.2.2.1)), (5, .int (q.2.2.2))] → W p l e (rmD 6) s m args below meth c H locs 0 0 Q (F0 m 6 ls []) := by
  have hx := en_x E
  have hb := en_b E
  have hB := en_B E
  refine it_W (fun q : (VT × Int32 × Int32 × Int32) => ∀ (H : Heap) (locs : List Loc) (ls : Array Slot), HW G s.heap (q.1) H locs → lv_has ls 6 [(0, .ref (G.2.2 21)), (1, .ref (G.2.2 i)), (2, .ref (G.2.2 17)), (3, .int (q.2.1)), (4, .int (q.2.2.1)), (5, .int (q.2.2.2))] → W p l e (rmD 6) s m args below meth c H locs 0 0 Q (F0 m 6 ls [])) x ?_
  intro q r h kc kx
  obtain ⟨V, u3, u4, u5⟩ := q
  intro H locs ls hw hl
  have h : fX5_lookOut_L6 V i u3 u4 u5 = some r := h
  have hw : HW G s.heap V H locs := hw
  have hl : lv_has ls 6 [(0, .ref (G.2.2 21)), (1, .ref (G.2.2 i)), (2, .ref (G.2.2 17)), (3, .int u3), (4, .int u4), (5, .int u5)] := hl
  have kr : ∀ q : (Int32 × VT), r = .inr (q) → Q = MQ below (QI G s.heap.size q.1 q.2) args s 0 0 (gA G s.heap.size) := fun q e => kr q (kx _ e).symm
  unfold fX5_lookOut_L6 at h
  refine lv_iload hx hb dX5_lookOut_6 (lv_at hl 5 rfl) ?_
  refine lv_aload_n hx hb dX5_lookOut_8 rfl (lv_at hl 1 rfl) ?_
  refine r_giN E hw i 3 (N := 13) (C := RX6) (T := TX6) (st_lt hs_i) (st_c hs_i) (st_N hs_i) (by decide) (st_n hs_i (k := 3) (by decide)) iw_6 rfl lf_RX5_21 dX5_lookOut_9 ?_
  refine lv_icmp_ge (tgt := 58) hx hb dX5_lookOut_12 (by decide) (fun c10 => ?_) (fun c10 => ?_)
  · rw [if_pos c10] at h
    refine lv_iload hx hb dX5_lookOut_58 (lv_at hl 4 rfl) ?_
    rw [kr (u4, V) (Option.some.inj h).symm]
    exact r_ri E hw dX5_lookOut_60
  · rw [if_neg c10] at h
    refine lv_iload hx hb dX5_lookOut_15 (lv_at hl 5 rfl) ?_
    refine lv_aload_n hx hb dX5_lookOut_17 rfl (lv_at hl 0 rfl) ?_
    refine r_gr E hw 21 2 75 (N := 3) (C := RX5) (T := TX5) (by decide) rfl rfl (by decide) rfl iw_5 rfl lf_RX5_18 dX5_lookOut_18 ?_
    refine r_al E hw 75 8 (by decide) (by decide) (by decide) rfl dX5_lookOut_21 ?_
    refine lv_icmp_ge (tgt := 58) hx hb dX5_lookOut_22 (by decide) (fun c9 => ?_) (fun c9 => ?_)
    · rw [if_pos c9] at h
      refine lv_iload hx hb dX5_lookOut_58 (lv_at hl 4 rfl) ?_
      rw [kr (u4, V) (Option.some.inj h).symm]
      exact r_ri E hw dX5_lookOut_60
    · rw [if_neg c9] at h
      refine lv_aload_n hx hb dX5_lookOut_25 rfl (lv_at hl 0 rfl) ?_
      refine r_gr E hw 21 2 75 (N := 3) (C := RX5) (T := TX5) (by decide) rfl rfl (by decide) rfl iw_5 rfl lf_RX5_18 dX5_lookOut_26 ?_
      refine lv_iload hx hb dX5_lookOut_29 (lv_at hl 5 rfl) ?_
      refine lv_aload_n hx hb dX5_lookOut_31 rfl (lv_at hl 1 rfl) ?_
      refine lv_aload_n hx hb dX5_lookOut_32 rfl (lv_at hl 2 rfl) ?_
      refine lv_iload hx hb dX5_lookOut_33 (lv_at hl 5 rfl) ?_
      refine lv_iload_n hx hb dX5_lookOut_35 rfl (lv_at hl 3 rfl) ?_
      obtain ⟨y2, V3, h1, h⟩ := ob_I_some h
      refine c_SI E hw (kX5_placeBits (l := l) (G := G) hB hs_i h1) yy_X5_placeBits lm_RX5_34 rfl hl.1 (by decide) (by decide) rfl (Nat.le_of_ble_eq_true rfl) dX5_lookOut_36 (fun H locs hw => ?_)
      obtain ⟨b4, h⟩ := rd_some h
      obtain ⟨V5, eV5, h⟩ := lt_some h
      refine r_is E hw 75 8 (by decide) (by decide) (by decide) rfl rfl b4 eV5 dX5_lookOut_39 (fun H locs hw => ?_)
      refine lv_iload hx hb dX5_lookOut_40 (lv_at hl 4 rfl) ?_
      refine lv_aload_n hx hb dX5_lookOut_42 rfl (lv_at hl 0 rfl) ?_
      refine r_gr E hw 21 2 75 (N := 3) (C := RX5) (T := TX5) (by decide) rfl rfl (by decide) rfl iw_5 rfl lf_RX5_18 dX5_lookOut_43 ?_
      refine lv_iload hx hb dX5_lookOut_46 (lv_at hl 5 rfl) ?_
      obtain ⟨b6, h⟩ := rd_some h
      refine r_ia E hw 75 8 (by decide) (by decide) (by decide) rfl rfl b6 dX5_lookOut_48 ?_
      refine lv_ior hx hb dX5_lookOut_49 ?_
      obtain ⟨y7, ey7, h⟩ := lt_some h
      refine lv_eqi ey7 ?_
      refine lv_istore (lv' := [(4, .int y7), (0, .ref (G.2.2 21)), (1, .ref (G.2.2 i)), (2, .ref (G.2.2 17)), (3, .int u3), (5, .int u5)]) hx hb dX5_lookOut_50 hl (by decide) rfl (fun ls hl => ?_)
      obtain ⟨y8, ey8, h⟩ := lt_some h
      refine lv_iinc (v := y8) (lv' := [(5, .int y8), (4, .int y7), (0, .ref (G.2.2 21)), (1, .ref (G.2.2 i)), (2, .ref (G.2.2 17)), (3, .int u3)]) hx hb dX5_lookOut_52 hl (k := 5) rfl (by rw [ey8]; rfl) (by decide) rfl (fun ls hl => ?_)
      refine lv_goto (tgt := 6) hx hb dX5_lookOut_55 (by decide) ?_
      exact kc (V5, u3, y7, y8) (Option.some.inj h).symm H locs ls hw (lv_sub hl [2, 3, 4, 5, 1, 0] rfl)
set_option maxHeartbeats 4000000 in
set_option maxRecDepth 100000 in
theorem kX5_lookOut {l : Launch} {G : GT} {B : BGt} (hB : BGok B) {V : VT} {i : Nat} (hs_i : isSt i) {x1 : Int32} {r : (Int32 × VT)} (h : fX5_lookOut V i x1 = some r) : CI l G B yX5_lookOut (.code yX5_lookOut cX5_lookOut 6 (some .int)) 6 [.ref (G.2.2 21), .ref (G.2.2 i), .ref (G.2.2 17), .int x1] V r.1 r.2 := by
  intro sz
  refine met_of (Qs := fun sz => QI G sz (r.1) (r.2)) hB (by decide) (Nat.le_of_ble_eq_true rfl) ?_ sz
  intro p e s m args below meth c ls E hw hl
  have hx := en_x E
  have hb := en_b E
  generalize hQ : MQ _ _ _ _ _ _ _ = Q
  have kr : Q = MQ below (QI G s.heap.size r.1 r.2) args s 0 0 (gA G s.heap.size) := hQ.symm
  have hl : lv_has ls 6 [(0, .ref (G.2.2 21)), (1, .ref (G.2.2 i)), (2, .ref (G.2.2 17)), (3, .int x1)] := hl
  obtain ⟨H, eH⟩ : ∃ H, H = s.heap := ⟨_, rfl⟩
  obtain ⟨locs, elocs⟩ : ∃ z : List Loc, z = [] := ⟨_, rfl⟩
  have hw : HW G s.heap V H locs := by rw [eH, elocs]; exact hw
  show W p l e _ s m args below meth c s.heap [] 0 0 Q (F0 m 0 ls [])
  rw [← eH, ← elocs]
  unfold fX5_lookOut at h
  refine lv_iconst (v := (0 : Int32)) hx hb dX5_lookOut_0 (by decide) ?_
  refine lv_istore (lv' := [(4, .int (0 : Int32)), (0, .ref (G.2.2 21)), (1, .ref (G.2.2 i)), (2, .ref (G.2.2 17)), (3, .int x1)]) hx hb dX5_lookOut_1 hl (by decide) rfl (fun ls hl => ?_)
  refine lv_iconst (v := (0 : Int32)) hx hb dX5_lookOut_3 (by decide) ?_
  refine lv_istore (lv' := [(5, .int (0 : Int32)), (4, .int (0 : Int32)), (0, .ref (G.2.2 21)), (1, .ref (G.2.2 i)), (2, .ref (G.2.2 17)), (3, .int x1)]) hx hb dX5_lookOut_4 hl (by decide) rfl (fun ls hl => ?_)
  obtain ⟨x12, h11, h⟩ := ob_R_some h
  have h := Option.some.inj h
  subst h
  exact wX5_lookOut_L6 E hs_i (fun q e => by subst e; exact kr) FV (V, x1, (0 : Int32), (0 : Int32)) h11 H locs ls hw (lv_sub hl [2, 3, 4, 5, 1, 0] rfl)
/-! ===== AllSawIt$Sight.pairsAlike(LAllSawIt$State;LAllSawIt$Law;)I ===== -/
theorem dX5_pairsAlike_0 : decode cX5_pairsAlike 0 = .ok (.aload_n 1, 1) := by decide +kernel
theorem dX5_pairsAlike_1 : decode cX5_pairsAlike 1 = .ok (.getfield 21, 3) := by decide +kernel
theorem dX5_pairsAlike_4 : decode cX5_pairsAlike 4 = .ok (.aload_n 1, 1) := by decide +kernel
theorem dX5_pairsAlike_5 : decode cX5_pairsAlike 5 = .ok (.getfield 21, 3) := by decide +kernel
theorem dX5_pairsAlike_8 : decode cX5_pairsAlike 8 = .ok (.iconst 1, 1) := by decide +kernel
theorem dX5_pairsAlike_9 : decode cX5_pairsAlike 9 = .ok (.isub, 1) := by decide +kernel
theorem dX5_pairsAlike_10 : decode cX5_pairsAlike 10 = .ok (.imul, 1) := by decide +kernel
theorem dX5_pairsAlike_11 : decode cX5_pairsAlike 11 = .ok (.iconst 2, 1) := by decide +kernel
theorem dX5_pairsAlike_12 : decode cX5_pairsAlike 12 = .ok (.idiv, 1) := by decide +kernel
theorem dX5_pairsAlike_13 : decode cX5_pairsAlike 13 = .ok (.istore_n 3, 1) := by decide +kernel
theorem dX5_pairsAlike_14 : decode cX5_pairsAlike 14 = .ok (.lconst 0, 1) := by decide +kernel
theorem dX5_pairsAlike_15 : decode cX5_pairsAlike 15 = .ok (.lstore 4, 2) := by decide +kernel
theorem dX5_pairsAlike_17 : decode cX5_pairsAlike 17 = .ok (.iconst 0, 1) := by decide +kernel
theorem dX5_pairsAlike_18 : decode cX5_pairsAlike 18 = .ok (.istore 6, 2) := by decide +kernel
theorem dX5_pairsAlike_20 : decode cX5_pairsAlike 20 = .ok (.iload 6, 2) := by decide +kernel
theorem dX5_pairsAlike_22 : decode cX5_pairsAlike 22 = .ok (.bipush 24, 2) := by decide +kernel
theorem dX5_pairsAlike_24 : decode cX5_pairsAlike 24 = .ok (.if_icmp .ge 31, 3) := by decide +kernel
theorem dX5_pairsAlike_27 : decode cX5_pairsAlike 27 = .ok (.aload_n 0, 1) := by decide +kernel
theorem dX5_pairsAlike_28 : decode cX5_pairsAlike 28 = .ok (.aload_n 1, 1) := by decide +kernel
theorem dX5_pairsAlike_29 : decode cX5_pairsAlike 29 = .ok (.aload_n 2, 1) := by decide +kernel
theorem dX5_pairsAlike_30 : decode cX5_pairsAlike 30 = .ok (.iload 6, 2) := by decide +kernel
theorem dX5_pairsAlike_32 : decode cX5_pairsAlike 32 = .ok (.invokevirtual 56, 3) := by decide +kernel
theorem dX5_pairsAlike_35 : decode cX5_pairsAlike 35 = .ok (.pop, 1) := by decide +kernel
theorem dX5_pairsAlike_36 : decode cX5_pairsAlike 36 = .ok (.lload 4, 2) := by decide +kernel
theorem dX5_pairsAlike_38 : decode cX5_pairsAlike 38 = .ok (.aload_n 0, 1) := by decide +kernel
theorem dX5_pairsAlike_39 : decode cX5_pairsAlike 39 = .ok (.aload_n 1, 1) := by decide +kernel
theorem dX5_pairsAlike_40 : decode cX5_pairsAlike 40 = .ok (.getfield 21, 3) := by decide +kernel
theorem dX5_pairsAlike_43 : decode cX5_pairsAlike 43 = .ok (.invokevirtual 60, 3) := by decide +kernel
theorem dX5_pairsAlike_46 : decode cX5_pairsAlike 46 = .ok (.lor, 1) := by decide +kernel
theorem dX5_pairsAlike_47 : decode cX5_pairsAlike 47 = .ok (.lstore 4, 2) := by decide +kernel
theorem dX5_pairsAlike_49 : decode cX5_pairsAlike 49 = .ok (.iinc 6 1, 3) := by decide +kernel
theorem dX5_pairsAlike_52 : decode cX5_pairsAlike 52 = .ok (.goto (-32), 3) := by decide +kernel
theorem dX5_pairsAlike_55 : decode cX5_pairsAlike 55 = .ok (.iload_n 3, 1) := by decide +kernel
theorem dX5_pairsAlike_56 : decode cX5_pairsAlike 56 = .ok (.lload 4, 2) := by decide +kernel
theorem dX5_pairsAlike_58 : decode cX5_pairsAlike 58 = .ok (.invokestatic 64, 3) := by decide +kernel
theorem dX5_pairsAlike_61 : decode cX5_pairsAlike 61 = .ok (.isub, 1) := by decide +kernel
theorem dX5_pairsAlike_62 : decode cX5_pairsAlike 62 = .ok (.ireturn, 1) := by decide +kernel
noncomputable def fX5_pairsAlike_L20 (V : VT) (i : Nat) (u3 : Int32) (u4 : Int64) (u6 : Int32) : Option ((VT × Int32 × Int64 × Int32) ⊕ (Int32 × VT)) := if (24 : Int32) ≤ u6 then (ob_R (fJ13_bitCount_95d88 V u4) fun y3 => some (.inr (((u3 - y3), V)))) else (ob_I (fX5_lookOut V i u6) fun y5 V6 => ob_R (fX5_pairsParted V6 (V6 i 3)) fun y8 => lt_ (u4 ||| y8) fun y9 => lt_ (u6 + (1 : Int32)) fun y10 => some (.inl (V6, u3, y9, y10)))
noncomputable def iX5_pairsAlike_L20 (i : Nat) : (VT × Int32 × Int64 × Int32) → Option ((VT × Int32 × Int64 × Int32) ⊕ (Int32 × VT)) := fun q => fX5_pairsAlike_L20 (q.1) i (q.2.1) (q.2.2.1) (q.2.2.2)
noncomputable def fX5_pairsAlike (V : VT) (i : Nat) : Option (Int32 × VT) := lt_ (((V i 3) * ((V i 3) - (1 : Int32))) / (2 : Int32)) fun y1 => ob_R (it_ (iX5_pairsAlike_L20 i) FV (V, y1, (0 : Int64), (0 : Int32))) fun x13 => some x13
set_option maxHeartbeats 4000000 in
set_option maxRecDepth 100000 in
theorem wX5_pairsAlike_L20 {p : Program} {l : Launch} {e : Env} {s : State} {m : MethodId} {args : Array Value} {below : List Frame} {meth : Method} {c : Code} {G : GT} {B : BGt} {Q : State → Prop} (E : En p s m args c meth cX5_pairsAlike 7 RX5 (some .int) G B) {i : Nat} (hs_i : isSt i) {x : (Int32 × VT)} (kr : ∀ q : (Int32 × VT), x = q → Q = MQ below (QI G s.heap.size q.1 q.2) args s 0 0 (gA G s.heap.size)) : ∀ (n : Nat) (q : (VT × Int32 × Int64 × Int32)), it_ (iX5_pairsAlike_L20 i) n q = some x → ∀ (H : Heap) (locs : List Loc) (ls : Array Slot), HW G s.heap (q.1) H locs → lv_has ls 7 [(0, .ref (G.2.2 21)), (1, .ref (G.2.2 i)), (2, .ref (G.2.2 17)), (3, .int (q.2.1)), (4, .long (q.2.2.1)), (6, .int (q.2.2.2))] → W p l e (rmD 7) s m args below meth c H locs 0 0 Q (F0 m 20 ls []) := by
  have hx := en_x E
  have hb := en_b E
  have hB := en_B E
  refine it_W (fun q : (VT × Int32 × Int64 × Int32) => ∀ (H : Heap) (locs : List Loc) (ls : Array Slot), HW G s.heap (q.1) H locs → lv_has ls 7 [(0, .ref (G.2.2 21)), (1, .ref (G.2.2 i)), (2, .ref (G.2.2 17)), (3, .int (q.2.1)), (4, .long (q.2.2.1)), (6, .int (q.2.2.2))] → W p l e (rmD 7) s m args below meth c H locs 0 0 Q (F0 m 20 ls [])) x ?_
  intro q r h kc kx
  obtain ⟨V, u3, u4, u6⟩ := q
  intro H locs ls hw hl
  have h : fX5_pairsAlike_L20 V i u3 u4 u6 = some r := h
  have hw : HW G s.heap V H locs := hw
  have hl : lv_has ls 7 [(0, .ref (G.2.2 21)), (1, .ref (G.2.2 i)), (2, .ref (G.2.2 17)), (3, .int u3), (4, .long u4), (6, .int u6)] := hl
  have kr : ∀ q : (Int32 × VT), r = .inr (q) → Q = MQ below (QI G s.heap.size q.1 q.2) args s 0 0 (gA G s.heap.size) := fun q e => kr q (kx _ e).symm
  unfold fX5_pairsAlike_L20 at h
  refine lv_iload hx hb dX5_pairsAlike_20 (lv_at hl 5 rfl) ?_
  refine lv_bipush (v := (24 : Int32)) hx hb dX5_pairsAlike_22 (by decide) ?_
  refine lv_icmp_ge (tgt := 55) hx hb dX5_pairsAlike_24 (by decide) (fun c11 => ?_) (fun c11 => ?_)
  · rw [if_pos c11] at h
    refine lv_iload_n hx hb dX5_pairsAlike_55 rfl (lv_at hl 3 rfl) ?_
    refine lv_lload hx hb dX5_pairsAlike_56 (lv_at hl 4 rfl) ?_
    obtain ⟨y3, h2, h⟩ := ob_R_some h
    refine c_SI E hw (kJ13_bitCount_95d88 (l := l) (G := G) hB  h2) yy_J13_bitCount_95d88 lm_RX5_64 rfl hl.1 (by decide) (by decide) rfl (Nat.le_of_ble_eq_true rfl) dX5_pairsAlike_58 (fun H locs hw => ?_)
    refine lv_isub hx hb dX5_pairsAlike_61 ?_
    rw [kr ((u3 - y3), V) (Option.some.inj h).symm]
    exact r_ri E hw dX5_pairsAlike_62
  · rw [if_neg c11] at h
    refine lv_aload_n hx hb dX5_pairsAlike_27 rfl (lv_at hl 0 rfl) ?_
    refine lv_aload_n hx hb dX5_pairsAlike_28 rfl (lv_at hl 1 rfl) ?_
    refine lv_aload_n hx hb dX5_pairsAlike_29 rfl (lv_at hl 2 rfl) ?_
    refine lv_iload hx hb dX5_pairsAlike_30 (lv_at hl 5 rfl) ?_
    obtain ⟨y5, V6, h4, h⟩ := ob_I_some h
    refine c_VI E hw (kX5_lookOut (l := l) (G := G) hB hs_i h4) yy_X5_lookOut lm_RX5_56 rfl (by decide) rfl rfl hl.1 (by decide) (by decide) rfl (Nat.le_of_ble_eq_true rfl) dX5_pairsAlike_32 (fun H locs hw => ?_)
    refine lv_pop hx hb dX5_pairsAlike_35 rfl ?_
    refine lv_lload hx hb dX5_pairsAlike_36 (lv_at hl 4 rfl) ?_
    refine lv_aload_n hx hb dX5_pairsAlike_38 rfl (lv_at hl 0 rfl) ?_
    refine lv_aload_n hx hb dX5_pairsAlike_39 rfl (lv_at hl 1 rfl) ?_
    refine r_giN E hw i 3 (N := 13) (C := RX6) (T := TX6) (st_lt hs_i) (st_c hs_i) (st_N hs_i) (by decide) (st_n hs_i (k := 3) (by decide)) iw_6 rfl lf_RX5_21 dX5_pairsAlike_40 ?_
    obtain ⟨y8, h7, h⟩ := ob_R_some h
    refine c_VL E hw (kX5_pairsParted (l := l) (G := G) hB  h7) yy_X5_pairsParted lm_RX5_60 rfl (by decide) rfl rfl hl.1 (by decide) (by decide) rfl (Nat.le_of_ble_eq_true rfl) dX5_pairsAlike_43 (fun H locs hw => ?_)
    refine lv_lor hx hb dX5_pairsAlike_46 ?_
    obtain ⟨y9, ey9, h⟩ := lt_some h
    refine lv_eql ey9 ?_
    refine lv_lstore (lv' := [(4, .long y9), (0, .ref (G.2.2 21)), (1, .ref (G.2.2 i)), (2, .ref (G.2.2 17)), (3, .int u3), (6, .int u6)]) hx hb dX5_pairsAlike_47 hl (by decide) rfl (fun ls hl => ?_)
    obtain ⟨y10, ey10, h⟩ := lt_some h
    refine lv_iinc (v := y10) (lv' := [(6, .int y10), (4, .long y9), (0, .ref (G.2.2 21)), (1, .ref (G.2.2 i)), (2, .ref (G.2.2 17)), (3, .int u3)]) hx hb dX5_pairsAlike_49 hl (k := 5) rfl (by rw [ey10]; rfl) (by decide) rfl (fun ls hl => ?_)
    refine lv_goto (tgt := 20) hx hb dX5_pairsAlike_52 (by decide) ?_
    exact kc (V6, u3, y9, y10) (Option.some.inj h).symm H locs ls hw (lv_sub hl [2, 3, 4, 5, 1, 0] rfl)
set_option maxHeartbeats 4000000 in
set_option maxRecDepth 100000 in
theorem kX5_pairsAlike {l : Launch} {G : GT} {B : BGt} (hB : BGok B) {V : VT} {i : Nat} (hs_i : isSt i) {r : (Int32 × VT)} (h : fX5_pairsAlike V i = some r) : CI l G B yX5_pairsAlike (.code yX5_pairsAlike cX5_pairsAlike 7 (some .int)) 7 [.ref (G.2.2 21), .ref (G.2.2 i), .ref (G.2.2 17)] V r.1 r.2 := by
  intro sz
  refine met_of (Qs := fun sz => QI G sz (r.1) (r.2)) hB (by decide) (Nat.le_of_ble_eq_true rfl) ?_ sz
  intro p e s m args below meth c ls E hw hl
  have hx := en_x E
  have hb := en_b E
  generalize hQ : MQ _ _ _ _ _ _ _ = Q
  have kr : Q = MQ below (QI G s.heap.size r.1 r.2) args s 0 0 (gA G s.heap.size) := hQ.symm
  have hl : lv_has ls 7 [(0, .ref (G.2.2 21)), (1, .ref (G.2.2 i)), (2, .ref (G.2.2 17))] := hl
  obtain ⟨H, eH⟩ : ∃ H, H = s.heap := ⟨_, rfl⟩
  obtain ⟨locs, elocs⟩ : ∃ z : List Loc, z = [] := ⟨_, rfl⟩
  have hw : HW G s.heap V H locs := by rw [eH, elocs]; exact hw
  show W p l e _ s m args below meth c s.heap [] 0 0 Q (F0 m 0 ls [])
  rw [← eH, ← elocs]
  unfold fX5_pairsAlike at h
  refine lv_aload_n hx hb dX5_pairsAlike_0 rfl (lv_at hl 1 rfl) ?_
  refine r_giN E hw i 3 (N := 13) (C := RX6) (T := TX6) (st_lt hs_i) (st_c hs_i) (st_N hs_i) (by decide) (st_n hs_i (k := 3) (by decide)) iw_6 rfl lf_RX5_21 dX5_pairsAlike_1 ?_
  refine lv_aload_n hx hb dX5_pairsAlike_4 rfl (lv_at hl 1 rfl) ?_
  refine r_giN E hw i 3 (N := 13) (C := RX6) (T := TX6) (st_lt hs_i) (st_c hs_i) (st_N hs_i) (by decide) (st_n hs_i (k := 3) (by decide)) iw_6 rfl lf_RX5_21 dX5_pairsAlike_5 ?_
  refine lv_iconst (v := (1 : Int32)) hx hb dX5_pairsAlike_8 (by decide) ?_
  refine lv_isub hx hb dX5_pairsAlike_9 ?_
  refine lv_imul hx hb dX5_pairsAlike_10 ?_
  refine lv_iconst (v := (2 : Int32)) hx hb dX5_pairsAlike_11 (by decide) ?_
  refine lv_idiv hx hb dX5_pairsAlike_12 (by decide) ?_
  obtain ⟨y1, ey1, h⟩ := lt_some h
  refine lv_eqi ey1 ?_
  refine lv_istore_n (lv' := [(3, .int y1), (0, .ref (G.2.2 21)), (1, .ref (G.2.2 i)), (2, .ref (G.2.2 17))]) hx hb dX5_pairsAlike_13 rfl hl (by decide) rfl (fun ls hl => ?_)
  refine lv_lconst (v := (0 : Int64)) hx hb dX5_pairsAlike_14 (by decide) ?_
  refine lv_lstore (lv' := [(4, .long (0 : Int64)), (3, .int y1), (0, .ref (G.2.2 21)), (1, .ref (G.2.2 i)), (2, .ref (G.2.2 17))]) hx hb dX5_pairsAlike_15 hl (by decide) rfl (fun ls hl => ?_)
  refine lv_iconst (v := (0 : Int32)) hx hb dX5_pairsAlike_17 (by decide) ?_
  refine lv_istore (lv' := [(6, .int (0 : Int32)), (4, .long (0 : Int64)), (3, .int y1), (0, .ref (G.2.2 21)), (1, .ref (G.2.2 i)), (2, .ref (G.2.2 17))]) hx hb dX5_pairsAlike_18 hl (by decide) rfl (fun ls hl => ?_)
  obtain ⟨x13, h12, h⟩ := ob_R_some h
  have h := Option.some.inj h
  subst h
  exact wX5_pairsAlike_L20 E hs_i (fun q e => by subst e; exact kr) FV (V, y1, (0 : Int64), (0 : Int32)) h12 H locs ls hw (lv_sub hl [3, 4, 5, 2, 1, 0] rfl)
/-! ===== AllSawIt$Sight.fewestEyes(LAllSawIt$State;LAllSawIt$Law;I)I ===== -/
theorem dX5_fewestEyes_0 : decode cX5_fewestEyes 0 = .ok (.aload_n 0, 1) := by decide +kernel
theorem dX5_fewestEyes_1 : decode cX5_fewestEyes 1 = .ok (.aload_n 1, 1) := by decide +kernel
theorem dX5_fewestEyes_2 : decode cX5_fewestEyes 2 = .ok (.aload_n 2, 1) := by decide +kernel
theorem dX5_fewestEyes_3 : decode cX5_fewestEyes 3 = .ok (.iload_n 3, 1) := by decide +kernel
theorem dX5_fewestEyes_4 : decode cX5_fewestEyes 4 = .ok (.invokevirtual 56, 3) := by decide +kernel
theorem dX5_fewestEyes_7 : decode cX5_fewestEyes 7 = .ok (.istore 4, 2) := by decide +kernel
theorem dX5_fewestEyes_9 : decode cX5_fewestEyes 9 = .ok (.aload_n 1, 1) := by decide +kernel
theorem dX5_fewestEyes_10 : decode cX5_fewestEyes 10 = .ok (.invokevirtual 69, 3) := by decide +kernel
theorem dX5_fewestEyes_13 : decode cX5_fewestEyes 13 = .ok (.istore 5, 2) := by decide +kernel
theorem dX5_fewestEyes_15 : decode cX5_fewestEyes 15 = .ok (.iconst 0, 1) := by decide +kernel
theorem dX5_fewestEyes_16 : decode cX5_fewestEyes 16 = .ok (.istore 6, 2) := by decide +kernel
theorem dX5_fewestEyes_18 : decode cX5_fewestEyes 18 = .ok (.iload 6, 2) := by decide +kernel
theorem dX5_fewestEyes_20 : decode cX5_fewestEyes 20 = .ok (.aload_n 1, 1) := by decide +kernel
theorem dX5_fewestEyes_21 : decode cX5_fewestEyes 21 = .ok (.invokevirtual 69, 3) := by decide +kernel
theorem dX5_fewestEyes_24 : decode cX5_fewestEyes 24 = .ok (.if_icmp .gt 37, 3) := by decide +kernel
theorem dX5_fewestEyes_27 : decode cX5_fewestEyes 27 = .ok (.iload 6, 2) := by decide +kernel
theorem dX5_fewestEyes_29 : decode cX5_fewestEyes 29 = .ok (.invokestatic 38, 3) := by decide +kernel
theorem dX5_fewestEyes_32 : decode cX5_fewestEyes 32 = .ok (.iload 5, 2) := by decide +kernel
theorem dX5_fewestEyes_34 : decode cX5_fewestEyes 34 = .ok (.invokestatic 38, 3) := by decide +kernel
theorem dX5_fewestEyes_37 : decode cX5_fewestEyes 37 = .ok (.if_icmp .ge 18, 3) := by decide +kernel
theorem dX5_fewestEyes_40 : decode cX5_fewestEyes 40 = .ok (.aload_n 0, 1) := by decide +kernel
theorem dX5_fewestEyes_41 : decode cX5_fewestEyes 41 = .ok (.iload 6, 2) := by decide +kernel
theorem dX5_fewestEyes_43 : decode cX5_fewestEyes 43 = .ok (.invokevirtual 73, 3) := by decide +kernel
theorem dX5_fewestEyes_46 : decode cX5_fewestEyes 46 = .ok (.iload 4, 2) := by decide +kernel
theorem dX5_fewestEyes_48 : decode cX5_fewestEyes 48 = .ok (.if_icmp .ne 7, 3) := by decide +kernel
theorem dX5_fewestEyes_51 : decode cX5_fewestEyes 51 = .ok (.iload 6, 2) := by decide +kernel
theorem dX5_fewestEyes_53 : decode cX5_fewestEyes 53 = .ok (.istore 5, 2) := by decide +kernel
theorem dX5_fewestEyes_55 : decode cX5_fewestEyes 55 = .ok (.iinc 6 1, 3) := by decide +kernel
theorem dX5_fewestEyes_58 : decode cX5_fewestEyes 58 = .ok (.goto (-40), 3) := by decide +kernel
theorem dX5_fewestEyes_61 : decode cX5_fewestEyes 61 = .ok (.iload 5, 2) := by decide +kernel
theorem dX5_fewestEyes_63 : decode cX5_fewestEyes 63 = .ok (.ireturn, 1) := by decide +kernel
noncomputable def fX5_fewestEyes_L18 (V : VT) (i : Nat) (u4 : Int32) (u5 : Int32) (u6 : Int32) : Option ((VT × Int32 × Int32 × Int32) ⊕ (Int32 × VT)) := ob_R (fX6_allHouses V i) fun y7 => if y7 < u6 then (some (.inr ((u5, V)))) else (ob_R (fJ6_bitCount_0f7a4 V u6) fun y9 => ob_R (fJ6_bitCount_0f7a4 V u5) fun y11 => if y11 ≤ y9 then (lt_ (u6 + (1 : Int32)) fun y12 => some (.inl (V, u4, u5, y12))) else (ob_R (fX5_viewOf V u6) fun y14 => if y14 = u4 then (lt_ (u6 + (1 : Int32)) fun y16 => some (.inl (V, u4, u6, y16))) else (lt_ (u6 + (1 : Int32)) fun y15 => some (.inl (V, u4, u5, y15)))))
noncomputable def iX5_fewestEyes_L18 (i : Nat) : (VT × Int32 × Int32 × Int32) → Option ((VT × Int32 × Int32 × Int32) ⊕ (Int32 × VT)) := fun q => fX5_fewestEyes_L18 (q.1) i (q.2.1) (q.2.2.1) (q.2.2.2)
noncomputable def fX5_fewestEyes (V : VT) (i : Nat) (x1 : Int32) : Option (Int32 × VT) := ob_I (fX5_lookOut V i x1) fun y2 V3 => ob_R (fX6_allHouses V3 i) fun y5 => ob_R (it_ (iX5_fewestEyes_L18 i) FV (V3, y2, y5, (0 : Int32))) fun x21 => some x21
set_option maxHeartbeats 4000000 in
set_option maxRecDepth 100000 in
theorem wX5_fewestEyes_L18 {p : Program} {l : Launch} {e : Env} {s : State} {m : MethodId} {args : Array Value} {below : List Frame} {meth : Method} {c : Code} {G : GT} {B : BGt} {Q : State → Prop} (E : En p s m args c meth cX5_fewestEyes 7 RX5 (some .int) G B) {i : Nat} (hs_i : isSt i) {x : (Int32 × VT)} (kr : ∀ q : (Int32 × VT), x = q → Q = MQ below (QI G s.heap.size q.1 q.2) args s 0 0 (gA G s.heap.size)) : ∀ (n : Nat) (q : (VT × Int32 × Int32 × Int32)), it_ (iX5_fewestEyes_L18 i) n q = some x → ∀ (H : Heap) (locs : List Loc) (ls : Array Slot), HW G s.heap (q.1) H locs → lv_has ls 7 [(0, .ref (G.2.2 21)), (1, .ref (G.2.2 i)), (4, .int (q.2.1)), (5, .int (q.2.2.1)), (6, .int (q.2.2.2))] → W p l e (rmD 7) s m args below meth c H locs 0 0 Q (F0 m 18 ls []) := by
  have hx := en_x E
  have hb := en_b E
  have hB := en_B E
  refine it_W (fun q : (VT × Int32 × Int32 × Int32) => ∀ (H : Heap) (locs : List Loc) (ls : Array Slot), HW G s.heap (q.1) H locs → lv_has ls 7 [(0, .ref (G.2.2 21)), (1, .ref (G.2.2 i)), (4, .int (q.2.1)), (5, .int (q.2.2.1)), (6, .int (q.2.2.2))] → W p l e (rmD 7) s m args below meth c H locs 0 0 Q (F0 m 18 ls [])) x ?_
  intro q r h kc kx
  obtain ⟨V, u4, u5, u6⟩ := q
  intro H locs ls hw hl
  have h : fX5_fewestEyes_L18 V i u4 u5 u6 = some r := h
  have hw : HW G s.heap V H locs := hw
  have hl : lv_has ls 7 [(0, .ref (G.2.2 21)), (1, .ref (G.2.2 i)), (4, .int u4), (5, .int u5), (6, .int u6)] := hl
  have kr : ∀ q : (Int32 × VT), r = .inr (q) → Q = MQ below (QI G s.heap.size q.1 q.2) args s 0 0 (gA G s.heap.size) := fun q e => kr q (kx _ e).symm
  unfold fX5_fewestEyes_L18 at h
  refine lv_iload hx hb dX5_fewestEyes_18 (lv_at hl 4 rfl) ?_
  refine lv_aload_n hx hb dX5_fewestEyes_20 rfl (lv_at hl 1 rfl) ?_
  obtain ⟨y7, h6, h⟩ := ob_R_some h
  refine c_VI E hw (kX6_allHouses (l := l) (G := G) hB hs_i h6) yy_X6_allHouses lm_RX5_69 rfl (st_lt hs_i) (st_c hs_i) rfl hl.1 (by decide) (by decide) rfl (Nat.le_of_ble_eq_true rfl) dX5_fewestEyes_21 (fun H locs hw => ?_)
  refine lv_icmp_gt (tgt := 61) hx hb dX5_fewestEyes_24 (by decide) (fun c19 => ?_) (fun c19 => ?_)
  · rw [if_pos c19] at h
    refine lv_iload hx hb dX5_fewestEyes_61 (lv_at hl 3 rfl) ?_
    rw [kr (u5, V) (Option.some.inj h).symm]
    exact r_ri E hw dX5_fewestEyes_63
  · rw [if_neg c19] at h
    refine lv_iload hx hb dX5_fewestEyes_27 (lv_at hl 4 rfl) ?_
    obtain ⟨y9, h8, h⟩ := ob_R_some h
    refine c_SI E hw (kJ6_bitCount_0f7a4 (l := l) (G := G) hB  h8) yy_J6_bitCount_0f7a4 lm_RX5_38 rfl hl.1 (by decide) (by decide) rfl (Nat.le_of_ble_eq_true rfl) dX5_fewestEyes_29 (fun H locs hw => ?_)
    refine lv_iload hx hb dX5_fewestEyes_32 (lv_at hl 3 rfl) ?_
    obtain ⟨y11, h10, h⟩ := ob_R_some h
    refine c_SI E hw (kJ6_bitCount_0f7a4 (l := l) (G := G) hB  h10) yy_J6_bitCount_0f7a4 lm_RX5_38 rfl hl.1 (by decide) (by decide) rfl (Nat.le_of_ble_eq_true rfl) dX5_fewestEyes_34 (fun H locs hw => ?_)
    refine lv_icmp_ge (tgt := 55) hx hb dX5_fewestEyes_37 (by decide) (fun c18 => ?_) (fun c18 => ?_)
    · rw [if_pos c18] at h
      obtain ⟨y12, ey12, h⟩ := lt_some h
      refine lv_iinc (v := y12) (lv' := [(6, .int y12), (0, .ref (G.2.2 21)), (1, .ref (G.2.2 i)), (4, .int u4), (5, .int u5)]) hx hb dX5_fewestEyes_55 hl (k := 4) rfl (by rw [ey12]; rfl) (by decide) rfl (fun ls hl => ?_)
      refine lv_goto (tgt := 18) hx hb dX5_fewestEyes_58 (by decide) ?_
      exact kc (V, u4, u5, y12) (Option.some.inj h).symm H locs ls hw (lv_sub hl [1, 2, 3, 4, 0] rfl)
    · rw [if_neg c18] at h
      refine lv_aload_n hx hb dX5_fewestEyes_40 rfl (lv_at hl 0 rfl) ?_
      refine lv_iload hx hb dX5_fewestEyes_41 (lv_at hl 4 rfl) ?_
      obtain ⟨y14, h13, h⟩ := ob_R_some h
      refine c_VI E hw (kX5_viewOf (l := l) (G := G) hB  h13) yy_X5_viewOf lm_RX5_73 rfl (by decide) rfl rfl hl.1 (by decide) (by decide) rfl (Nat.le_of_ble_eq_true rfl) dX5_fewestEyes_43 (fun H locs hw => ?_)
      refine lv_iload hx hb dX5_fewestEyes_46 (lv_at hl 2 rfl) ?_
      refine lv_icmp_ne (tgt := 55) hx hb dX5_fewestEyes_48 (by decide) (fun c17 => ?_) (fun c17 => ?_)
      · rw [if_neg c17] at h
        obtain ⟨y15, ey15, h⟩ := lt_some h
        refine lv_iinc (v := y15) (lv' := [(6, .int y15), (0, .ref (G.2.2 21)), (1, .ref (G.2.2 i)), (4, .int u4), (5, .int u5)]) hx hb dX5_fewestEyes_55 hl (k := 4) rfl (by rw [ey15]; rfl) (by decide) rfl (fun ls hl => ?_)
        refine lv_goto (tgt := 18) hx hb dX5_fewestEyes_58 (by decide) ?_
        exact kc (V, u4, u5, y15) (Option.some.inj h).symm H locs ls hw (lv_sub hl [1, 2, 3, 4, 0] rfl)
      · rw [if_pos c17] at h
        refine lv_iload hx hb dX5_fewestEyes_51 (lv_at hl 4 rfl) ?_
        refine lv_istore (lv' := [(5, .int u6), (0, .ref (G.2.2 21)), (1, .ref (G.2.2 i)), (4, .int u4), (6, .int u6)]) hx hb dX5_fewestEyes_53 hl (by decide) rfl (fun ls hl => ?_)
        obtain ⟨y16, ey16, h⟩ := lt_some h
        refine lv_iinc (v := y16) (lv' := [(6, .int y16), (5, .int u6), (0, .ref (G.2.2 21)), (1, .ref (G.2.2 i)), (4, .int u4)]) hx hb dX5_fewestEyes_55 hl (k := 4) rfl (by rw [ey16]; rfl) (by decide) rfl (fun ls hl => ?_)
        refine lv_goto (tgt := 18) hx hb dX5_fewestEyes_58 (by decide) ?_
        exact kc (V, u4, u6, y16) (Option.some.inj h).symm H locs ls hw (lv_sub hl [2, 3, 4, 1, 0] rfl)
set_option maxHeartbeats 4000000 in
set_option maxRecDepth 100000 in
theorem kX5_fewestEyes {l : Launch} {G : GT} {B : BGt} (hB : BGok B) {V : VT} {i : Nat} (hs_i : isSt i) {x1 : Int32} {r : (Int32 × VT)} (h : fX5_fewestEyes V i x1 = some r) : CI l G B yX5_fewestEyes (.code yX5_fewestEyes cX5_fewestEyes 7 (some .int)) 7 [.ref (G.2.2 21), .ref (G.2.2 i), .ref (G.2.2 17), .int x1] V r.1 r.2 := by
  intro sz
  refine met_of (Qs := fun sz => QI G sz (r.1) (r.2)) hB (by decide) (Nat.le_of_ble_eq_true rfl) ?_ sz
  intro p e s m args below meth c ls E hw hl
  have hx := en_x E
  have hb := en_b E
  generalize hQ : MQ _ _ _ _ _ _ _ = Q
  have kr : Q = MQ below (QI G s.heap.size r.1 r.2) args s 0 0 (gA G s.heap.size) := hQ.symm
  have hl : lv_has ls 7 [(0, .ref (G.2.2 21)), (1, .ref (G.2.2 i)), (2, .ref (G.2.2 17)), (3, .int x1)] := hl
  obtain ⟨H, eH⟩ : ∃ H, H = s.heap := ⟨_, rfl⟩
  obtain ⟨locs, elocs⟩ : ∃ z : List Loc, z = [] := ⟨_, rfl⟩
  have hw : HW G s.heap V H locs := by rw [eH, elocs]; exact hw
  show W p l e _ s m args below meth c s.heap [] 0 0 Q (F0 m 0 ls [])
  rw [← eH, ← elocs]
  unfold fX5_fewestEyes at h
  refine lv_aload_n hx hb dX5_fewestEyes_0 rfl (lv_at hl 0 rfl) ?_
  refine lv_aload_n hx hb dX5_fewestEyes_1 rfl (lv_at hl 1 rfl) ?_
  refine lv_aload_n hx hb dX5_fewestEyes_2 rfl (lv_at hl 2 rfl) ?_
  refine lv_iload_n hx hb dX5_fewestEyes_3 rfl (lv_at hl 3 rfl) ?_
  obtain ⟨y2, V3, h1, h⟩ := ob_I_some h
  refine c_VI E hw (kX5_lookOut (l := l) (G := G) hB hs_i h1) yy_X5_lookOut lm_RX5_56 rfl (by decide) rfl rfl hl.1 (by decide) (by decide) rfl (Nat.le_of_ble_eq_true rfl) dX5_fewestEyes_4 (fun H locs hw => ?_)
  refine lv_istore (lv' := [(4, .int y2), (0, .ref (G.2.2 21)), (1, .ref (G.2.2 i)), (2, .ref (G.2.2 17)), (3, .int x1)]) hx hb dX5_fewestEyes_7 hl (by decide) rfl (fun ls hl => ?_)
  refine lv_aload_n hx hb dX5_fewestEyes_9 rfl (lv_at hl 2 rfl) ?_
  obtain ⟨y5, h4, h⟩ := ob_R_some h
  refine c_VI E hw (kX6_allHouses (l := l) (G := G) hB hs_i h4) yy_X6_allHouses lm_RX5_69 rfl (st_lt hs_i) (st_c hs_i) rfl hl.1 (by decide) (by decide) rfl (Nat.le_of_ble_eq_true rfl) dX5_fewestEyes_10 (fun H locs hw => ?_)
  refine lv_istore (lv' := [(5, .int y5), (4, .int y2), (0, .ref (G.2.2 21)), (1, .ref (G.2.2 i)), (2, .ref (G.2.2 17)), (3, .int x1)]) hx hb dX5_fewestEyes_13 hl (by decide) rfl (fun ls hl => ?_)
  refine lv_iconst (v := (0 : Int32)) hx hb dX5_fewestEyes_15 (by decide) ?_
  refine lv_istore (lv' := [(6, .int (0 : Int32)), (5, .int y5), (4, .int y2), (0, .ref (G.2.2 21)), (1, .ref (G.2.2 i)), (2, .ref (G.2.2 17)), (3, .int x1)]) hx hb dX5_fewestEyes_16 hl (by decide) rfl (fun ls hl => ?_)
  obtain ⟨x21, h20, h⟩ := ob_R_some h
  have h := Option.some.inj h
  subst h
  exact wX5_fewestEyes_L18 E hs_i (fun q e => by subst e; exact kr) FV (V3, y2, y5, (0 : Int32)) h20 H locs ls hw (lv_sub hl [3, 4, 2, 1, 0] rfl)
/-! ===== AllSawIt$Sight.goAlong(LAllSawIt$State;LAllSawIt$Law;I)V ===== -/
theorem dX5_goAlong_0 : decode cX5_goAlong 0 = .ok (.ldc 76, 2) := by decide +kernel
theorem dX5_goAlong_2 : decode cX5_goAlong 2 = .ok (.istore 4, 2) := by decide +kernel
theorem dX5_goAlong_4 : decode cX5_goAlong 4 = .ok (.iconst 0, 1) := by decide +kernel
theorem dX5_goAlong_5 : decode cX5_goAlong 5 = .ok (.istore 5, 2) := by decide +kernel
theorem dX5_goAlong_7 : decode cX5_goAlong 7 = .ok (.iload 5, 2) := by decide +kernel
theorem dX5_goAlong_9 : decode cX5_goAlong 9 = .ok (.aload_n 0, 1) := by decide +kernel
theorem dX5_goAlong_10 : decode cX5_goAlong 10 = .ok (.getfield 9, 3) := by decide +kernel
theorem dX5_goAlong_13 : decode cX5_goAlong 13 = .ok (.arraylength, 1) := by decide +kernel
theorem dX5_goAlong_14 : decode cX5_goAlong 14 = .ok (.if_icmp .ge 73, 3) := by decide +kernel
theorem dX5_goAlong_17 : decode cX5_goAlong 17 = .ok (.iload 5, 2) := by decide +kernel
theorem dX5_goAlong_19 : decode cX5_goAlong 19 = .ok (.aload_n 0, 1) := by decide +kernel
theorem dX5_goAlong_20 : decode cX5_goAlong 20 = .ok (.getfield 15, 3) := by decide +kernel
theorem dX5_goAlong_23 : decode cX5_goAlong 23 = .ok (.arraylength, 1) := by decide +kernel
theorem dX5_goAlong_24 : decode cX5_goAlong 24 = .ok (.if_icmp .ge 63, 3) := by decide +kernel
theorem dX5_goAlong_27 : decode cX5_goAlong 27 = .ok (.aload_n 0, 1) := by decide +kernel
theorem dX5_goAlong_28 : decode cX5_goAlong 28 = .ok (.getfield 15, 3) := by decide +kernel
theorem dX5_goAlong_31 : decode cX5_goAlong 31 = .ok (.iload 5, 2) := by decide +kernel
theorem dX5_goAlong_33 : decode cX5_goAlong 33 = .ok (.aload_n 1, 1) := by decide +kernel
theorem dX5_goAlong_34 : decode cX5_goAlong 34 = .ok (.aload_n 2, 1) := by decide +kernel
theorem dX5_goAlong_35 : decode cX5_goAlong 35 = .ok (.iload 5, 2) := by decide +kernel
theorem dX5_goAlong_37 : decode cX5_goAlong 37 = .ok (.iload_n 3, 1) := by decide +kernel
theorem dX5_goAlong_38 : decode cX5_goAlong 38 = .ok (.invokestatic 44, 3) := by decide +kernel
theorem dX5_goAlong_41 : decode cX5_goAlong 41 = .ok (.invokestatic 38, 3) := by decide +kernel
theorem dX5_goAlong_44 : decode cX5_goAlong 44 = .ok (.iastore, 1) := by decide +kernel
theorem dX5_goAlong_45 : decode cX5_goAlong 45 = .ok (.aload_n 0, 1) := by decide +kernel
theorem dX5_goAlong_46 : decode cX5_goAlong 46 = .ok (.getfield 9, 3) := by decide +kernel
theorem dX5_goAlong_49 : decode cX5_goAlong 49 = .ok (.iload 5, 2) := by decide +kernel
theorem dX5_goAlong_51 : decode cX5_goAlong 51 = .ok (.aload_n 0, 1) := by decide +kernel
theorem dX5_goAlong_52 : decode cX5_goAlong 52 = .ok (.getfield 9, 3) := by decide +kernel
theorem dX5_goAlong_55 : decode cX5_goAlong 55 = .ok (.iload 5, 2) := by decide +kernel
theorem dX5_goAlong_57 : decode cX5_goAlong 57 = .ok (.iaload, 1) := by decide +kernel
theorem dX5_goAlong_58 : decode cX5_goAlong 58 = .ok (.iload 4, 2) := by decide +kernel
theorem dX5_goAlong_60 : decode cX5_goAlong 60 = .ok (.invokestatic 53, 3) := by decide +kernel
theorem dX5_goAlong_63 : decode cX5_goAlong 63 = .ok (.aload_n 0, 1) := by decide +kernel
theorem dX5_goAlong_64 : decode cX5_goAlong 64 = .ok (.getfield 15, 3) := by decide +kernel
theorem dX5_goAlong_67 : decode cX5_goAlong 67 = .ok (.iload 5, 2) := by decide +kernel
theorem dX5_goAlong_69 : decode cX5_goAlong 69 = .ok (.iaload, 1) := by decide +kernel
theorem dX5_goAlong_70 : decode cX5_goAlong 70 = .ok (.iadd, 1) := by decide +kernel
theorem dX5_goAlong_71 : decode cX5_goAlong 71 = .ok (.iastore, 1) := by decide +kernel
theorem dX5_goAlong_72 : decode cX5_goAlong 72 = .ok (.aload_n 0, 1) := by decide +kernel
theorem dX5_goAlong_73 : decode cX5_goAlong 73 = .ok (.getfield 9, 3) := by decide +kernel
theorem dX5_goAlong_76 : decode cX5_goAlong 76 = .ok (.iload 5, 2) := by decide +kernel
theorem dX5_goAlong_78 : decode cX5_goAlong 78 = .ok (.iaload, 1) := by decide +kernel
theorem dX5_goAlong_79 : decode cX5_goAlong 79 = .ok (.istore 4, 2) := by decide +kernel
theorem dX5_goAlong_81 : decode cX5_goAlong 81 = .ok (.iinc 5 1, 3) := by decide +kernel
theorem dX5_goAlong_84 : decode cX5_goAlong 84 = .ok (.goto (-77), 3) := by decide +kernel
theorem dX5_goAlong_87 : decode cX5_goAlong 87 = .ok (.ldc 76, 2) := by decide +kernel
theorem dX5_goAlong_89 : decode cX5_goAlong 89 = .ok (.istore 4, 2) := by decide +kernel
theorem dX5_goAlong_91 : decode cX5_goAlong 91 = .ok (.aload_n 0, 1) := by decide +kernel
theorem dX5_goAlong_92 : decode cX5_goAlong 92 = .ok (.getfield 9, 3) := by decide +kernel
theorem dX5_goAlong_95 : decode cX5_goAlong 95 = .ok (.arraylength, 1) := by decide +kernel
theorem dX5_goAlong_96 : decode cX5_goAlong 96 = .ok (.aload_n 0, 1) := by decide +kernel
theorem dX5_goAlong_97 : decode cX5_goAlong 97 = .ok (.getfield 15, 3) := by decide +kernel
theorem dX5_goAlong_100 : decode cX5_goAlong 100 = .ok (.arraylength, 1) := by decide +kernel
theorem dX5_goAlong_101 : decode cX5_goAlong 101 = .ok (.invokestatic 53, 3) := by decide +kernel
theorem dX5_goAlong_104 : decode cX5_goAlong 104 = .ok (.iconst 1, 1) := by decide +kernel
theorem dX5_goAlong_105 : decode cX5_goAlong 105 = .ok (.isub, 1) := by decide +kernel
theorem dX5_goAlong_106 : decode cX5_goAlong 106 = .ok (.istore 5, 2) := by decide +kernel
theorem dX5_goAlong_108 : decode cX5_goAlong 108 = .ok (.iload 5, 2) := by decide +kernel
theorem dX5_goAlong_110 : decode cX5_goAlong 110 = .ok (.ifCond .lt 45, 3) := by decide +kernel
theorem dX5_goAlong_113 : decode cX5_goAlong 113 = .ok (.aload_n 0, 1) := by decide +kernel
theorem dX5_goAlong_114 : decode cX5_goAlong 114 = .ok (.getfield 9, 3) := by decide +kernel
theorem dX5_goAlong_117 : decode cX5_goAlong 117 = .ok (.iload 5, 2) := by decide +kernel
theorem dX5_goAlong_119 : decode cX5_goAlong 119 = .ok (.aload_n 0, 1) := by decide +kernel
theorem dX5_goAlong_120 : decode cX5_goAlong 120 = .ok (.getfield 9, 3) := by decide +kernel
theorem dX5_goAlong_123 : decode cX5_goAlong 123 = .ok (.iload 5, 2) := by decide +kernel
theorem dX5_goAlong_125 : decode cX5_goAlong 125 = .ok (.iaload, 1) := by decide +kernel
theorem dX5_goAlong_126 : decode cX5_goAlong 126 = .ok (.iload 4, 2) := by decide +kernel
theorem dX5_goAlong_128 : decode cX5_goAlong 128 = .ok (.aload_n 0, 1) := by decide +kernel
theorem dX5_goAlong_129 : decode cX5_goAlong 129 = .ok (.getfield 15, 3) := by decide +kernel
theorem dX5_goAlong_132 : decode cX5_goAlong 132 = .ok (.iload 5, 2) := by decide +kernel
theorem dX5_goAlong_134 : decode cX5_goAlong 134 = .ok (.iaload, 1) := by decide +kernel
theorem dX5_goAlong_135 : decode cX5_goAlong 135 = .ok (.iadd, 1) := by decide +kernel
theorem dX5_goAlong_136 : decode cX5_goAlong 136 = .ok (.invokestatic 53, 3) := by decide +kernel
theorem dX5_goAlong_139 : decode cX5_goAlong 139 = .ok (.iastore, 1) := by decide +kernel
theorem dX5_goAlong_140 : decode cX5_goAlong 140 = .ok (.aload_n 0, 1) := by decide +kernel
theorem dX5_goAlong_141 : decode cX5_goAlong 141 = .ok (.getfield 9, 3) := by decide +kernel
theorem dX5_goAlong_144 : decode cX5_goAlong 144 = .ok (.iload 5, 2) := by decide +kernel
theorem dX5_goAlong_146 : decode cX5_goAlong 146 = .ok (.iaload, 1) := by decide +kernel
theorem dX5_goAlong_147 : decode cX5_goAlong 147 = .ok (.istore 4, 2) := by decide +kernel
theorem dX5_goAlong_149 : decode cX5_goAlong 149 = .ok (.iinc 5 (-1), 3) := by decide +kernel
theorem dX5_goAlong_152 : decode cX5_goAlong 152 = .ok (.goto (-44), 3) := by decide +kernel
theorem dX5_goAlong_155 : decode cX5_goAlong 155 = .ok (.return_, 1) := by decide +kernel
noncomputable def fX5_goAlong_L7 (V : VT) (i : Nat) (u3 : Int32) (u4 : Int32) (u5 : Int32) : Option ((VT × Int32 × Int32 × Int32) ⊕ VT) := if (nI 24) ≤ u5 then (some (.inr (V))) else (if (nI 24) ≤ u5 then (some (.inr (V))) else (ob_I (fX5_witnessBits V i u5 u3) fun y2 V3 => ob_R (fJ6_bitCount_0f7a4 V3 y2) fun y5 => rd_ u5 24 (lt_ (va_up V3 74 (upd (V3 74) u5.toNatClampNeg y5)) fun V7 => rd_ u5 24 (rd_ u5 24 (rd_ u5 24 (lt_ (va_up V7 73 (upd (V7 73) u5.toNatClampNeg ((if u4 < (V7 73 u5.toNatClampNeg) then u4 else (V7 73 u5.toNatClampNeg)) + (V7 74 u5.toNatClampNeg)))) fun V11 => rd_ u5 24 (lt_ (V11 73 u5.toNatClampNeg) fun y13 => lt_ (u5 + (1 : Int32)) fun y14 => some (.inl (V11, u3, y13, y14)))))))))
noncomputable def iX5_goAlong_L7 (i : Nat) : (VT × Int32 × Int32 × Int32) → Option ((VT × Int32 × Int32 × Int32) ⊕ VT) := fun q => fX5_goAlong_L7 (q.1) i (q.2.1) (q.2.2.1) (q.2.2.2)
noncomputable def fX5_goAlong_L108 (V : VT) (i : Nat) (u4 : Int32) (u5 : Int32) : Option ((VT × Int32 × Int32) ⊕ VT) := if u5 < 0 then (some (.inr (V))) else (rd_ u5 24 (rd_ u5 24 (rd_ u5 24 (lt_ (va_up V 73 (upd (V 73) u5.toNatClampNeg (if (u4 + (V 74 u5.toNatClampNeg)) < (V 73 u5.toNatClampNeg) then (u4 + (V 74 u5.toNatClampNeg)) else (V 73 u5.toNatClampNeg)))) fun V24 => rd_ u5 24 (lt_ (V24 73 u5.toNatClampNeg) fun y26 => lt_ (u5 + (-1 : Int32)) fun y27 => some (.inl (V24, y26, y27)))))))
noncomputable def iX5_goAlong_L108 (i : Nat) : (VT × Int32 × Int32) → Option ((VT × Int32 × Int32) ⊕ VT) := fun q => fX5_goAlong_L108 (q.1) i (q.2.1) (q.2.2)
noncomputable def fX5_goAlong_j87 (V : VT) (i : Nat) : Option VT := lt_ ((if (nI 24) < (nI 24) then (nI 24) else (nI 24)) - (1 : Int32)) fun y20 => ob_R (it_ (iX5_goAlong_L108 i) FV (V, (1000000 : Int32), y20)) fun x30 => some x30
noncomputable def fX5_goAlong (V : VT) (i : Nat) (x1 : Int32) : Option VT := ob_R (it_ (iX5_goAlong_L7 i) FV (V, x1, (1000000 : Int32), (0 : Int32))) fun x18 => (lt_ x18 fun V19 => fX5_goAlong_j87 V19 i)
set_option maxHeartbeats 4000000 in
set_option maxRecDepth 100000 in
theorem wX5_goAlong_L7 {p : Program} {l : Launch} {e : Env} {s : State} {m : MethodId} {args : Array Value} {below : List Frame} {meth : Method} {c : Code} {G : GT} {B : BGt} {Q : State → Prop} (E : En p s m args c meth cX5_goAlong 6 RX5 none G B) {i : Nat} (hs_i : isSt i) {x : VT} (ke : ∀ q : VT, x = q → ∀ (H : Heap) (locs : List Loc) (ls : Array Slot), HW G s.heap q H locs → lv_has ls 6 [(0, .ref (G.2.2 21))] → W p l e (rmD 6) s m args below meth c H locs 0 0 Q (F0 m 87 ls [])) : ∀ (n : Nat) (q : (VT × Int32 × Int32 × Int32)), it_ (iX5_goAlong_L7 i) n q = some x → ∀ (H : Heap) (locs : List Loc) (ls : Array Slot), HW G s.heap (q.1) H locs → lv_has ls 6 [(0, .ref (G.2.2 21)), (1, .ref (G.2.2 i)), (2, .ref (G.2.2 17)), (3, .int (q.2.1)), (4, .int (q.2.2.1)), (5, .int (q.2.2.2))] → W p l e (rmD 6) s m args below meth c H locs 0 0 Q (F0 m 7 ls []) := by
  have hx := en_x E
  have hb := en_b E
  have hB := en_B E
  refine it_W (fun q : (VT × Int32 × Int32 × Int32) => ∀ (H : Heap) (locs : List Loc) (ls : Array Slot), HW G s.heap (q.1) H locs → lv_has ls 6 [(0, .ref (G.2.2 21)), (1, .ref (G.2.2 i)), (2, .ref (G.2.2 17)), (3, .int (q.2.1)), (4, .int (q.2.2.1)), (5, .int (q.2.2.2))] → W p l e (rmD 6) s m args below meth c H locs 0 0 Q (F0 m 7 ls [])) x ?_
  intro q r h kc kx
  obtain ⟨V, u3, u4, u5⟩ := q
  intro H locs ls hw hl
  have h : fX5_goAlong_L7 V i u3 u4 u5 = some r := h
  have hw : HW G s.heap V H locs := hw
  have hl : lv_has ls 6 [(0, .ref (G.2.2 21)), (1, .ref (G.2.2 i)), (2, .ref (G.2.2 17)), (3, .int u3), (4, .int u4), (5, .int u5)] := hl
  have ke : ∀ q : VT, r = .inr (q) → ∀ (H : Heap) (locs : List Loc) (ls : Array Slot), HW G s.heap q H locs → lv_has ls 6 [(0, .ref (G.2.2 21))] → W p l e (rmD 6) s m args below meth c H locs 0 0 Q (F0 m 87 ls []) := fun q e => ke q (kx _ e).symm
  unfold fX5_goAlong_L7 at h
  refine lv_iload hx hb dX5_goAlong_7 (lv_at hl 5 rfl) ?_
  refine lv_aload_n hx hb dX5_goAlong_9 rfl (lv_at hl 0 rfl) ?_
  refine r_gr E hw 21 0 73 (N := 3) (C := RX5) (T := TX5) (by decide) rfl rfl (by decide) rfl iw_5 rfl lf_RX5_9 dX5_goAlong_10 ?_
  refine r_al E hw 73 24 (by decide) (by decide) (by decide) rfl dX5_goAlong_13 ?_
  refine lv_icmp_ge (tgt := 87) hx hb dX5_goAlong_14 (by decide) (fun c16 => ?_) (fun c16 => ?_)
  · rw [if_pos c16] at h
    exact ke V (Option.some.inj h).symm H locs ls hw (lv_sub hl [0] rfl)
  · rw [if_neg c16] at h
    refine lv_iload hx hb dX5_goAlong_17 (lv_at hl 5 rfl) ?_
    refine lv_aload_n hx hb dX5_goAlong_19 rfl (lv_at hl 0 rfl) ?_
    refine r_gr E hw 21 1 74 (N := 3) (C := RX5) (T := TX5) (by decide) rfl rfl (by decide) rfl iw_5 rfl lf_RX5_15 dX5_goAlong_20 ?_
    refine r_al E hw 74 24 (by decide) (by decide) (by decide) rfl dX5_goAlong_23 ?_
    refine lv_icmp_ge (tgt := 87) hx hb dX5_goAlong_24 (by decide) (fun c15 => ?_) (fun c15 => ?_)
    · rw [if_pos c15] at h
      exact ke V (Option.some.inj h).symm H locs ls hw (lv_sub hl [0] rfl)
    · rw [if_neg c15] at h
      refine lv_aload_n hx hb dX5_goAlong_27 rfl (lv_at hl 0 rfl) ?_
      refine r_gr E hw 21 1 74 (N := 3) (C := RX5) (T := TX5) (by decide) rfl rfl (by decide) rfl iw_5 rfl lf_RX5_15 dX5_goAlong_28 ?_
      refine lv_iload hx hb dX5_goAlong_31 (lv_at hl 5 rfl) ?_
      refine lv_aload_n hx hb dX5_goAlong_33 rfl (lv_at hl 1 rfl) ?_
      refine lv_aload_n hx hb dX5_goAlong_34 rfl (lv_at hl 2 rfl) ?_
      refine lv_iload hx hb dX5_goAlong_35 (lv_at hl 5 rfl) ?_
      refine lv_iload_n hx hb dX5_goAlong_37 rfl (lv_at hl 3 rfl) ?_
      obtain ⟨y2, V3, h1, h⟩ := ob_I_some h
      refine c_SI E hw (kX5_witnessBits (l := l) (G := G) hB hs_i h1) yy_X5_witnessBits lm_RX5_44 rfl hl.1 (by decide) (by decide) rfl (Nat.le_of_ble_eq_true rfl) dX5_goAlong_38 (fun H locs hw => ?_)
      obtain ⟨y5, h4, h⟩ := ob_R_some h
      refine c_SI E hw (kJ6_bitCount_0f7a4 (l := l) (G := G) hB  h4) yy_J6_bitCount_0f7a4 lm_RX5_38 rfl hl.1 (by decide) (by decide) rfl (Nat.le_of_ble_eq_true rfl) dX5_goAlong_41 (fun H locs hw => ?_)
      obtain ⟨b6, h⟩ := rd_some h
      obtain ⟨V7, eV7, h⟩ := lt_some h
      refine r_is E hw 74 24 (by decide) (by decide) (by decide) rfl rfl b6 eV7 dX5_goAlong_44 (fun H locs hw => ?_)
      refine lv_aload_n hx hb dX5_goAlong_45 rfl (lv_at hl 0 rfl) ?_
      refine r_gr E hw 21 0 73 (N := 3) (C := RX5) (T := TX5) (by decide) rfl rfl (by decide) rfl iw_5 rfl lf_RX5_9 dX5_goAlong_46 ?_
      refine lv_iload hx hb dX5_goAlong_49 (lv_at hl 5 rfl) ?_
      refine lv_aload_n hx hb dX5_goAlong_51 rfl (lv_at hl 0 rfl) ?_
      refine r_gr E hw 21 0 73 (N := 3) (C := RX5) (T := TX5) (by decide) rfl rfl (by decide) rfl iw_5 rfl lf_RX5_9 dX5_goAlong_52 ?_
      refine lv_iload hx hb dX5_goAlong_55 (lv_at hl 5 rfl) ?_
      obtain ⟨b8, h⟩ := rd_some h
      refine r_ia E hw 73 24 (by decide) (by decide) (by decide) rfl rfl b8 dX5_goAlong_57 ?_
      refine lv_iload hx hb dX5_goAlong_58 (lv_at hl 4 rfl) ?_
      refine r_min E hl.1 lm_RX5_53 (by decide) (Nat.le_of_ble_eq_true rfl) dX5_goAlong_60 ?_
      refine lv_aload_n hx hb dX5_goAlong_63 rfl (lv_at hl 0 rfl) ?_
      refine r_gr E hw 21 1 74 (N := 3) (C := RX5) (T := TX5) (by decide) rfl rfl (by decide) rfl iw_5 rfl lf_RX5_15 dX5_goAlong_64 ?_
      refine lv_iload hx hb dX5_goAlong_67 (lv_at hl 5 rfl) ?_
      obtain ⟨b9, h⟩ := rd_some h
      refine r_ia E hw 74 24 (by decide) (by decide) (by decide) rfl rfl b9 dX5_goAlong_69 ?_
      refine lv_iadd hx hb dX5_goAlong_70 ?_
      obtain ⟨b10, h⟩ := rd_some h
      obtain ⟨V11, eV11, h⟩ := lt_some h
      refine r_is E hw 73 24 (by decide) (by decide) (by decide) rfl rfl b10 eV11 dX5_goAlong_71 (fun H locs hw => ?_)
      refine lv_aload_n hx hb dX5_goAlong_72 rfl (lv_at hl 0 rfl) ?_
      refine r_gr E hw 21 0 73 (N := 3) (C := RX5) (T := TX5) (by decide) rfl rfl (by decide) rfl iw_5 rfl lf_RX5_9 dX5_goAlong_73 ?_
      refine lv_iload hx hb dX5_goAlong_76 (lv_at hl 5 rfl) ?_
      obtain ⟨b12, h⟩ := rd_some h
      refine r_ia E hw 73 24 (by decide) (by decide) (by decide) rfl rfl b12 dX5_goAlong_78 ?_
      obtain ⟨y13, ey13, h⟩ := lt_some h
      refine lv_eqi ey13 ?_
      refine lv_istore (lv' := [(4, .int y13), (0, .ref (G.2.2 21)), (1, .ref (G.2.2 i)), (2, .ref (G.2.2 17)), (3, .int u3), (5, .int u5)]) hx hb dX5_goAlong_79 hl (by decide) rfl (fun ls hl => ?_)
      obtain ⟨y14, ey14, h⟩ := lt_some h
      refine lv_iinc (v := y14) (lv' := [(5, .int y14), (4, .int y13), (0, .ref (G.2.2 21)), (1, .ref (G.2.2 i)), (2, .ref (G.2.2 17)), (3, .int u3)]) hx hb dX5_goAlong_81 hl (k := 5) rfl (by rw [ey14]; rfl) (by decide) rfl (fun ls hl => ?_)
      refine lv_goto (tgt := 7) hx hb dX5_goAlong_84 (by decide) ?_
      exact kc (V11, u3, y13, y14) (Option.some.inj h).symm H locs ls hw (lv_sub hl [2, 3, 4, 5, 1, 0] rfl)
set_option maxHeartbeats 4000000 in
set_option maxRecDepth 100000 in
theorem wX5_goAlong_L108 {p : Program} {l : Launch} {e : Env} {s : State} {m : MethodId} {args : Array Value} {below : List Frame} {meth : Method} {c : Code} {G : GT} {B : BGt} {Q : State → Prop} (E : En p s m args c meth cX5_goAlong 6 RX5 none G B) {i : Nat} (hs_i : isSt i) {x : VT} (kr : ∀ q : VT, x = q → Q = MQ below (QV G s.heap.size q) args s 0 0 (gA G s.heap.size)) : ∀ (n : Nat) (q : (VT × Int32 × Int32)), it_ (iX5_goAlong_L108 i) n q = some x → ∀ (H : Heap) (locs : List Loc) (ls : Array Slot), HW G s.heap (q.1) H locs → lv_has ls 6 [(0, .ref (G.2.2 21)), (4, .int (q.2.1)), (5, .int (q.2.2))] → W p l e (rmD 6) s m args below meth c H locs 0 0 Q (F0 m 108 ls []) := by
  have hx := en_x E
  have hb := en_b E
  have hB := en_B E
  refine it_W (fun q : (VT × Int32 × Int32) => ∀ (H : Heap) (locs : List Loc) (ls : Array Slot), HW G s.heap (q.1) H locs → lv_has ls 6 [(0, .ref (G.2.2 21)), (4, .int (q.2.1)), (5, .int (q.2.2))] → W p l e (rmD 6) s m args below meth c H locs 0 0 Q (F0 m 108 ls [])) x ?_
  intro q r h kc kx
  obtain ⟨V, u4, u5⟩ := q
  intro H locs ls hw hl
  have h : fX5_goAlong_L108 V i u4 u5 = some r := h
  have hw : HW G s.heap V H locs := hw
  have hl : lv_has ls 6 [(0, .ref (G.2.2 21)), (4, .int u4), (5, .int u5)] := hl
  have kr : ∀ q : VT, r = .inr (q) → Q = MQ below (QV G s.heap.size q) args s 0 0 (gA G s.heap.size) := fun q e => kr q (kx _ e).symm
  unfold fX5_goAlong_L108 at h
  refine lv_iload hx hb dX5_goAlong_108 (lv_at hl 2 rfl) ?_
  refine lv_if_lt (tgt := 155) hx hb dX5_goAlong_110 (by decide) (fun c28 => ?_) (fun c28 => ?_)
  · rw [if_pos c28] at h
    rw [kr V (Option.some.inj h).symm]
    exact r_rv E hw dX5_goAlong_155
  · rw [if_neg c28] at h
    refine lv_aload_n hx hb dX5_goAlong_113 rfl (lv_at hl 0 rfl) ?_
    refine r_gr E hw 21 0 73 (N := 3) (C := RX5) (T := TX5) (by decide) rfl rfl (by decide) rfl iw_5 rfl lf_RX5_9 dX5_goAlong_114 ?_
    refine lv_iload hx hb dX5_goAlong_117 (lv_at hl 2 rfl) ?_
    refine lv_aload_n hx hb dX5_goAlong_119 rfl (lv_at hl 0 rfl) ?_
    refine r_gr E hw 21 0 73 (N := 3) (C := RX5) (T := TX5) (by decide) rfl rfl (by decide) rfl iw_5 rfl lf_RX5_9 dX5_goAlong_120 ?_
    refine lv_iload hx hb dX5_goAlong_123 (lv_at hl 2 rfl) ?_
    obtain ⟨b21, h⟩ := rd_some h
    refine r_ia E hw 73 24 (by decide) (by decide) (by decide) rfl rfl b21 dX5_goAlong_125 ?_
    refine lv_iload hx hb dX5_goAlong_126 (lv_at hl 1 rfl) ?_
    refine lv_aload_n hx hb dX5_goAlong_128 rfl (lv_at hl 0 rfl) ?_
    refine r_gr E hw 21 1 74 (N := 3) (C := RX5) (T := TX5) (by decide) rfl rfl (by decide) rfl iw_5 rfl lf_RX5_15 dX5_goAlong_129 ?_
    refine lv_iload hx hb dX5_goAlong_132 (lv_at hl 2 rfl) ?_
    obtain ⟨b22, h⟩ := rd_some h
    refine r_ia E hw 74 24 (by decide) (by decide) (by decide) rfl rfl b22 dX5_goAlong_134 ?_
    refine lv_iadd hx hb dX5_goAlong_135 ?_
    refine r_min E hl.1 lm_RX5_53 (by decide) (Nat.le_of_ble_eq_true rfl) dX5_goAlong_136 ?_
    obtain ⟨b23, h⟩ := rd_some h
    obtain ⟨V24, eV24, h⟩ := lt_some h
    refine r_is E hw 73 24 (by decide) (by decide) (by decide) rfl rfl b23 eV24 dX5_goAlong_139 (fun H locs hw => ?_)
    refine lv_aload_n hx hb dX5_goAlong_140 rfl (lv_at hl 0 rfl) ?_
    refine r_gr E hw 21 0 73 (N := 3) (C := RX5) (T := TX5) (by decide) rfl rfl (by decide) rfl iw_5 rfl lf_RX5_9 dX5_goAlong_141 ?_
    refine lv_iload hx hb dX5_goAlong_144 (lv_at hl 2 rfl) ?_
    obtain ⟨b25, h⟩ := rd_some h
    refine r_ia E hw 73 24 (by decide) (by decide) (by decide) rfl rfl b25 dX5_goAlong_146 ?_
    obtain ⟨y26, ey26, h⟩ := lt_some h
    refine lv_eqi ey26 ?_
    refine lv_istore (lv' := [(4, .int y26), (0, .ref (G.2.2 21)), (5, .int u5)]) hx hb dX5_goAlong_147 hl (by decide) rfl (fun ls hl => ?_)
    obtain ⟨y27, ey27, h⟩ := lt_some h
    refine lv_iinc (v := y27) (lv' := [(5, .int y27), (4, .int y26), (0, .ref (G.2.2 21))]) hx hb dX5_goAlong_149 hl (k := 2) rfl (by rw [ey27]; rfl) (by decide) rfl (fun ls hl => ?_)
    refine lv_goto (tgt := 108) hx hb dX5_goAlong_152 (by decide) ?_
    exact kc (V24, y26, y27) (Option.some.inj h).symm H locs ls hw (lv_sub hl [2, 1, 0] rfl)
set_option maxHeartbeats 4000000 in
set_option maxRecDepth 100000 in
theorem wX5_goAlong_j87 {p : Program} {l : Launch} {e : Env} {s : State} {m : MethodId} {args : Array Value} {below : List Frame} {meth : Method} {c : Code} {G : GT} {B : BGt} {Q : State → Prop} (E : En p s m args c meth cX5_goAlong 6 RX5 none G B) {i : Nat} (hs_i : isSt i) {V : VT} {r : VT} (h : fX5_goAlong_j87 V i = some r) (kr : Q = MQ below (QV G s.heap.size r) args s 0 0 (gA G s.heap.size)) {H : Heap} {locs : List Loc} {ls : Array Slot} (hw : HW G s.heap V H locs) (hl : lv_has ls 6 [(0, .ref (G.2.2 21))]) : W p l e (rmD 6) s m args below meth c H locs 0 0 Q (F0 m 87 ls []) := by
  have hx := en_x E
  have hb := en_b E
  have hB := en_B E
  unfold fX5_goAlong_j87 at h
  refine lv_ldc (own := RX5) (v := (1000000 : Int32)) hx hb E.2.2.2.1 (en_w E kn_RX5_76 rfl) dX5_goAlong_87 ?_
  refine lv_istore (lv' := [(4, .int (1000000 : Int32)), (0, .ref (G.2.2 21))]) hx hb dX5_goAlong_89 hl (by decide) rfl (fun ls hl => ?_)
  refine lv_aload_n hx hb dX5_goAlong_91 rfl (lv_at hl 1 rfl) ?_
  refine r_gr E hw 21 0 73 (N := 3) (C := RX5) (T := TX5) (by decide) rfl rfl (by decide) rfl iw_5 rfl lf_RX5_9 dX5_goAlong_92 ?_
  refine r_al E hw 73 24 (by decide) (by decide) (by decide) rfl dX5_goAlong_95 ?_
  refine lv_aload_n hx hb dX5_goAlong_96 rfl (lv_at hl 1 rfl) ?_
  refine r_gr E hw 21 1 74 (N := 3) (C := RX5) (T := TX5) (by decide) rfl rfl (by decide) rfl iw_5 rfl lf_RX5_15 dX5_goAlong_97 ?_
  refine r_al E hw 74 24 (by decide) (by decide) (by decide) rfl dX5_goAlong_100 ?_
  refine r_min E hl.1 lm_RX5_53 (by decide) (Nat.le_of_ble_eq_true rfl) dX5_goAlong_101 ?_
  refine lv_iconst (v := (1 : Int32)) hx hb dX5_goAlong_104 (by decide) ?_
  refine lv_isub hx hb dX5_goAlong_105 ?_
  obtain ⟨y20, ey20, h⟩ := lt_some h
  refine lv_eqi ey20 ?_
  refine lv_istore (lv' := [(5, .int y20), (4, .int (1000000 : Int32)), (0, .ref (G.2.2 21))]) hx hb dX5_goAlong_106 hl (by decide) rfl (fun ls hl => ?_)
  obtain ⟨x30, h29, h⟩ := ob_R_some h
  have h := Option.some.inj h
  subst h
  exact wX5_goAlong_L108 E hs_i (fun q e => by subst e; exact kr) FV (V, (1000000 : Int32), y20) h29 H locs ls hw (lv_sub hl [2, 1, 0] rfl)
set_option maxHeartbeats 4000000 in
set_option maxRecDepth 100000 in
theorem kX5_goAlong {l : Launch} {G : GT} {B : BGt} (hB : BGok B) {V : VT} {i : Nat} (hs_i : isSt i) {x1 : Int32} {r : VT} (h : fX5_goAlong V i x1 = some r) : CV l G B yX5_goAlong (.code yX5_goAlong cX5_goAlong 6 none) 6 [.ref (G.2.2 21), .ref (G.2.2 i), .ref (G.2.2 17), .int x1] V r := by
  intro sz
  refine met_of (Qs := fun sz => QV G sz r) hB (by decide) (Nat.le_of_ble_eq_true rfl) ?_ sz
  intro p e s m args below meth c ls E hw hl
  have hx := en_x E
  have hb := en_b E
  generalize hQ : MQ _ _ _ _ _ _ _ = Q
  have kr : Q = MQ below (QV G s.heap.size r) args s 0 0 (gA G s.heap.size) := hQ.symm
  have hl : lv_has ls 6 [(0, .ref (G.2.2 21)), (1, .ref (G.2.2 i)), (2, .ref (G.2.2 17)), (3, .int x1)] := hl
  obtain ⟨H, eH⟩ : ∃ H, H = s.heap := ⟨_, rfl⟩
  obtain ⟨locs, elocs⟩ : ∃ z : List Loc, z = [] := ⟨_, rfl⟩
  have hw : HW G s.heap V H locs := by rw [eH, elocs]; exact hw
  show W p l e _ s m args below meth c s.heap [] 0 0 Q (F0 m 0 ls [])
  rw [← eH, ← elocs]
  unfold fX5_goAlong at h
  refine lv_ldc (own := RX5) (v := (1000000 : Int32)) hx hb E.2.2.2.1 (en_w E kn_RX5_76 rfl) dX5_goAlong_0 ?_
  refine lv_istore (lv' := [(4, .int (1000000 : Int32)), (0, .ref (G.2.2 21)), (1, .ref (G.2.2 i)), (2, .ref (G.2.2 17)), (3, .int x1)]) hx hb dX5_goAlong_2 hl (by decide) rfl (fun ls hl => ?_)
  refine lv_iconst (v := (0 : Int32)) hx hb dX5_goAlong_4 (by decide) ?_
  refine lv_istore (lv' := [(5, .int (0 : Int32)), (4, .int (1000000 : Int32)), (0, .ref (G.2.2 21)), (1, .ref (G.2.2 i)), (2, .ref (G.2.2 17)), (3, .int x1)]) hx hb dX5_goAlong_5 hl (by decide) rfl (fun ls hl => ?_)
  obtain ⟨x18, h17, h⟩ := ob_R_some h
  obtain ⟨V19, rfl⟩ : ∃ z, z = x18 := ⟨_, rfl⟩
  refine wX5_goAlong_L7 E hs_i (fun q e H locs ls hw hl => ?_) FV (V, x1, (1000000 : Int32), (0 : Int32)) h17 H locs ls hw (lv_sub hl [2, 3, 4, 5, 1, 0] rfl)
  subst e
  have hw : HW G s.heap V19 H locs := hw
  have hl : lv_has ls 6 [(0, .ref (G.2.2 21))] := hl
  have h := lt_eq h
  exact wX5_goAlong_j87 E hs_i h kr hw (lv_sub hl [0] rfl)
/-! ===== AllSawIt$Tape.rewind()V ===== -/
theorem dX8_rewind_0 : decode cX8_rewind 0 = .ok (.aload_n 0, 1) := by decide +kernel
theorem dX8_rewind_1 : decode cX8_rewind 1 = .ok (.iconst 0, 1) := by decide +kernel
theorem dX8_rewind_2 : decode cX8_rewind 2 = .ok (.putfield 25, 3) := by decide +kernel
theorem dX8_rewind_5 : decode cX8_rewind 5 = .ok (.aload_n 0, 1) := by decide +kernel
theorem dX8_rewind_6 : decode cX8_rewind 6 = .ok (.invokevirtual 31, 3) := by decide +kernel
theorem dX8_rewind_9 : decode cX8_rewind 9 = .ok (.return_, 1) := by decide +kernel
noncomputable def fX8_rewind (V : VT) : Option VT := lt_ (va_up V 1 (upd (V 1) 4 (0 : Int32))) fun V1 => ob_R (fX8_step V1 ) fun V3 => some V3
set_option maxHeartbeats 4000000 in
set_option maxRecDepth 100000 in
theorem kX8_rewind {l : Launch} {G : GT} {B : BGt} (hB : BGok B) {V : VT} {r : VT} (h : fX8_rewind V = some r) : CV l G B yX8_rewind (.code yX8_rewind cX8_rewind 1 none) 4 [.ref (G.2.2 1)] V r := by
  intro sz
  refine met_of (Qs := fun sz => QV G sz r) hB (by decide) (Nat.le_of_ble_eq_true rfl) ?_ sz
  intro p e s m args below meth c ls E hw hl
  have hx := en_x E
  have hb := en_b E
  generalize hQ : MQ _ _ _ _ _ _ _ = Q
  have kr : Q = MQ below (QV G s.heap.size r) args s 0 0 (gA G s.heap.size) := hQ.symm
  have hl : lv_has ls 1 [(0, .ref (G.2.2 1))] := hl
  obtain ⟨H, eH⟩ : ∃ H, H = s.heap := ⟨_, rfl⟩
  obtain ⟨locs, elocs⟩ : ∃ z : List Loc, z = [] := ⟨_, rfl⟩
  have hw : HW G s.heap V H locs := by rw [eH, elocs]; exact hw
  show W p l e _ s m args below meth c s.heap [] 0 0 Q (F0 m 0 ls [])
  rw [← eH, ← elocs]
  unfold fX8_rewind at h
  refine lv_aload_n hx hb dX8_rewind_0 rfl (lv_at hl 0 rfl) ?_
  refine lv_iconst (v := (0 : Int32)) hx hb dX8_rewind_1 (by decide) ?_
  obtain ⟨V1, eV1, h⟩ := lt_some h
  refine r_pi E hw 1 4 (N := 6) (C := RX8) (T := TX8) (ty0 := tyX8) (ty := .int) (by decide) rfl rfl (by decide) rfl iw_8 rfl tyX8_ok nmX8 rfl rfl (vp_nar_int _) rfl lf_RX8_25 eV1 dX8_rewind_2 (fun H locs hw => ?_)
  refine lv_aload_n hx hb dX8_rewind_5 rfl (lv_at hl 0 rfl) ?_
  obtain ⟨V3, h2, h⟩ := ob_R_some h
  refine c_VV E hw (kX8_step (l := l) (G := G) hB  h2) yy_X8_step lm_RX8_31 rfl (by decide) rfl rfl hl.1 (by decide) (by decide) rfl (Nat.le_of_ble_eq_true rfl) dX8_rewind_6 (fun H locs hw => ?_)
  have h := Option.some.inj h
  subst h
  rw [kr]
  exact r_rv E hw dX8_rewind_9
/-! ===== AllSawIt$Days.showDeed(LAllSawIt$State;LAllSawIt$Law;I)V ===== -/
theorem dX1_showDeed_0 : decode cX1_showDeed 0 = .ok (.aload_n 0, 1) := by decide +kernel
theorem dX1_showDeed_1 : decode cX1_showDeed 1 = .ok (.iload_n 2, 1) := by decide +kernel
theorem dX1_showDeed_2 : decode cX1_showDeed 2 = .ok (.iconst 0, 1) := by decide +kernel
theorem dX1_showDeed_3 : decode cX1_showDeed 3 = .ok (.invokevirtual 62, 3) := by decide +kernel
theorem dX1_showDeed_6 : decode cX1_showDeed 6 = .ok (.istore_n 3, 1) := by decide +kernel
theorem dX1_showDeed_7 : decode cX1_showDeed 7 = .ok (.aload_n 0, 1) := by decide +kernel
theorem dX1_showDeed_8 : decode cX1_showDeed 8 = .ok (.iload_n 2, 1) := by decide +kernel
theorem dX1_showDeed_9 : decode cX1_showDeed 9 = .ok (.iconst 1, 1) := by decide +kernel
theorem dX1_showDeed_10 : decode cX1_showDeed 10 = .ok (.invokevirtual 62, 3) := by decide +kernel
theorem dX1_showDeed_13 : decode cX1_showDeed 13 = .ok (.istore 4, 2) := by decide +kernel
theorem dX1_showDeed_15 : decode cX1_showDeed 15 = .ok (.iconst 0, 1) := by decide +kernel
theorem dX1_showDeed_16 : decode cX1_showDeed 16 = .ok (.istore 5, 2) := by decide +kernel
theorem dX1_showDeed_18 : decode cX1_showDeed 18 = .ok (.iload 5, 2) := by decide +kernel
theorem dX1_showDeed_20 : decode cX1_showDeed 20 = .ok (.aload_n 0, 1) := by decide +kernel
theorem dX1_showDeed_21 : decode cX1_showDeed 21 = .ok (.getfield 32, 3) := by decide +kernel
theorem dX1_showDeed_24 : decode cX1_showDeed 24 = .ok (.if_icmp .ge 41, 3) := by decide +kernel
theorem dX1_showDeed_27 : decode cX1_showDeed 27 = .ok (.aload_n 0, 1) := by decide +kernel
theorem dX1_showDeed_28 : decode cX1_showDeed 28 = .ok (.iload 5, 2) := by decide +kernel
theorem dX1_showDeed_30 : decode cX1_showDeed 30 = .ok (.iload_n 2, 1) := by decide +kernel
theorem dX1_showDeed_31 : decode cX1_showDeed 31 = .ok (.invokevirtual 65, 3) := by decide +kernel
theorem dX1_showDeed_34 : decode cX1_showDeed 34 = .ok (.ifCond .ne 25, 3) := by decide +kernel
theorem dX1_showDeed_37 : decode cX1_showDeed 37 = .ok (.aload_n 1, 1) := by decide +kernel
theorem dX1_showDeed_38 : decode cX1_showDeed 38 = .ok (.aload_n 0, 1) := by decide +kernel
theorem dX1_showDeed_39 : decode cX1_showDeed 39 = .ok (.iload 5, 2) := by decide +kernel
theorem dX1_showDeed_41 : decode cX1_showDeed 41 = .ok (.iload_n 3, 1) := by decide +kernel
theorem dX1_showDeed_42 : decode cX1_showDeed 42 = .ok (.iload 4, 2) := by decide +kernel
theorem dX1_showDeed_44 : decode cX1_showDeed 44 = .ok (.invokevirtual 69, 3) := by decide +kernel
theorem dX1_showDeed_47 : decode cX1_showDeed 47 = .ok (.ifCond .eq 12, 3) := by decide +kernel
theorem dX1_showDeed_50 : decode cX1_showDeed 50 = .ok (.aload_n 0, 1) := by decide +kernel
theorem dX1_showDeed_51 : decode cX1_showDeed 51 = .ok (.iload_n 2, 1) := by decide +kernel
theorem dX1_showDeed_52 : decode cX1_showDeed 52 = .ok (.iconst 1, 1) := by decide +kernel
theorem dX1_showDeed_53 : decode cX1_showDeed 53 = .ok (.iload 5, 2) := by decide +kernel
theorem dX1_showDeed_55 : decode cX1_showDeed 55 = .ok (.ishl, 1) := by decide +kernel
theorem dX1_showDeed_56 : decode cX1_showDeed 56 = .ok (.invokevirtual 75, 3) := by decide +kernel
theorem dX1_showDeed_59 : decode cX1_showDeed 59 = .ok (.iinc 5 1, 3) := by decide +kernel
theorem dX1_showDeed_62 : decode cX1_showDeed 62 = .ok (.goto (-44), 3) := by decide +kernel
theorem dX1_showDeed_65 : decode cX1_showDeed 65 = .ok (.return_, 1) := by decide +kernel
noncomputable def fX1_showDeed_L18 (V : VT) (i : Nat) (u2 : Int32) (u3 : Int32) (u4 : Int32) (u5 : Int32) : Option ((VT × Int32 × Int32 × Int32 × Int32) ⊕ VT) := if (V i 3) ≤ u5 then (some (.inr (V))) else (ob_R (fX6_hasSeen V i u5 u2) fun y6 => if y6 = 0 then (ob_I (fX3_lets V i u5 u3 u4) fun y9 V10 => if y9 = 0 then (lt_ (u5 + (1 : Int32)) fun y11 => some (.inl (V10, u2, u3, u4, y11))) else (ob_R (fX6_addSeen V10 i u2 ((1 : Int32) <<< (u5 &&& 31))) fun V13 => lt_ (u5 + (1 : Int32)) fun y14 => some (.inl (V13, u2, u3, u4, y14)))) else (lt_ (u5 + (1 : Int32)) fun y7 => some (.inl (V, u2, u3, u4, y7))))
noncomputable def iX1_showDeed_L18 (i : Nat) : (VT × Int32 × Int32 × Int32 × Int32) → Option ((VT × Int32 × Int32 × Int32 × Int32) ⊕ VT) := fun q => fX1_showDeed_L18 (q.1) i (q.2.1) (q.2.2.1) (q.2.2.2.1) (q.2.2.2.2)
noncomputable def fX1_showDeed (V : VT) (i : Nat) (x1 : Int32) : Option VT := ob_R (fX6_ofDeed V i x1 (0 : Int32)) fun y2 => ob_R (fX6_ofDeed V i x1 (1 : Int32)) fun y4 => ob_R (it_ (iX1_showDeed_L18 i) FV (V, x1, y2, y4, (0 : Int32))) fun x19 => some x19
set_option maxHeartbeats 4000000 in
set_option maxRecDepth 100000 in
theorem wX1_showDeed_L18 {p : Program} {l : Launch} {e : Env} {s : State} {m : MethodId} {args : Array Value} {below : List Frame} {meth : Method} {c : Code} {G : GT} {B : BGt} {Q : State → Prop} (E : En p s m args c meth cX1_showDeed 6 RX1 none G B) {i : Nat} (hs_i : isSt i) {x : VT} (kr : ∀ q : VT, x = q → Q = MQ below (QV G s.heap.size q) args s 0 0 (gA G s.heap.size)) : ∀ (n : Nat) (q : (VT × Int32 × Int32 × Int32 × Int32)), it_ (iX1_showDeed_L18 i) n q = some x → ∀ (H : Heap) (locs : List Loc) (ls : Array Slot), HW G s.heap (q.1) H locs → lv_has ls 6 [(0, .ref (G.2.2 i)), (1, .ref (G.2.2 17)), (2, .int (q.2.1)), (3, .int (q.2.2.1)), (4, .int (q.2.2.2.1)), (5, .int (q.2.2.2.2))] → W p l e (rmD 5) s m args below meth c H locs 0 0 Q (F0 m 18 ls []) := by
  have hx := en_x E
  have hb := en_b E
  have hB := en_B E
  refine it_W (fun q : (VT × Int32 × Int32 × Int32 × Int32) => ∀ (H : Heap) (locs : List Loc) (ls : Array Slot), HW G s.heap (q.1) H locs → lv_has ls 6 [(0, .ref (G.2.2 i)), (1, .ref (G.2.2 17)), (2, .int (q.2.1)), (3, .int (q.2.2.1)), (4, .int (q.2.2.2.1)), (5, .int (q.2.2.2.2))] → W p l e (rmD 5) s m args below meth c H locs 0 0 Q (F0 m 18 ls [])) x ?_
  intro q r h kc kx
  obtain ⟨V, u2, u3, u4, u5⟩ := q
  intro H locs ls hw hl
  have h : fX1_showDeed_L18 V i u2 u3 u4 u5 = some r := h
  have hw : HW G s.heap V H locs := hw
  have hl : lv_has ls 6 [(0, .ref (G.2.2 i)), (1, .ref (G.2.2 17)), (2, .int u2), (3, .int u3), (4, .int u4), (5, .int u5)] := hl
  have kr : ∀ q : VT, r = .inr (q) → Q = MQ below (QV G s.heap.size q) args s 0 0 (gA G s.heap.size) := fun q e => kr q (kx _ e).symm
  unfold fX1_showDeed_L18 at h
  refine lv_iload hx hb dX1_showDeed_18 (lv_at hl 5 rfl) ?_
  refine lv_aload_n hx hb dX1_showDeed_20 rfl (lv_at hl 0 rfl) ?_
  refine r_giN E hw i 3 (N := 13) (C := RX6) (T := TX6) (st_lt hs_i) (st_c hs_i) (st_N hs_i) (by decide) (st_n hs_i (k := 3) (by decide)) iw_6 rfl lf_RX1_32 dX1_showDeed_21 ?_
  refine lv_icmp_ge (tgt := 65) hx hb dX1_showDeed_24 (by decide) (fun c17 => ?_) (fun c17 => ?_)
  · rw [if_pos c17] at h
    rw [kr V (Option.some.inj h).symm]
    exact r_rv E hw dX1_showDeed_65
  · rw [if_neg c17] at h
    refine lv_aload_n hx hb dX1_showDeed_27 rfl (lv_at hl 0 rfl) ?_
    refine lv_iload hx hb dX1_showDeed_28 (lv_at hl 5 rfl) ?_
    refine lv_iload_n hx hb dX1_showDeed_30 rfl (lv_at hl 2 rfl) ?_
    obtain ⟨y6, h5, h⟩ := ob_R_some h
    refine c_VI E hw (kX6_hasSeen (l := l) (G := G) hB hs_i h5) yy_X6_hasSeen lm_RX1_65 rfl (st_lt hs_i) (st_c hs_i) rfl hl.1 (by decide) (by decide) rfl (Nat.le_of_ble_eq_true rfl) dX1_showDeed_31 (fun H locs hw => ?_)
    refine lv_if_ne (tgt := 59) hx hb dX1_showDeed_34 (by decide) (fun c16 => ?_) (fun c16 => ?_)
    · rw [if_neg c16] at h
      obtain ⟨y7, ey7, h⟩ := lt_some h
      refine lv_iinc (v := y7) (lv' := [(5, .int y7), (0, .ref (G.2.2 i)), (1, .ref (G.2.2 17)), (2, .int u2), (3, .int u3), (4, .int u4)]) hx hb dX1_showDeed_59 hl (k := 5) rfl (by rw [ey7]; rfl) (by decide) rfl (fun ls hl => ?_)
      refine lv_goto (tgt := 18) hx hb dX1_showDeed_62 (by decide) ?_
      exact kc (V, u2, u3, u4, y7) (Option.some.inj h).symm H locs ls hw (lv_sub hl [1, 2, 3, 4, 5, 0] rfl)
    · rw [if_pos c16] at h
      refine lv_aload_n hx hb dX1_showDeed_37 rfl (lv_at hl 1 rfl) ?_
      refine lv_aload_n hx hb dX1_showDeed_38 rfl (lv_at hl 0 rfl) ?_
      refine lv_iload hx hb dX1_showDeed_39 (lv_at hl 5 rfl) ?_
      refine lv_iload_n hx hb dX1_showDeed_41 rfl (lv_at hl 3 rfl) ?_
      refine lv_iload hx hb dX1_showDeed_42 (lv_at hl 4 rfl) ?_
      obtain ⟨y9, V10, h8, h⟩ := ob_I_some h
      refine c_VI E hw (kX3_lets (l := l) (G := G) hB hs_i h8) yy_X3_lets lm_RX1_69 rfl (by decide) rfl rfl hl.1 (by decide) (by decide) rfl (Nat.le_of_ble_eq_true rfl) dX1_showDeed_44 (fun H locs hw => ?_)
      refine lv_if_eq (tgt := 59) hx hb dX1_showDeed_47 (by decide) (fun c15 => ?_) (fun c15 => ?_)
      · rw [if_pos c15] at h
        obtain ⟨y11, ey11, h⟩ := lt_some h
        refine lv_iinc (v := y11) (lv' := [(5, .int y11), (0, .ref (G.2.2 i)), (1, .ref (G.2.2 17)), (2, .int u2), (3, .int u3), (4, .int u4)]) hx hb dX1_showDeed_59 hl (k := 5) rfl (by rw [ey11]; rfl) (by decide) rfl (fun ls hl => ?_)
        refine lv_goto (tgt := 18) hx hb dX1_showDeed_62 (by decide) ?_
        exact kc (V10, u2, u3, u4, y11) (Option.some.inj h).symm H locs ls hw (lv_sub hl [1, 2, 3, 4, 5, 0] rfl)
      · rw [if_neg c15] at h
        refine lv_aload_n hx hb dX1_showDeed_50 rfl (lv_at hl 0 rfl) ?_
        refine lv_iload_n hx hb dX1_showDeed_51 rfl (lv_at hl 2 rfl) ?_
        refine lv_iconst (v := (1 : Int32)) hx hb dX1_showDeed_52 (by decide) ?_
        refine lv_iload hx hb dX1_showDeed_53 (lv_at hl 5 rfl) ?_
        refine lv_ishl hx hb dX1_showDeed_55 ?_
        obtain ⟨V13, h12, h⟩ := ob_R_some h
        refine c_VV E hw (kX6_addSeen (l := l) (G := G) hB hs_i h12) yy_X6_addSeen lm_RX1_75 rfl (st_lt hs_i) (st_c hs_i) rfl hl.1 (by decide) (by decide) rfl (Nat.le_of_ble_eq_true rfl) dX1_showDeed_56 (fun H locs hw => ?_)
        obtain ⟨y14, ey14, h⟩ := lt_some h
        refine lv_iinc (v := y14) (lv' := [(5, .int y14), (0, .ref (G.2.2 i)), (1, .ref (G.2.2 17)), (2, .int u2), (3, .int u3), (4, .int u4)]) hx hb dX1_showDeed_59 hl (k := 5) rfl (by rw [ey14]; rfl) (by decide) rfl (fun ls hl => ?_)
        refine lv_goto (tgt := 18) hx hb dX1_showDeed_62 (by decide) ?_
        exact kc (V13, u2, u3, u4, y14) (Option.some.inj h).symm H locs ls hw (lv_sub hl [1, 2, 3, 4, 5, 0] rfl)
set_option maxHeartbeats 4000000 in
set_option maxRecDepth 100000 in
theorem kX1_showDeed {l : Launch} {G : GT} {B : BGt} (hB : BGok B) {V : VT} {i : Nat} (hs_i : isSt i) {x1 : Int32} {r : VT} (h : fX1_showDeed V i x1 = some r) : CV l G B yX1_showDeed (.code yX1_showDeed cX1_showDeed 6 none) 5 [.ref (G.2.2 i), .ref (G.2.2 17), .int x1] V r := by
  intro sz
  refine met_of (Qs := fun sz => QV G sz r) hB (by decide) (Nat.le_of_ble_eq_true rfl) ?_ sz
  intro p e s m args below meth c ls E hw hl
  have hx := en_x E
  have hb := en_b E
  generalize hQ : MQ _ _ _ _ _ _ _ = Q
  have kr : Q = MQ below (QV G s.heap.size r) args s 0 0 (gA G s.heap.size) := hQ.symm
  have hl : lv_has ls 6 [(0, .ref (G.2.2 i)), (1, .ref (G.2.2 17)), (2, .int x1)] := hl
  obtain ⟨H, eH⟩ : ∃ H, H = s.heap := ⟨_, rfl⟩
  obtain ⟨locs, elocs⟩ : ∃ z : List Loc, z = [] := ⟨_, rfl⟩
  have hw : HW G s.heap V H locs := by rw [eH, elocs]; exact hw
  show W p l e _ s m args below meth c s.heap [] 0 0 Q (F0 m 0 ls [])
  rw [← eH, ← elocs]
  unfold fX1_showDeed at h
  refine lv_aload_n hx hb dX1_showDeed_0 rfl (lv_at hl 0 rfl) ?_
  refine lv_iload_n hx hb dX1_showDeed_1 rfl (lv_at hl 2 rfl) ?_
  refine lv_iconst (v := (0 : Int32)) hx hb dX1_showDeed_2 (by decide) ?_
  obtain ⟨y2, h1, h⟩ := ob_R_some h
  refine c_VI E hw (kX6_ofDeed (l := l) (G := G) hB hs_i h1) yy_X6_ofDeed lm_RX1_62 rfl (st_lt hs_i) (st_c hs_i) rfl hl.1 (by decide) (by decide) rfl (Nat.le_of_ble_eq_true rfl) dX1_showDeed_3 (fun H locs hw => ?_)
  refine lv_istore_n (lv' := [(3, .int y2), (0, .ref (G.2.2 i)), (1, .ref (G.2.2 17)), (2, .int x1)]) hx hb dX1_showDeed_6 rfl hl (by decide) rfl (fun ls hl => ?_)
  refine lv_aload_n hx hb dX1_showDeed_7 rfl (lv_at hl 1 rfl) ?_
  refine lv_iload_n hx hb dX1_showDeed_8 rfl (lv_at hl 3 rfl) ?_
  refine lv_iconst (v := (1 : Int32)) hx hb dX1_showDeed_9 (by decide) ?_
  obtain ⟨y4, h3, h⟩ := ob_R_some h
  refine c_VI E hw (kX6_ofDeed (l := l) (G := G) hB hs_i h3) yy_X6_ofDeed lm_RX1_62 rfl (st_lt hs_i) (st_c hs_i) rfl hl.1 (by decide) (by decide) rfl (Nat.le_of_ble_eq_true rfl) dX1_showDeed_10 (fun H locs hw => ?_)
  refine lv_istore (lv' := [(4, .int y4), (3, .int y2), (0, .ref (G.2.2 i)), (1, .ref (G.2.2 17)), (2, .int x1)]) hx hb dX1_showDeed_13 hl (by decide) rfl (fun ls hl => ?_)
  refine lv_iconst (v := (0 : Int32)) hx hb dX1_showDeed_15 (by decide) ?_
  refine lv_istore (lv' := [(5, .int (0 : Int32)), (4, .int y4), (3, .int y2), (0, .ref (G.2.2 i)), (1, .ref (G.2.2 17)), (2, .int x1)]) hx hb dX1_showDeed_16 hl (by decide) rfl (fun ls hl => ?_)
  obtain ⟨x19, h18, h⟩ := ob_R_some h
  have h := Option.some.inj h
  subst h
  exact wX1_showDeed_L18 E hs_i (fun q e => by subst e; exact kr) FV (V, x1, y2, y4, (0 : Int32)) h18 H locs ls hw (lv_sub hl [3, 4, 5, 2, 1, 0] rfl)
/-! ===== AllSawIt$Sight.fewestSights(LAllSawIt$State;LAllSawIt$Law;III)I ===== -/
theorem dX5_fewestSights_0 : decode cX5_fewestSights 0 = .ok (.iconst 0, 1) := by decide +kernel
theorem dX5_fewestSights_1 : decode cX5_fewestSights 1 = .ok (.istore 6, 2) := by decide +kernel
theorem dX5_fewestSights_3 : decode cX5_fewestSights 3 = .ok (.iload 6, 2) := by decide +kernel
theorem dX5_fewestSights_5 : decode cX5_fewestSights 5 = .ok (.aload_n 0, 1) := by decide +kernel
theorem dX5_fewestSights_6 : decode cX5_fewestSights 6 = .ok (.getfield 9, 3) := by decide +kernel
theorem dX5_fewestSights_9 : decode cX5_fewestSights 9 = .ok (.arraylength, 1) := by decide +kernel
theorem dX5_fewestSights_10 : decode cX5_fewestSights 10 = .ok (.if_icmp .ge 28, 3) := by decide +kernel
theorem dX5_fewestSights_13 : decode cX5_fewestSights 13 = .ok (.aload_n 0, 1) := by decide +kernel
theorem dX5_fewestSights_14 : decode cX5_fewestSights 14 = .ok (.getfield 9, 3) := by decide +kernel
theorem dX5_fewestSights_17 : decode cX5_fewestSights 17 = .ok (.iload 6, 2) := by decide +kernel
theorem dX5_fewestSights_19 : decode cX5_fewestSights 19 = .ok (.iload 6, 2) := by decide +kernel
theorem dX5_fewestSights_21 : decode cX5_fewestSights 21 = .ok (.iload_n 3, 1) := by decide +kernel
theorem dX5_fewestSights_22 : decode cX5_fewestSights 22 = .ok (.if_icmp .ne 7, 3) := by decide +kernel
theorem dX5_fewestSights_25 : decode cX5_fewestSights 25 = .ok (.iconst 0, 1) := by decide +kernel
theorem dX5_fewestSights_26 : decode cX5_fewestSights 26 = .ok (.goto 5, 3) := by decide +kernel
theorem dX5_fewestSights_29 : decode cX5_fewestSights 29 = .ok (.ldc 76, 2) := by decide +kernel
theorem dX5_fewestSights_31 : decode cX5_fewestSights 31 = .ok (.iastore, 1) := by decide +kernel
theorem dX5_fewestSights_32 : decode cX5_fewestSights 32 = .ok (.iinc 6 1, 3) := by decide +kernel
theorem dX5_fewestSights_35 : decode cX5_fewestSights 35 = .ok (.goto (-32), 3) := by decide +kernel
theorem dX5_fewestSights_38 : decode cX5_fewestSights 38 = .ok (.ldc 76, 2) := by decide +kernel
theorem dX5_fewestSights_40 : decode cX5_fewestSights 40 = .ok (.istore 6, 2) := by decide +kernel
theorem dX5_fewestSights_42 : decode cX5_fewestSights 42 = .ok (.iconst 0, 1) := by decide +kernel
theorem dX5_fewestSights_43 : decode cX5_fewestSights 43 = .ok (.istore 7, 2) := by decide +kernel
theorem dX5_fewestSights_45 : decode cX5_fewestSights 45 = .ok (.iload 7, 2) := by decide +kernel
theorem dX5_fewestSights_47 : decode cX5_fewestSights 47 = .ok (.bipush 24, 2) := by decide +kernel
theorem dX5_fewestSights_49 : decode cX5_fewestSights 49 = .ok (.if_icmp .ge 52, 3) := by decide +kernel
theorem dX5_fewestSights_52 : decode cX5_fewestSights 52 = .ok (.aload_n 0, 1) := by decide +kernel
theorem dX5_fewestSights_53 : decode cX5_fewestSights 53 = .ok (.aload_n 1, 1) := by decide +kernel
theorem dX5_fewestSights_54 : decode cX5_fewestSights 54 = .ok (.aload_n 2, 1) := by decide +kernel
theorem dX5_fewestSights_55 : decode cX5_fewestSights 55 = .ok (.iload 5, 2) := by decide +kernel
theorem dX5_fewestSights_57 : decode cX5_fewestSights 57 = .ok (.iload 7, 2) := by decide +kernel
theorem dX5_fewestSights_59 : decode cX5_fewestSights 59 = .ok (.iadd, 1) := by decide +kernel
theorem dX5_fewestSights_60 : decode cX5_fewestSights 60 = .ok (.bipush 24, 2) := by decide +kernel
theorem dX5_fewestSights_62 : decode cX5_fewestSights 62 = .ok (.irem, 1) := by decide +kernel
theorem dX5_fewestSights_63 : decode cX5_fewestSights 63 = .ok (.invokevirtual 77, 3) := by decide +kernel
theorem dX5_fewestSights_66 : decode cX5_fewestSights 66 = .ok (.iload 4, 2) := by decide +kernel
theorem dX5_fewestSights_68 : decode cX5_fewestSights 68 = .ok (.ifCond .lt 27, 3) := by decide +kernel
theorem dX5_fewestSights_71 : decode cX5_fewestSights 71 = .ok (.iload 4, 2) := by decide +kernel
theorem dX5_fewestSights_73 : decode cX5_fewestSights 73 = .ok (.aload_n 0, 1) := by decide +kernel
theorem dX5_fewestSights_74 : decode cX5_fewestSights 74 = .ok (.getfield 9, 3) := by decide +kernel
theorem dX5_fewestSights_77 : decode cX5_fewestSights 77 = .ok (.arraylength, 1) := by decide +kernel
theorem dX5_fewestSights_78 : decode cX5_fewestSights 78 = .ok (.if_icmp .ge 17, 3) := by decide +kernel
theorem dX5_fewestSights_81 : decode cX5_fewestSights 81 = .ok (.iload 6, 2) := by decide +kernel
theorem dX5_fewestSights_83 : decode cX5_fewestSights 83 = .ok (.aload_n 0, 1) := by decide +kernel
theorem dX5_fewestSights_84 : decode cX5_fewestSights 84 = .ok (.getfield 9, 3) := by decide +kernel
theorem dX5_fewestSights_87 : decode cX5_fewestSights 87 = .ok (.iload 4, 2) := by decide +kernel
theorem dX5_fewestSights_89 : decode cX5_fewestSights 89 = .ok (.iaload, 1) := by decide +kernel
theorem dX5_fewestSights_90 : decode cX5_fewestSights 90 = .ok (.invokestatic 53, 3) := by decide +kernel
theorem dX5_fewestSights_93 : decode cX5_fewestSights 93 = .ok (.istore 6, 2) := by decide +kernel
theorem dX5_fewestSights_95 : decode cX5_fewestSights 95 = .ok (.iinc 7 1, 3) := by decide +kernel
theorem dX5_fewestSights_98 : decode cX5_fewestSights 98 = .ok (.goto (-53), 3) := by decide +kernel
theorem dX5_fewestSights_101 : decode cX5_fewestSights 101 = .ok (.iload 6, 2) := by decide +kernel
theorem dX5_fewestSights_103 : decode cX5_fewestSights 103 = .ok (.ireturn, 1) := by decide +kernel
noncomputable def fX5_fewestSights_L3 (V : VT) (i : Nat) (u3 : Int32) (u4 : Int32) (u5 : Int32) (u6 : Int32) : Option ((VT × Int32 × Int32 × Int32 × Int32) ⊕ (VT × Int32 × Int32)) := if (nI 24) ≤ u6 then (some (.inr ((V, u4, u5)))) else (if u6 = u3 then (rd_ u6 24 (lt_ (va_up V 73 (upd (V 73) u6.toNatClampNeg (0 : Int32))) fun V5 => lt_ (u6 + (1 : Int32)) fun y6 => some (.inl (V5, u3, u4, u5, y6)))) else (rd_ u6 24 (lt_ (va_up V 73 (upd (V 73) u6.toNatClampNeg (1000000 : Int32))) fun V2 => lt_ (u6 + (1 : Int32)) fun y3 => some (.inl (V2, u3, u4, u5, y3)))))
noncomputable def iX5_fewestSights_L3 (i : Nat) : (VT × Int32 × Int32 × Int32 × Int32) → Option ((VT × Int32 × Int32 × Int32 × Int32) ⊕ (VT × Int32 × Int32)) := fun q => fX5_fewestSights_L3 (q.1) i (q.2.1) (q.2.2.1) (q.2.2.2.1) (q.2.2.2.2)
noncomputable def fX5_fewestSights_L45 (V : VT) (i : Nat) (u4 : Int32) (u5 : Int32) (u6 : Int32) (u7 : Int32) : Option ((VT × Int32 × Int32 × Int32 × Int32) ⊕ (Int32 × VT)) := if (24 : Int32) ≤ u7 then (some (.inr ((u6, V)))) else (ob_R (fX5_goAlong V i ((u5 + u7) - (u5 + u7) / (24 : Int32) * (24 : Int32))) fun V15 => if u4 < 0 then (lt_ (u7 + (1 : Int32)) fun y16 => some (.inl (V15, u4, u5, u6, y16))) else (if (nI 24) ≤ u4 then (lt_ (u7 + (1 : Int32)) fun y17 => some (.inl (V15, u4, u5, u6, y17))) else (rd_ u4 24 (lt_ (if (V15 73 u4.toNatClampNeg) < u6 then (V15 73 u4.toNatClampNeg) else u6) fun y19 => lt_ (u7 + (1 : Int32)) fun y20 => some (.inl (V15, u4, u5, y19, y20))))))
noncomputable def iX5_fewestSights_L45 (i : Nat) : (VT × Int32 × Int32 × Int32 × Int32) → Option ((VT × Int32 × Int32 × Int32 × Int32) ⊕ (Int32 × VT)) := fun q => fX5_fewestSights_L45 (q.1) i (q.2.1) (q.2.2.1) (q.2.2.2.1) (q.2.2.2.2)
noncomputable def fX5_fewestSights (V : VT) (i : Nat) (x1 : Int32) (x2 : Int32) (x3 : Int32) : Option (Int32 × VT) := ob_R (it_ (iX5_fewestSights_L3 i) FV (V, x1, x2, x3, (0 : Int32))) fun x10 => (dt3_ x10 fun V13 y11 y12 => ob_R (it_ (iX5_fewestSights_L45 i) FV (V13, y11, y12, (1000000 : Int32), (0 : Int32))) fun x25 => some x25)
set_option maxHeartbeats 4000000 in
set_option maxRecDepth 100000 in
theorem wX5_fewestSights_L3 {p : Program} {l : Launch} {e : Env} {s : State} {m : MethodId} {args : Array Value} {below : List Frame} {meth : Method} {c : Code} {G : GT} {B : BGt} {Q : State → Prop} (E : En p s m args c meth cX5_fewestSights 8 RX5 (some .int) G B) {i : Nat} (hs_i : isSt i) {x : (VT × Int32 × Int32)} (ke : ∀ q : (VT × Int32 × Int32), x = q → ∀ (H : Heap) (locs : List Loc) (ls : Array Slot), HW G s.heap (q.1) H locs → lv_has ls 8 [(0, .ref (G.2.2 21)), (1, .ref (G.2.2 i)), (2, .ref (G.2.2 17)), (4, .int (q.2.1)), (5, .int (q.2.2))] → W p l e (rmD 7) s m args below meth c H locs 0 0 Q (F0 m 38 ls [])) : ∀ (n : Nat) (q : (VT × Int32 × Int32 × Int32 × Int32)), it_ (iX5_fewestSights_L3 i) n q = some x → ∀ (H : Heap) (locs : List Loc) (ls : Array Slot), HW G s.heap (q.1) H locs → lv_has ls 8 [(0, .ref (G.2.2 21)), (1, .ref (G.2.2 i)), (2, .ref (G.2.2 17)), (3, .int (q.2.1)), (4, .int (q.2.2.1)), (5, .int (q.2.2.2.1)), (6, .int (q.2.2.2.2))] → W p l e (rmD 7) s m args below meth c H locs 0 0 Q (F0 m 3 ls []) := by
  have hx := en_x E
  have hb := en_b E
  have hB := en_B E
  refine it_W (fun q : (VT × Int32 × Int32 × Int32 × Int32) => ∀ (H : Heap) (locs : List Loc) (ls : Array Slot), HW G s.heap (q.1) H locs → lv_has ls 8 [(0, .ref (G.2.2 21)), (1, .ref (G.2.2 i)), (2, .ref (G.2.2 17)), (3, .int (q.2.1)), (4, .int (q.2.2.1)), (5, .int (q.2.2.2.1)), (6, .int (q.2.2.2.2))] → W p l e (rmD 7) s m args below meth c H locs 0 0 Q (F0 m 3 ls [])) x ?_
  intro q r h kc kx
  obtain ⟨V, u3, u4, u5, u6⟩ := q
  intro H locs ls hw hl
  have h : fX5_fewestSights_L3 V i u3 u4 u5 u6 = some r := h
  have hw : HW G s.heap V H locs := hw
  have hl : lv_has ls 8 [(0, .ref (G.2.2 21)), (1, .ref (G.2.2 i)), (2, .ref (G.2.2 17)), (3, .int u3), (4, .int u4), (5, .int u5), (6, .int u6)] := hl
  have ke : ∀ q : (VT × Int32 × Int32), r = .inr (q) → ∀ (H : Heap) (locs : List Loc) (ls : Array Slot), HW G s.heap (q.1) H locs → lv_has ls 8 [(0, .ref (G.2.2 21)), (1, .ref (G.2.2 i)), (2, .ref (G.2.2 17)), (4, .int (q.2.1)), (5, .int (q.2.2))] → W p l e (rmD 7) s m args below meth c H locs 0 0 Q (F0 m 38 ls []) := fun q e => ke q (kx _ e).symm
  unfold fX5_fewestSights_L3 at h
  refine lv_iload hx hb dX5_fewestSights_3 (lv_at hl 6 rfl) ?_
  refine lv_aload_n hx hb dX5_fewestSights_5 rfl (lv_at hl 0 rfl) ?_
  refine r_gr E hw 21 0 73 (N := 3) (C := RX5) (T := TX5) (by decide) rfl rfl (by decide) rfl iw_5 rfl lf_RX5_9 dX5_fewestSights_6 ?_
  refine r_al E hw 73 24 (by decide) (by decide) (by decide) rfl dX5_fewestSights_9 ?_
  refine lv_icmp_ge (tgt := 38) hx hb dX5_fewestSights_10 (by decide) (fun c8 => ?_) (fun c8 => ?_)
  · rw [if_pos c8] at h
    exact ke (V, u4, u5) (Option.some.inj h).symm H locs ls hw (lv_sub hl [0, 1, 2, 4, 5] rfl)
  · rw [if_neg c8] at h
    refine lv_aload_n hx hb dX5_fewestSights_13 rfl (lv_at hl 0 rfl) ?_
    refine r_gr E hw 21 0 73 (N := 3) (C := RX5) (T := TX5) (by decide) rfl rfl (by decide) rfl iw_5 rfl lf_RX5_9 dX5_fewestSights_14 ?_
    refine lv_iload hx hb dX5_fewestSights_17 (lv_at hl 6 rfl) ?_
    refine lv_iload hx hb dX5_fewestSights_19 (lv_at hl 6 rfl) ?_
    refine lv_iload_n hx hb dX5_fewestSights_21 rfl (lv_at hl 3 rfl) ?_
    refine lv_icmp_ne (tgt := 29) hx hb dX5_fewestSights_22 (by decide) (fun c7 => ?_) (fun c7 => ?_)
    · rw [if_neg c7] at h
      refine lv_ldc (own := RX5) (v := (1000000 : Int32)) hx hb E.2.2.2.1 (en_w E kn_RX5_76 rfl) dX5_fewestSights_29 ?_
      obtain ⟨b1, h⟩ := rd_some h
      obtain ⟨V2, eV2, h⟩ := lt_some h
      refine r_is E hw 73 24 (by decide) (by decide) (by decide) rfl rfl b1 eV2 dX5_fewestSights_31 (fun H locs hw => ?_)
      obtain ⟨y3, ey3, h⟩ := lt_some h
      refine lv_iinc (v := y3) (lv' := [(6, .int y3), (0, .ref (G.2.2 21)), (1, .ref (G.2.2 i)), (2, .ref (G.2.2 17)), (3, .int u3), (4, .int u4), (5, .int u5)]) hx hb dX5_fewestSights_32 hl (k := 6) rfl (by rw [ey3]; rfl) (by decide) rfl (fun ls hl => ?_)
      refine lv_goto (tgt := 3) hx hb dX5_fewestSights_35 (by decide) ?_
      exact kc (V2, u3, u4, u5, y3) (Option.some.inj h).symm H locs ls hw (lv_sub hl [1, 2, 3, 4, 5, 6, 0] rfl)
    · rw [if_pos c7] at h
      refine lv_iconst (v := (0 : Int32)) hx hb dX5_fewestSights_25 (by decide) ?_
      refine lv_goto (tgt := 31) hx hb dX5_fewestSights_26 (by decide) ?_
      obtain ⟨b4, h⟩ := rd_some h
      obtain ⟨V5, eV5, h⟩ := lt_some h
      refine r_is E hw 73 24 (by decide) (by decide) (by decide) rfl rfl b4 eV5 dX5_fewestSights_31 (fun H locs hw => ?_)
      obtain ⟨y6, ey6, h⟩ := lt_some h
      refine lv_iinc (v := y6) (lv' := [(6, .int y6), (0, .ref (G.2.2 21)), (1, .ref (G.2.2 i)), (2, .ref (G.2.2 17)), (3, .int u3), (4, .int u4), (5, .int u5)]) hx hb dX5_fewestSights_32 hl (k := 6) rfl (by rw [ey6]; rfl) (by decide) rfl (fun ls hl => ?_)
      refine lv_goto (tgt := 3) hx hb dX5_fewestSights_35 (by decide) ?_
      exact kc (V5, u3, u4, u5, y6) (Option.some.inj h).symm H locs ls hw (lv_sub hl [1, 2, 3, 4, 5, 6, 0] rfl)
set_option maxHeartbeats 4000000 in
set_option maxRecDepth 100000 in
theorem wX5_fewestSights_L45 {p : Program} {l : Launch} {e : Env} {s : State} {m : MethodId} {args : Array Value} {below : List Frame} {meth : Method} {c : Code} {G : GT} {B : BGt} {Q : State → Prop} (E : En p s m args c meth cX5_fewestSights 8 RX5 (some .int) G B) {i : Nat} (hs_i : isSt i) {x : (Int32 × VT)} (kr : ∀ q : (Int32 × VT), x = q → Q = MQ below (QI G s.heap.size q.1 q.2) args s 0 0 (gA G s.heap.size)) : ∀ (n : Nat) (q : (VT × Int32 × Int32 × Int32 × Int32)), it_ (iX5_fewestSights_L45 i) n q = some x → ∀ (H : Heap) (locs : List Loc) (ls : Array Slot), HW G s.heap (q.1) H locs → lv_has ls 8 [(0, .ref (G.2.2 21)), (1, .ref (G.2.2 i)), (2, .ref (G.2.2 17)), (4, .int (q.2.1)), (5, .int (q.2.2.1)), (6, .int (q.2.2.2.1)), (7, .int (q.2.2.2.2))] → W p l e (rmD 7) s m args below meth c H locs 0 0 Q (F0 m 45 ls []) := by
  have hx := en_x E
  have hb := en_b E
  have hB := en_B E
  refine it_W (fun q : (VT × Int32 × Int32 × Int32 × Int32) => ∀ (H : Heap) (locs : List Loc) (ls : Array Slot), HW G s.heap (q.1) H locs → lv_has ls 8 [(0, .ref (G.2.2 21)), (1, .ref (G.2.2 i)), (2, .ref (G.2.2 17)), (4, .int (q.2.1)), (5, .int (q.2.2.1)), (6, .int (q.2.2.2.1)), (7, .int (q.2.2.2.2))] → W p l e (rmD 7) s m args below meth c H locs 0 0 Q (F0 m 45 ls [])) x ?_
  intro q r h kc kx
  obtain ⟨V, u4, u5, u6, u7⟩ := q
  intro H locs ls hw hl
  have h : fX5_fewestSights_L45 V i u4 u5 u6 u7 = some r := h
  have hw : HW G s.heap V H locs := hw
  have hl : lv_has ls 8 [(0, .ref (G.2.2 21)), (1, .ref (G.2.2 i)), (2, .ref (G.2.2 17)), (4, .int u4), (5, .int u5), (6, .int u6), (7, .int u7)] := hl
  have kr : ∀ q : (Int32 × VT), r = .inr (q) → Q = MQ below (QI G s.heap.size q.1 q.2) args s 0 0 (gA G s.heap.size) := fun q e => kr q (kx _ e).symm
  unfold fX5_fewestSights_L45 at h
  refine lv_iload hx hb dX5_fewestSights_45 (lv_at hl 6 rfl) ?_
  refine lv_bipush (v := (24 : Int32)) hx hb dX5_fewestSights_47 (by decide) ?_
  refine lv_icmp_ge (tgt := 101) hx hb dX5_fewestSights_49 (by decide) (fun c23 => ?_) (fun c23 => ?_)
  · rw [if_pos c23] at h
    refine lv_iload hx hb dX5_fewestSights_101 (lv_at hl 5 rfl) ?_
    rw [kr (u6, V) (Option.some.inj h).symm]
    exact r_ri E hw dX5_fewestSights_103
  · rw [if_neg c23] at h
    refine lv_aload_n hx hb dX5_fewestSights_52 rfl (lv_at hl 0 rfl) ?_
    refine lv_aload_n hx hb dX5_fewestSights_53 rfl (lv_at hl 1 rfl) ?_
    refine lv_aload_n hx hb dX5_fewestSights_54 rfl (lv_at hl 2 rfl) ?_
    refine lv_iload hx hb dX5_fewestSights_55 (lv_at hl 4 rfl) ?_
    refine lv_iload hx hb dX5_fewestSights_57 (lv_at hl 6 rfl) ?_
    refine lv_iadd hx hb dX5_fewestSights_59 ?_
    refine lv_bipush (v := (24 : Int32)) hx hb dX5_fewestSights_60 (by decide) ?_
    refine lv_irem hx hb dX5_fewestSights_62 (by decide) ?_
    obtain ⟨V15, h14, h⟩ := ob_R_some h
    refine c_VV E hw (kX5_goAlong (l := l) (G := G) hB hs_i h14) yy_X5_goAlong lm_RX5_77 rfl (by decide) rfl rfl hl.1 (by decide) (by decide) rfl (Nat.le_of_ble_eq_true rfl) dX5_fewestSights_63 (fun H locs hw => ?_)
    refine lv_iload hx hb dX5_fewestSights_66 (lv_at hl 3 rfl) ?_
    refine lv_if_lt (tgt := 95) hx hb dX5_fewestSights_68 (by decide) (fun c22 => ?_) (fun c22 => ?_)
    · rw [if_pos c22] at h
      obtain ⟨y16, ey16, h⟩ := lt_some h
      refine lv_iinc (v := y16) (lv' := [(7, .int y16), (0, .ref (G.2.2 21)), (1, .ref (G.2.2 i)), (2, .ref (G.2.2 17)), (4, .int u4), (5, .int u5), (6, .int u6)]) hx hb dX5_fewestSights_95 hl (k := 6) rfl (by rw [ey16]; rfl) (by decide) rfl (fun ls hl => ?_)
      refine lv_goto (tgt := 45) hx hb dX5_fewestSights_98 (by decide) ?_
      exact kc (V15, u4, u5, u6, y16) (Option.some.inj h).symm H locs ls hw (lv_sub hl [1, 2, 3, 4, 5, 6, 0] rfl)
    · rw [if_neg c22] at h
      refine lv_iload hx hb dX5_fewestSights_71 (lv_at hl 3 rfl) ?_
      refine lv_aload_n hx hb dX5_fewestSights_73 rfl (lv_at hl 0 rfl) ?_
      refine r_gr E hw 21 0 73 (N := 3) (C := RX5) (T := TX5) (by decide) rfl rfl (by decide) rfl iw_5 rfl lf_RX5_9 dX5_fewestSights_74 ?_
      refine r_al E hw 73 24 (by decide) (by decide) (by decide) rfl dX5_fewestSights_77 ?_
      refine lv_icmp_ge (tgt := 95) hx hb dX5_fewestSights_78 (by decide) (fun c21 => ?_) (fun c21 => ?_)
      · rw [if_pos c21] at h
        obtain ⟨y17, ey17, h⟩ := lt_some h
        refine lv_iinc (v := y17) (lv' := [(7, .int y17), (0, .ref (G.2.2 21)), (1, .ref (G.2.2 i)), (2, .ref (G.2.2 17)), (4, .int u4), (5, .int u5), (6, .int u6)]) hx hb dX5_fewestSights_95 hl (k := 6) rfl (by rw [ey17]; rfl) (by decide) rfl (fun ls hl => ?_)
        refine lv_goto (tgt := 45) hx hb dX5_fewestSights_98 (by decide) ?_
        exact kc (V15, u4, u5, u6, y17) (Option.some.inj h).symm H locs ls hw (lv_sub hl [1, 2, 3, 4, 5, 6, 0] rfl)
      · rw [if_neg c21] at h
        refine lv_iload hx hb dX5_fewestSights_81 (lv_at hl 5 rfl) ?_
        refine lv_aload_n hx hb dX5_fewestSights_83 rfl (lv_at hl 0 rfl) ?_
        refine r_gr E hw 21 0 73 (N := 3) (C := RX5) (T := TX5) (by decide) rfl rfl (by decide) rfl iw_5 rfl lf_RX5_9 dX5_fewestSights_84 ?_
        refine lv_iload hx hb dX5_fewestSights_87 (lv_at hl 3 rfl) ?_
        obtain ⟨b18, h⟩ := rd_some h
        refine r_ia E hw 73 24 (by decide) (by decide) (by decide) rfl rfl b18 dX5_fewestSights_89 ?_
        refine r_min E hl.1 lm_RX5_53 (by decide) (Nat.le_of_ble_eq_true rfl) dX5_fewestSights_90 ?_
        obtain ⟨y19, ey19, h⟩ := lt_some h
        refine lv_eqi ey19 ?_
        refine lv_istore (lv' := [(6, .int y19), (0, .ref (G.2.2 21)), (1, .ref (G.2.2 i)), (2, .ref (G.2.2 17)), (4, .int u4), (5, .int u5), (7, .int u7)]) hx hb dX5_fewestSights_93 hl (by decide) rfl (fun ls hl => ?_)
        obtain ⟨y20, ey20, h⟩ := lt_some h
        refine lv_iinc (v := y20) (lv' := [(7, .int y20), (6, .int y19), (0, .ref (G.2.2 21)), (1, .ref (G.2.2 i)), (2, .ref (G.2.2 17)), (4, .int u4), (5, .int u5)]) hx hb dX5_fewestSights_95 hl (k := 6) rfl (by rw [ey20]; rfl) (by decide) rfl (fun ls hl => ?_)
        refine lv_goto (tgt := 45) hx hb dX5_fewestSights_98 (by decide) ?_
        exact kc (V15, u4, u5, y19, y20) (Option.some.inj h).symm H locs ls hw (lv_sub hl [2, 3, 4, 5, 6, 1, 0] rfl)
set_option maxHeartbeats 4000000 in
set_option maxRecDepth 100000 in
theorem kX5_fewestSights {l : Launch} {G : GT} {B : BGt} (hB : BGok B) {V : VT} {i : Nat} (hs_i : isSt i) {x1 : Int32} {x2 : Int32} {x3 : Int32} {r : (Int32 × VT)} (h : fX5_fewestSights V i x1 x2 x3 = some r) : CI l G B yX5_fewestSights (.code yX5_fewestSights cX5_fewestSights 8 (some .int)) 7 [.ref (G.2.2 21), .ref (G.2.2 i), .ref (G.2.2 17), .int x1, .int x2, .int x3] V r.1 r.2 := by
  intro sz
  refine met_of (Qs := fun sz => QI G sz (r.1) (r.2)) hB (by decide) (Nat.le_of_ble_eq_true rfl) ?_ sz
  intro p e s m args below meth c ls E hw hl
  have hx := en_x E
  have hb := en_b E
  generalize hQ : MQ _ _ _ _ _ _ _ = Q
  have kr : Q = MQ below (QI G s.heap.size r.1 r.2) args s 0 0 (gA G s.heap.size) := hQ.symm
  have hl : lv_has ls 8 [(0, .ref (G.2.2 21)), (1, .ref (G.2.2 i)), (2, .ref (G.2.2 17)), (3, .int x1), (4, .int x2), (5, .int x3)] := hl
  obtain ⟨H, eH⟩ : ∃ H, H = s.heap := ⟨_, rfl⟩
  obtain ⟨locs, elocs⟩ : ∃ z : List Loc, z = [] := ⟨_, rfl⟩
  have hw : HW G s.heap V H locs := by rw [eH, elocs]; exact hw
  show W p l e _ s m args below meth c s.heap [] 0 0 Q (F0 m 0 ls [])
  rw [← eH, ← elocs]
  unfold fX5_fewestSights at h
  refine lv_iconst (v := (0 : Int32)) hx hb dX5_fewestSights_0 (by decide) ?_
  refine lv_istore (lv' := [(6, .int (0 : Int32)), (0, .ref (G.2.2 21)), (1, .ref (G.2.2 i)), (2, .ref (G.2.2 17)), (3, .int x1), (4, .int x2), (5, .int x3)]) hx hb dX5_fewestSights_1 hl (by decide) rfl (fun ls hl => ?_)
  obtain ⟨x10, h9, h⟩ := ob_R_some h
  obtain ⟨V13, y11, y12⟩ := x10
  refine wX5_fewestSights_L3 E hs_i (fun q e H locs ls hw hl => ?_) FV (V, x1, x2, x3, (0 : Int32)) h9 H locs ls hw (lv_sub hl [1, 2, 3, 4, 5, 6, 0] rfl)
  subst e
  have hw : HW G s.heap V13 H locs := hw
  have hl : lv_has ls 8 [(0, .ref (G.2.2 21)), (1, .ref (G.2.2 i)), (2, .ref (G.2.2 17)), (4, .int y11), (5, .int y12)] := hl
  have h := dt3_eq h
  refine lv_ldc (own := RX5) (v := (1000000 : Int32)) hx hb E.2.2.2.1 (en_w E kn_RX5_76 rfl) dX5_fewestSights_38 ?_
  refine lv_istore (lv' := [(6, .int (1000000 : Int32)), (0, .ref (G.2.2 21)), (1, .ref (G.2.2 i)), (2, .ref (G.2.2 17)), (4, .int y11), (5, .int y12)]) hx hb dX5_fewestSights_40 hl (by decide) rfl (fun ls hl => ?_)
  refine lv_iconst (v := (0 : Int32)) hx hb dX5_fewestSights_42 (by decide) ?_
  refine lv_istore (lv' := [(7, .int (0 : Int32)), (6, .int (1000000 : Int32)), (0, .ref (G.2.2 21)), (1, .ref (G.2.2 i)), (2, .ref (G.2.2 17)), (4, .int y11), (5, .int y12)]) hx hb dX5_fewestSights_43 hl (by decide) rfl (fun ls hl => ?_)
  obtain ⟨x25, h24, h⟩ := ob_R_some h
  have h := Option.some.inj h
  subst h
  exact wX5_fewestSights_L45 E hs_i (fun q e => by subst e; exact kr) FV (V13, y11, y12, (1000000 : Int32), (0 : Int32)) h24 H locs ls hw (lv_sub hl [2, 3, 4, 5, 6, 1, 0] rfl)
/-! ===== AllSawIt$Days.doFreeDeeds(LAllSawIt$State;LAllSawIt$Law;)V ===== -/
theorem dX1_doFreeDeeds_0 : decode cX1_doFreeDeeds 0 = .ok (.iconst 0, 1) := by decide +kernel
theorem dX1_doFreeDeeds_1 : decode cX1_doFreeDeeds 1 = .ok (.istore_n 2, 1) := by decide +kernel
theorem dX1_doFreeDeeds_2 : decode cX1_doFreeDeeds 2 = .ok (.iload_n 2, 1) := by decide +kernel
theorem dX1_doFreeDeeds_3 : decode cX1_doFreeDeeds 3 = .ok (.aload_n 0, 1) := by decide +kernel
theorem dX1_doFreeDeeds_4 : decode cX1_doFreeDeeds 4 = .ok (.getfield 49, 3) := by decide +kernel
theorem dX1_doFreeDeeds_7 : decode cX1_doFreeDeeds 7 = .ok (.if_icmp .ge 31, 3) := by decide +kernel
theorem dX1_doFreeDeeds_10 : decode cX1_doFreeDeeds 10 = .ok (.aload_n 0, 1) := by decide +kernel
theorem dX1_doFreeDeeds_11 : decode cX1_doFreeDeeds 11 = .ok (.iload_n 2, 1) := by decide +kernel
theorem dX1_doFreeDeeds_12 : decode cX1_doFreeDeeds 12 = .ok (.invokevirtual 52, 3) := by decide +kernel
theorem dX1_doFreeDeeds_15 : decode cX1_doFreeDeeds 15 = .ok (.ifCond .ne 17, 3) := by decide +kernel
theorem dX1_doFreeDeeds_18 : decode cX1_doFreeDeeds 18 = .ok (.aload_n 0, 1) := by decide +kernel
theorem dX1_doFreeDeeds_19 : decode cX1_doFreeDeeds 19 = .ok (.iload_n 2, 1) := by decide +kernel
theorem dX1_doFreeDeeds_20 : decode cX1_doFreeDeeds 20 = .ok (.invokevirtual 55, 3) := by decide +kernel
theorem dX1_doFreeDeeds_23 : decode cX1_doFreeDeeds 23 = .ok (.ifCond .eq 9, 3) := by decide +kernel
theorem dX1_doFreeDeeds_26 : decode cX1_doFreeDeeds 26 = .ok (.aload_n 0, 1) := by decide +kernel
theorem dX1_doFreeDeeds_27 : decode cX1_doFreeDeeds 27 = .ok (.aload_n 1, 1) := by decide +kernel
theorem dX1_doFreeDeeds_28 : decode cX1_doFreeDeeds 28 = .ok (.iload_n 2, 1) := by decide +kernel
theorem dX1_doFreeDeeds_29 : decode cX1_doFreeDeeds 29 = .ok (.invokestatic 58, 3) := by decide +kernel
theorem dX1_doFreeDeeds_32 : decode cX1_doFreeDeeds 32 = .ok (.iinc 2 1, 3) := by decide +kernel
theorem dX1_doFreeDeeds_35 : decode cX1_doFreeDeeds 35 = .ok (.goto (-33), 3) := by decide +kernel
theorem dX1_doFreeDeeds_38 : decode cX1_doFreeDeeds 38 = .ok (.return_, 1) := by decide +kernel
noncomputable def fX1_doFreeDeeds_L2 (V : VT) (i : Nat) (u2 : Int32) : Option ((VT × Int32) ⊕ VT) := if (V i 4) ≤ u2 then (some (.inr (V))) else (ob_R (fX6_isSo V i u2) fun y2 => if y2 = 0 then (ob_R (fX6_isFree V i u2) fun y5 => if y5 = 0 then (lt_ (u2 + (1 : Int32)) fun y6 => some (.inl (V, y6))) else (ob_R (fX1_showDeed V i u2) fun V8 => lt_ (u2 + (1 : Int32)) fun y9 => some (.inl (V8, y9)))) else (lt_ (u2 + (1 : Int32)) fun y3 => some (.inl (V, y3))))
noncomputable def iX1_doFreeDeeds_L2 (i : Nat) : (VT × Int32) → Option ((VT × Int32) ⊕ VT) := fun q => fX1_doFreeDeeds_L2 (q.1) i (q.2)
noncomputable def fX1_doFreeDeeds (V : VT) (i : Nat) : Option VT := ob_R (it_ (iX1_doFreeDeeds_L2 i) FV (V, (0 : Int32))) fun x14 => some x14
set_option maxHeartbeats 4000000 in
set_option maxRecDepth 100000 in
theorem wX1_doFreeDeeds_L2 {p : Program} {l : Launch} {e : Env} {s : State} {m : MethodId} {args : Array Value} {below : List Frame} {meth : Method} {c : Code} {G : GT} {B : BGt} {Q : State → Prop} (E : En p s m args c meth cX1_doFreeDeeds 3 RX1 none G B) {i : Nat} (hs_i : isSt i) {x : VT} (kr : ∀ q : VT, x = q → Q = MQ below (QV G s.heap.size q) args s 0 0 (gA G s.heap.size)) : ∀ (n : Nat) (q : (VT × Int32)), it_ (iX1_doFreeDeeds_L2 i) n q = some x → ∀ (H : Heap) (locs : List Loc) (ls : Array Slot), HW G s.heap (q.1) H locs → lv_has ls 3 [(0, .ref (G.2.2 i)), (1, .ref (G.2.2 17)), (2, .int (q.2))] → W p l e (rmD 6) s m args below meth c H locs 0 0 Q (F0 m 2 ls []) := by
  have hx := en_x E
  have hb := en_b E
  have hB := en_B E
  refine it_W (fun q : (VT × Int32) => ∀ (H : Heap) (locs : List Loc) (ls : Array Slot), HW G s.heap (q.1) H locs → lv_has ls 3 [(0, .ref (G.2.2 i)), (1, .ref (G.2.2 17)), (2, .int (q.2))] → W p l e (rmD 6) s m args below meth c H locs 0 0 Q (F0 m 2 ls [])) x ?_
  intro q r h kc kx
  obtain ⟨V, u2⟩ := q
  intro H locs ls hw hl
  have h : fX1_doFreeDeeds_L2 V i u2 = some r := h
  have hw : HW G s.heap V H locs := hw
  have hl : lv_has ls 3 [(0, .ref (G.2.2 i)), (1, .ref (G.2.2 17)), (2, .int u2)] := hl
  have kr : ∀ q : VT, r = .inr (q) → Q = MQ below (QV G s.heap.size q) args s 0 0 (gA G s.heap.size) := fun q e => kr q (kx _ e).symm
  unfold fX1_doFreeDeeds_L2 at h
  refine lv_iload_n hx hb dX1_doFreeDeeds_2 rfl (lv_at hl 2 rfl) ?_
  refine lv_aload_n hx hb dX1_doFreeDeeds_3 rfl (lv_at hl 0 rfl) ?_
  refine r_giN E hw i 4 (N := 13) (C := RX6) (T := TX6) (st_lt hs_i) (st_c hs_i) (st_N hs_i) (by decide) (st_n hs_i (k := 4) (by decide)) iw_6 rfl lf_RX1_49 dX1_doFreeDeeds_4 ?_
  refine lv_icmp_ge (tgt := 38) hx hb dX1_doFreeDeeds_7 (by decide) (fun c12 => ?_) (fun c12 => ?_)
  · rw [if_pos c12] at h
    rw [kr V (Option.some.inj h).symm]
    exact r_rv E hw dX1_doFreeDeeds_38
  · rw [if_neg c12] at h
    refine lv_aload_n hx hb dX1_doFreeDeeds_10 rfl (lv_at hl 0 rfl) ?_
    refine lv_iload_n hx hb dX1_doFreeDeeds_11 rfl (lv_at hl 2 rfl) ?_
    obtain ⟨y2, h1, h⟩ := ob_R_some h
    refine c_VI E hw (kX6_isSo (l := l) (G := G) hB hs_i h1) yy_X6_isSo lm_RX1_52 rfl (st_lt hs_i) (st_c hs_i) rfl hl.1 (by decide) (by decide) rfl (Nat.le_of_ble_eq_true rfl) dX1_doFreeDeeds_12 (fun H locs hw => ?_)
    refine lv_if_ne (tgt := 32) hx hb dX1_doFreeDeeds_15 (by decide) (fun c11 => ?_) (fun c11 => ?_)
    · rw [if_neg c11] at h
      obtain ⟨y3, ey3, h⟩ := lt_some h
      refine lv_iinc (v := y3) (lv' := [(2, .int y3), (0, .ref (G.2.2 i)), (1, .ref (G.2.2 17))]) hx hb dX1_doFreeDeeds_32 hl (k := 2) rfl (by rw [ey3]; rfl) (by decide) rfl (fun ls hl => ?_)
      refine lv_goto (tgt := 2) hx hb dX1_doFreeDeeds_35 (by decide) ?_
      exact kc (V, y3) (Option.some.inj h).symm H locs ls hw (lv_sub hl [1, 2, 0] rfl)
    · rw [if_pos c11] at h
      refine lv_aload_n hx hb dX1_doFreeDeeds_18 rfl (lv_at hl 0 rfl) ?_
      refine lv_iload_n hx hb dX1_doFreeDeeds_19 rfl (lv_at hl 2 rfl) ?_
      obtain ⟨y5, h4, h⟩ := ob_R_some h
      refine c_VI E hw (kX6_isFree (l := l) (G := G) hB hs_i h4) yy_X6_isFree lm_RX1_55 rfl (st_lt hs_i) (st_c hs_i) rfl hl.1 (by decide) (by decide) rfl (Nat.le_of_ble_eq_true rfl) dX1_doFreeDeeds_20 (fun H locs hw => ?_)
      refine lv_if_eq (tgt := 32) hx hb dX1_doFreeDeeds_23 (by decide) (fun c10 => ?_) (fun c10 => ?_)
      · rw [if_pos c10] at h
        obtain ⟨y6, ey6, h⟩ := lt_some h
        refine lv_iinc (v := y6) (lv' := [(2, .int y6), (0, .ref (G.2.2 i)), (1, .ref (G.2.2 17))]) hx hb dX1_doFreeDeeds_32 hl (k := 2) rfl (by rw [ey6]; rfl) (by decide) rfl (fun ls hl => ?_)
        refine lv_goto (tgt := 2) hx hb dX1_doFreeDeeds_35 (by decide) ?_
        exact kc (V, y6) (Option.some.inj h).symm H locs ls hw (lv_sub hl [1, 2, 0] rfl)
      · rw [if_neg c10] at h
        refine lv_aload_n hx hb dX1_doFreeDeeds_26 rfl (lv_at hl 0 rfl) ?_
        refine lv_aload_n hx hb dX1_doFreeDeeds_27 rfl (lv_at hl 1 rfl) ?_
        refine lv_iload_n hx hb dX1_doFreeDeeds_28 rfl (lv_at hl 2 rfl) ?_
        obtain ⟨V8, h7, h⟩ := ob_R_some h
        refine c_SV E hw (kX1_showDeed (l := l) (G := G) hB hs_i h7) yy_X1_showDeed lm_RX1_58 rfl hl.1 (by decide) (by decide) rfl (Nat.le_of_ble_eq_true rfl) dX1_doFreeDeeds_29 (fun H locs hw => ?_)
        obtain ⟨y9, ey9, h⟩ := lt_some h
        refine lv_iinc (v := y9) (lv' := [(2, .int y9), (0, .ref (G.2.2 i)), (1, .ref (G.2.2 17))]) hx hb dX1_doFreeDeeds_32 hl (k := 2) rfl (by rw [ey9]; rfl) (by decide) rfl (fun ls hl => ?_)
        refine lv_goto (tgt := 2) hx hb dX1_doFreeDeeds_35 (by decide) ?_
        exact kc (V8, y9) (Option.some.inj h).symm H locs ls hw (lv_sub hl [1, 2, 0] rfl)
set_option maxHeartbeats 4000000 in
set_option maxRecDepth 100000 in
theorem kX1_doFreeDeeds {l : Launch} {G : GT} {B : BGt} (hB : BGok B) {V : VT} {i : Nat} (hs_i : isSt i) {r : VT} (h : fX1_doFreeDeeds V i = some r) : CV l G B yX1_doFreeDeeds (.code yX1_doFreeDeeds cX1_doFreeDeeds 3 none) 6 [.ref (G.2.2 i), .ref (G.2.2 17)] V r := by
  intro sz
  refine met_of (Qs := fun sz => QV G sz r) hB (by decide) (Nat.le_of_ble_eq_true rfl) ?_ sz
  intro p e s m args below meth c ls E hw hl
  have hx := en_x E
  have hb := en_b E
  generalize hQ : MQ _ _ _ _ _ _ _ = Q
  have kr : Q = MQ below (QV G s.heap.size r) args s 0 0 (gA G s.heap.size) := hQ.symm
  have hl : lv_has ls 3 [(0, .ref (G.2.2 i)), (1, .ref (G.2.2 17))] := hl
  obtain ⟨H, eH⟩ : ∃ H, H = s.heap := ⟨_, rfl⟩
  obtain ⟨locs, elocs⟩ : ∃ z : List Loc, z = [] := ⟨_, rfl⟩
  have hw : HW G s.heap V H locs := by rw [eH, elocs]; exact hw
  show W p l e _ s m args below meth c s.heap [] 0 0 Q (F0 m 0 ls [])
  rw [← eH, ← elocs]
  unfold fX1_doFreeDeeds at h
  refine lv_iconst (v := (0 : Int32)) hx hb dX1_doFreeDeeds_0 (by decide) ?_
  refine lv_istore_n (lv' := [(2, .int (0 : Int32)), (0, .ref (G.2.2 i)), (1, .ref (G.2.2 17))]) hx hb dX1_doFreeDeeds_1 rfl hl (by decide) rfl (fun ls hl => ?_)
  obtain ⟨x14, h13, h⟩ := ob_R_some h
  have h := Option.some.inj h
  subst h
  exact wX1_doFreeDeeds_L2 E hs_i (fun q e => by subst e; exact kr) FV (V, (0 : Int32)) h13 H locs ls hw (lv_sub hl [1, 2, 0] rfl)
/-! ===== AllSawIt$Days.pass(LAllSawIt$State;LAllSawIt$Law;)V ===== -/
theorem dX1_pass_0 : decode cX1_pass 0 = .ok (.aload_n 0, 1) := by decide +kernel
theorem dX1_pass_1 : decode cX1_pass 1 = .ok (.aload_n 0, 1) := by decide +kernel
theorem dX1_pass_2 : decode cX1_pass 2 = .ok (.invokevirtual 7, 3) := by decide +kernel
theorem dX1_pass_5 : decode cX1_pass 5 = .ok (.bipush 10, 2) := by decide +kernel
theorem dX1_pass_7 : decode cX1_pass 7 = .ok (.irem, 1) := by decide +kernel
theorem dX1_pass_8 : decode cX1_pass 8 = .ok (.aload_n 0, 1) := by decide +kernel
theorem dX1_pass_9 : decode cX1_pass 9 = .ok (.getfield 13, 3) := by decide +kernel
theorem dX1_pass_12 : decode cX1_pass 12 = .ok (.invokestatic 17, 3) := by decide +kernel
theorem dX1_pass_15 : decode cX1_pass 15 = .ok (.putfield 23, 3) := by decide +kernel
theorem dX1_pass_18 : decode cX1_pass 18 = .ok (.aload_n 0, 1) := by decide +kernel
theorem dX1_pass_19 : decode cX1_pass 19 = .ok (.aload_n 1, 1) := by decide +kernel
theorem dX1_pass_20 : decode cX1_pass 20 = .ok (.invokestatic 26, 3) := by decide +kernel
theorem dX1_pass_23 : decode cX1_pass 23 = .ok (.iconst 0, 1) := by decide +kernel
theorem dX1_pass_24 : decode cX1_pass 24 = .ok (.istore_n 2, 1) := by decide +kernel
theorem dX1_pass_25 : decode cX1_pass 25 = .ok (.iload_n 2, 1) := by decide +kernel
theorem dX1_pass_26 : decode cX1_pass 26 = .ok (.aload_n 0, 1) := by decide +kernel
theorem dX1_pass_27 : decode cX1_pass 27 = .ok (.getfield 32, 3) := by decide +kernel
theorem dX1_pass_30 : decode cX1_pass 30 = .ok (.if_icmp .ge 38, 3) := by decide +kernel
theorem dX1_pass_33 : decode cX1_pass 33 = .ok (.aload_n 0, 1) := by decide +kernel
theorem dX1_pass_34 : decode cX1_pass 34 = .ok (.iload_n 2, 1) := by decide +kernel
theorem dX1_pass_35 : decode cX1_pass 35 = .ok (.invokevirtual 35, 3) := by decide +kernel
theorem dX1_pass_38 : decode cX1_pass 38 = .ok (.ifCond .ne 24, 3) := by decide +kernel
theorem dX1_pass_41 : decode cX1_pass 41 = .ok (.aload_n 0, 1) := by decide +kernel
theorem dX1_pass_42 : decode cX1_pass 42 = .ok (.invokevirtual 7, 3) := by decide +kernel
theorem dX1_pass_45 : decode cX1_pass 45 = .ok (.bipush 10, 2) := by decide +kernel
theorem dX1_pass_47 : decode cX1_pass 47 = .ok (.irem, 1) := by decide +kernel
theorem dX1_pass_48 : decode cX1_pass 48 = .ok (.aload_n 0, 1) := by decide +kernel
theorem dX1_pass_49 : decode cX1_pass 49 = .ok (.iload_n 2, 1) := by decide +kernel
theorem dX1_pass_50 : decode cX1_pass 50 = .ok (.iconst 5, 1) := by decide +kernel
theorem dX1_pass_51 : decode cX1_pass 51 = .ok (.invokevirtual 39, 3) := by decide +kernel
theorem dX1_pass_54 : decode cX1_pass 54 = .ok (.if_icmp .lt 8, 3) := by decide +kernel
theorem dX1_pass_57 : decode cX1_pass 57 = .ok (.aload_n 0, 1) := by decide +kernel
theorem dX1_pass_58 : decode cX1_pass 58 = .ok (.iload_n 2, 1) := by decide +kernel
theorem dX1_pass_59 : decode cX1_pass 59 = .ok (.invokevirtual 42, 3) := by decide +kernel
theorem dX1_pass_62 : decode cX1_pass 62 = .ok (.iinc 2 1, 3) := by decide +kernel
theorem dX1_pass_65 : decode cX1_pass 65 = .ok (.goto (-40), 3) := by decide +kernel
theorem dX1_pass_68 : decode cX1_pass 68 = .ok (.aload_n 0, 1) := by decide +kernel
theorem dX1_pass_69 : decode cX1_pass 69 = .ok (.invokevirtual 46, 3) := by decide +kernel
theorem dX1_pass_72 : decode cX1_pass 72 = .ok (.return_, 1) := by decide +kernel
noncomputable def fX1_pass_L25 (V : VT) (i : Nat) (u2 : Int32) : Option ((VT × Int32) ⊕ VT) := if (V i 3) ≤ u2 then (ob_R (fX6_endDay V i) fun V8 => some (.inr (V8))) else (ob_R (fX6_isAway V i u2) fun y10 => if y10 = 0 then (ob_I (fX6_draw V i) fun y13 V14 => ob_R (fX6_ofHouse V14 i u2 (5 : Int32)) fun y16 => if (y13 - y13 / (10 : Int32) * (10 : Int32)) < y16 then (lt_ (u2 + (1 : Int32)) fun y17 => some (.inl (V14, y17))) else (ob_R (fX6_sayAll V14 i u2) fun V19 => lt_ (u2 + (1 : Int32)) fun y20 => some (.inl (V19, y20)))) else (lt_ (u2 + (1 : Int32)) fun y11 => some (.inl (V, y11))))
noncomputable def iX1_pass_L25 (i : Nat) : (VT × Int32) → Option ((VT × Int32) ⊕ VT) := fun q => fX1_pass_L25 (q.1) i (q.2)
noncomputable def fX1_pass (V : VT) (i : Nat) : Option VT := ob_I (fX6_draw V i) fun y2 V3 => lt_ (va_up V3 i (upd (V3 i) 8 (if (V3 i 9) < (y2 - y2 / (10 : Int32) * (10 : Int32)) then (V3 i 9) else (y2 - y2 / (10 : Int32) * (10 : Int32))))) fun V4 => ob_R (fX1_doFreeDeeds V4 i) fun V6 => ob_R (it_ (iX1_pass_L25 i) FV (V6, (0 : Int32))) fun x25 => some x25
set_option maxHeartbeats 4000000 in
set_option maxRecDepth 100000 in
theorem wX1_pass_L25 {p : Program} {l : Launch} {e : Env} {s : State} {m : MethodId} {args : Array Value} {below : List Frame} {meth : Method} {c : Code} {G : GT} {B : BGt} {Q : State → Prop} (E : En p s m args c meth cX1_pass 3 RX1 none G B) {i : Nat} (hs_i : isSt i) {x : VT} (kr : ∀ q : VT, x = q → Q = MQ below (QV G s.heap.size q) args s 0 0 (gA G s.heap.size)) : ∀ (n : Nat) (q : (VT × Int32)), it_ (iX1_pass_L25 i) n q = some x → ∀ (H : Heap) (locs : List Loc) (ls : Array Slot), HW G s.heap (q.1) H locs → lv_has ls 3 [(0, .ref (G.2.2 i)), (2, .int (q.2))] → W p l e (rmD 7) s m args below meth c H locs 0 0 Q (F0 m 25 ls []) := by
  have hx := en_x E
  have hb := en_b E
  have hB := en_B E
  refine it_W (fun q : (VT × Int32) => ∀ (H : Heap) (locs : List Loc) (ls : Array Slot), HW G s.heap (q.1) H locs → lv_has ls 3 [(0, .ref (G.2.2 i)), (2, .int (q.2))] → W p l e (rmD 7) s m args below meth c H locs 0 0 Q (F0 m 25 ls [])) x ?_
  intro q r h kc kx
  obtain ⟨V, u2⟩ := q
  intro H locs ls hw hl
  have h : fX1_pass_L25 V i u2 = some r := h
  have hw : HW G s.heap V H locs := hw
  have hl : lv_has ls 3 [(0, .ref (G.2.2 i)), (2, .int u2)] := hl
  have kr : ∀ q : VT, r = .inr (q) → Q = MQ below (QV G s.heap.size q) args s 0 0 (gA G s.heap.size) := fun q e => kr q (kx _ e).symm
  unfold fX1_pass_L25 at h
  refine lv_iload_n hx hb dX1_pass_25 rfl (lv_at hl 1 rfl) ?_
  refine lv_aload_n hx hb dX1_pass_26 rfl (lv_at hl 0 rfl) ?_
  refine r_giN E hw i 3 (N := 13) (C := RX6) (T := TX6) (st_lt hs_i) (st_c hs_i) (st_N hs_i) (by decide) (st_n hs_i (k := 3) (by decide)) iw_6 rfl lf_RX1_32 dX1_pass_27 ?_
  refine lv_icmp_ge (tgt := 68) hx hb dX1_pass_30 (by decide) (fun c23 => ?_) (fun c23 => ?_)
  · rw [if_pos c23] at h
    refine lv_aload_n hx hb dX1_pass_68 rfl (lv_at hl 0 rfl) ?_
    obtain ⟨V8, h7, h⟩ := ob_R_some h
    refine c_VV E hw (kX6_endDay (l := l) (G := G) hB hs_i h7) yy_X6_endDay lm_RX1_46 rfl (st_lt hs_i) (st_c hs_i) rfl hl.1 (by decide) (by decide) rfl (Nat.le_of_ble_eq_true rfl) dX1_pass_69 (fun H locs hw => ?_)
    rw [kr V8 (Option.some.inj h).symm]
    exact r_rv E hw dX1_pass_72
  · rw [if_neg c23] at h
    refine lv_aload_n hx hb dX1_pass_33 rfl (lv_at hl 0 rfl) ?_
    refine lv_iload_n hx hb dX1_pass_34 rfl (lv_at hl 1 rfl) ?_
    obtain ⟨y10, h9, h⟩ := ob_R_some h
    refine c_VI E hw (kX6_isAway (l := l) (G := G) hB hs_i h9) yy_X6_isAway lm_RX1_35 rfl (st_lt hs_i) (st_c hs_i) rfl hl.1 (by decide) (by decide) rfl (Nat.le_of_ble_eq_true rfl) dX1_pass_35 (fun H locs hw => ?_)
    refine lv_if_ne (tgt := 62) hx hb dX1_pass_38 (by decide) (fun c22 => ?_) (fun c22 => ?_)
    · rw [if_neg c22] at h
      obtain ⟨y11, ey11, h⟩ := lt_some h
      refine lv_iinc (v := y11) (lv' := [(2, .int y11), (0, .ref (G.2.2 i))]) hx hb dX1_pass_62 hl (k := 1) rfl (by rw [ey11]; rfl) (by decide) rfl (fun ls hl => ?_)
      refine lv_goto (tgt := 25) hx hb dX1_pass_65 (by decide) ?_
      exact kc (V, y11) (Option.some.inj h).symm H locs ls hw (lv_sub hl [1, 0] rfl)
    · rw [if_pos c22] at h
      refine lv_aload_n hx hb dX1_pass_41 rfl (lv_at hl 0 rfl) ?_
      obtain ⟨y13, V14, h12, h⟩ := ob_I_some h
      refine c_VI E hw (kX6_draw (l := l) (G := G) hB hs_i h12) yy_X6_draw lm_RX1_7 rfl (st_lt hs_i) (st_c hs_i) rfl hl.1 (by decide) (by decide) rfl (Nat.le_of_ble_eq_true rfl) dX1_pass_42 (fun H locs hw => ?_)
      refine lv_bipush (v := (10 : Int32)) hx hb dX1_pass_45 (by decide) ?_
      refine lv_irem hx hb dX1_pass_47 (by decide) ?_
      refine lv_aload_n hx hb dX1_pass_48 rfl (lv_at hl 0 rfl) ?_
      refine lv_iload_n hx hb dX1_pass_49 rfl (lv_at hl 1 rfl) ?_
      refine lv_iconst (v := (5 : Int32)) hx hb dX1_pass_50 (by decide) ?_
      obtain ⟨y16, h15, h⟩ := ob_R_some h
      refine c_VI E hw (kX6_ofHouse (l := l) (G := G) hB hs_i h15) yy_X6_ofHouse lm_RX1_39 rfl (st_lt hs_i) (st_c hs_i) rfl hl.1 (by decide) (by decide) rfl (Nat.le_of_ble_eq_true rfl) dX1_pass_51 (fun H locs hw => ?_)
      refine lv_icmp_lt (tgt := 62) hx hb dX1_pass_54 (by decide) (fun c21 => ?_) (fun c21 => ?_)
      · rw [if_pos c21] at h
        obtain ⟨y17, ey17, h⟩ := lt_some h
        refine lv_iinc (v := y17) (lv' := [(2, .int y17), (0, .ref (G.2.2 i))]) hx hb dX1_pass_62 hl (k := 1) rfl (by rw [ey17]; rfl) (by decide) rfl (fun ls hl => ?_)
        refine lv_goto (tgt := 25) hx hb dX1_pass_65 (by decide) ?_
        exact kc (V14, y17) (Option.some.inj h).symm H locs ls hw (lv_sub hl [1, 0] rfl)
      · rw [if_neg c21] at h
        refine lv_aload_n hx hb dX1_pass_57 rfl (lv_at hl 0 rfl) ?_
        refine lv_iload_n hx hb dX1_pass_58 rfl (lv_at hl 1 rfl) ?_
        obtain ⟨V19, h18, h⟩ := ob_R_some h
        refine c_VV E hw (kX6_sayAll (l := l) (G := G) hB hs_i h18) yy_X6_sayAll lm_RX1_42 rfl (st_lt hs_i) (st_c hs_i) rfl hl.1 (by decide) (by decide) rfl (Nat.le_of_ble_eq_true rfl) dX1_pass_59 (fun H locs hw => ?_)
        obtain ⟨y20, ey20, h⟩ := lt_some h
        refine lv_iinc (v := y20) (lv' := [(2, .int y20), (0, .ref (G.2.2 i))]) hx hb dX1_pass_62 hl (k := 1) rfl (by rw [ey20]; rfl) (by decide) rfl (fun ls hl => ?_)
        refine lv_goto (tgt := 25) hx hb dX1_pass_65 (by decide) ?_
        exact kc (V19, y20) (Option.some.inj h).symm H locs ls hw (lv_sub hl [1, 0] rfl)
set_option maxHeartbeats 4000000 in
set_option maxRecDepth 100000 in
theorem kX1_pass {l : Launch} {G : GT} {B : BGt} (hB : BGok B) {V : VT} {i : Nat} (hs_i : isSt i) {r : VT} (h : fX1_pass V i = some r) : CV l G B yX1_pass (.code yX1_pass cX1_pass 3 none) 7 [.ref (G.2.2 i), .ref (G.2.2 17)] V r := by
  intro sz
  refine met_of (Qs := fun sz => QV G sz r) hB (by decide) (Nat.le_of_ble_eq_true rfl) ?_ sz
  intro p e s m args below meth c ls E hw hl
  have hx := en_x E
  have hb := en_b E
  generalize hQ : MQ _ _ _ _ _ _ _ = Q
  have kr : Q = MQ below (QV G s.heap.size r) args s 0 0 (gA G s.heap.size) := hQ.symm
  have hl : lv_has ls 3 [(0, .ref (G.2.2 i)), (1, .ref (G.2.2 17))] := hl
  obtain ⟨H, eH⟩ : ∃ H, H = s.heap := ⟨_, rfl⟩
  obtain ⟨locs, elocs⟩ : ∃ z : List Loc, z = [] := ⟨_, rfl⟩
  have hw : HW G s.heap V H locs := by rw [eH, elocs]; exact hw
  show W p l e _ s m args below meth c s.heap [] 0 0 Q (F0 m 0 ls [])
  rw [← eH, ← elocs]
  unfold fX1_pass at h
  refine lv_aload_n hx hb dX1_pass_0 rfl (lv_at hl 0 rfl) ?_
  refine lv_aload_n hx hb dX1_pass_1 rfl (lv_at hl 0 rfl) ?_
  obtain ⟨y2, V3, h1, h⟩ := ob_I_some h
  refine c_VI E hw (kX6_draw (l := l) (G := G) hB hs_i h1) yy_X6_draw lm_RX1_7 rfl (st_lt hs_i) (st_c hs_i) rfl hl.1 (by decide) (by decide) rfl (Nat.le_of_ble_eq_true rfl) dX1_pass_2 (fun H locs hw => ?_)
  refine lv_bipush (v := (10 : Int32)) hx hb dX1_pass_5 (by decide) ?_
  refine lv_irem hx hb dX1_pass_7 (by decide) ?_
  refine lv_aload_n hx hb dX1_pass_8 rfl (lv_at hl 0 rfl) ?_
  refine r_giN E hw i 9 (N := 13) (C := RX6) (T := TX6) (st_lt hs_i) (st_c hs_i) (st_N hs_i) (by decide) (st_n hs_i (k := 9) (by decide)) iw_6 rfl lf_RX1_13 dX1_pass_9 ?_
  refine r_min E hl.1 lm_RX1_17 (by decide) (Nat.le_of_ble_eq_true rfl) dX1_pass_12 ?_
  obtain ⟨V4, eV4, h⟩ := lt_some h
  refine r_piN E hw i 8 (N := 13) (C := RX6) (T := TX6) (ty0 := tyX6) (ty := .int) (st_lt hs_i) (st_c hs_i) (st_N hs_i) (by decide) (st_n hs_i (k := 8) (by decide)) iw_6 rfl tyX6_ok nmX6 rfl rfl (vp_nar_int _) rfl lf_RX1_23 eV4 dX1_pass_15 (fun H locs hw => ?_)
  refine lv_aload_n hx hb dX1_pass_18 rfl (lv_at hl 0 rfl) ?_
  refine lv_aload_n hx hb dX1_pass_19 rfl (lv_at hl 1 rfl) ?_
  obtain ⟨V6, h5, h⟩ := ob_R_some h
  refine c_SV E hw (kX1_doFreeDeeds (l := l) (G := G) hB hs_i h5) yy_X1_doFreeDeeds lm_RX1_26 rfl hl.1 (by decide) (by decide) rfl (Nat.le_of_ble_eq_true rfl) dX1_pass_20 (fun H locs hw => ?_)
  refine lv_iconst (v := (0 : Int32)) hx hb dX1_pass_23 (by decide) ?_
  refine lv_istore_n (lv' := [(2, .int (0 : Int32)), (0, .ref (G.2.2 i)), (1, .ref (G.2.2 17))]) hx hb dX1_pass_24 rfl hl (by decide) rfl (fun ls hl => ?_)
  obtain ⟨x25, h24, h⟩ := ob_R_some h
  have h := Option.some.inj h
  subst h
  exact wX1_pass_L25 E hs_i (fun q e => by subst e; exact kr) FV (V6, (0 : Int32)) h24 H locs ls hw (lv_sub hl [1, 0] rfl)
/-! ===== AllSawIt$Days.passTold(LAllSawIt$State;LAllSawIt$Law;I)V ===== -/
theorem dX1_passTold_0 : decode cX1_passTold 0 = .ok (.aload_n 0, 1) := by decide +kernel
theorem dX1_passTold_1 : decode cX1_passTold 1 = .ok (.iload_n 2, 1) := by decide +kernel
theorem dX1_passTold_2 : decode cX1_passTold 2 = .ok (.putfield 23, 3) := by decide +kernel
theorem dX1_passTold_5 : decode cX1_passTold 5 = .ok (.aload_n 0, 1) := by decide +kernel
theorem dX1_passTold_6 : decode cX1_passTold 6 = .ok (.aload_n 1, 1) := by decide +kernel
theorem dX1_passTold_7 : decode cX1_passTold 7 = .ok (.invokestatic 26, 3) := by decide +kernel
theorem dX1_passTold_10 : decode cX1_passTold 10 = .ok (.iconst 0, 1) := by decide +kernel
theorem dX1_passTold_11 : decode cX1_passTold 11 = .ok (.istore_n 3, 1) := by decide +kernel
theorem dX1_passTold_12 : decode cX1_passTold 12 = .ok (.iload_n 3, 1) := by decide +kernel
theorem dX1_passTold_13 : decode cX1_passTold 13 = .ok (.aload_n 0, 1) := by decide +kernel
theorem dX1_passTold_14 : decode cX1_passTold 14 = .ok (.getfield 32, 3) := by decide +kernel
theorem dX1_passTold_17 : decode cX1_passTold 17 = .ok (.if_icmp .ge 22, 3) := by decide +kernel
theorem dX1_passTold_20 : decode cX1_passTold 20 = .ok (.aload_n 0, 1) := by decide +kernel
theorem dX1_passTold_21 : decode cX1_passTold 21 = .ok (.iload_n 3, 1) := by decide +kernel
theorem dX1_passTold_22 : decode cX1_passTold 22 = .ok (.invokevirtual 35, 3) := by decide +kernel
theorem dX1_passTold_25 : decode cX1_passTold 25 = .ok (.ifCond .ne 8, 3) := by decide +kernel
theorem dX1_passTold_28 : decode cX1_passTold 28 = .ok (.aload_n 0, 1) := by decide +kernel
theorem dX1_passTold_29 : decode cX1_passTold 29 = .ok (.iload_n 3, 1) := by decide +kernel
theorem dX1_passTold_30 : decode cX1_passTold 30 = .ok (.invokevirtual 42, 3) := by decide +kernel
theorem dX1_passTold_33 : decode cX1_passTold 33 = .ok (.iinc 3 1, 3) := by decide +kernel
theorem dX1_passTold_36 : decode cX1_passTold 36 = .ok (.goto (-24), 3) := by decide +kernel
theorem dX1_passTold_39 : decode cX1_passTold 39 = .ok (.aload_n 0, 1) := by decide +kernel
theorem dX1_passTold_40 : decode cX1_passTold 40 = .ok (.invokevirtual 46, 3) := by decide +kernel
theorem dX1_passTold_43 : decode cX1_passTold 43 = .ok (.return_, 1) := by decide +kernel
noncomputable def fX1_passTold_L12 (V : VT) (i : Nat) (u3 : Int32) : Option ((VT × Int32) ⊕ VT) := if (V i 3) ≤ u3 then (ob_R (fX6_endDay V i) fun V5 => some (.inr (V5))) else (ob_R (fX6_isAway V i u3) fun y7 => if y7 = 0 then (ob_R (fX6_sayAll V i u3) fun V10 => lt_ (u3 + (1 : Int32)) fun y11 => some (.inl (V10, y11))) else (lt_ (u3 + (1 : Int32)) fun y8 => some (.inl (V, y8))))
noncomputable def iX1_passTold_L12 (i : Nat) : (VT × Int32) → Option ((VT × Int32) ⊕ VT) := fun q => fX1_passTold_L12 (q.1) i (q.2)
noncomputable def fX1_passTold (V : VT) (i : Nat) (x1 : Int32) : Option VT := lt_ (va_up V i (upd (V i) 8 x1)) fun V1 => ob_R (fX1_doFreeDeeds V1 i) fun V3 => ob_R (it_ (iX1_passTold_L12 i) FV (V3, (0 : Int32))) fun x15 => some x15
set_option maxHeartbeats 4000000 in
set_option maxRecDepth 100000 in
theorem wX1_passTold_L12 {p : Program} {l : Launch} {e : Env} {s : State} {m : MethodId} {args : Array Value} {below : List Frame} {meth : Method} {c : Code} {G : GT} {B : BGt} {Q : State → Prop} (E : En p s m args c meth cX1_passTold 4 RX1 none G B) {i : Nat} (hs_i : isSt i) {x : VT} (kr : ∀ q : VT, x = q → Q = MQ below (QV G s.heap.size q) args s 0 0 (gA G s.heap.size)) : ∀ (n : Nat) (q : (VT × Int32)), it_ (iX1_passTold_L12 i) n q = some x → ∀ (H : Heap) (locs : List Loc) (ls : Array Slot), HW G s.heap (q.1) H locs → lv_has ls 4 [(0, .ref (G.2.2 i)), (3, .int (q.2))] → W p l e (rmD 7) s m args below meth c H locs 0 0 Q (F0 m 12 ls []) := by
  have hx := en_x E
  have hb := en_b E
  have hB := en_B E
  refine it_W (fun q : (VT × Int32) => ∀ (H : Heap) (locs : List Loc) (ls : Array Slot), HW G s.heap (q.1) H locs → lv_has ls 4 [(0, .ref (G.2.2 i)), (3, .int (q.2))] → W p l e (rmD 7) s m args below meth c H locs 0 0 Q (F0 m 12 ls [])) x ?_
  intro q r h kc kx
  obtain ⟨V, u3⟩ := q
  intro H locs ls hw hl
  have h : fX1_passTold_L12 V i u3 = some r := h
  have hw : HW G s.heap V H locs := hw
  have hl : lv_has ls 4 [(0, .ref (G.2.2 i)), (3, .int u3)] := hl
  have kr : ∀ q : VT, r = .inr (q) → Q = MQ below (QV G s.heap.size q) args s 0 0 (gA G s.heap.size) := fun q e => kr q (kx _ e).symm
  unfold fX1_passTold_L12 at h
  refine lv_iload_n hx hb dX1_passTold_12 rfl (lv_at hl 1 rfl) ?_
  refine lv_aload_n hx hb dX1_passTold_13 rfl (lv_at hl 0 rfl) ?_
  refine r_giN E hw i 3 (N := 13) (C := RX6) (T := TX6) (st_lt hs_i) (st_c hs_i) (st_N hs_i) (by decide) (st_n hs_i (k := 3) (by decide)) iw_6 rfl lf_RX1_32 dX1_passTold_14 ?_
  refine lv_icmp_ge (tgt := 39) hx hb dX1_passTold_17 (by decide) (fun c13 => ?_) (fun c13 => ?_)
  · rw [if_pos c13] at h
    refine lv_aload_n hx hb dX1_passTold_39 rfl (lv_at hl 0 rfl) ?_
    obtain ⟨V5, h4, h⟩ := ob_R_some h
    refine c_VV E hw (kX6_endDay (l := l) (G := G) hB hs_i h4) yy_X6_endDay lm_RX1_46 rfl (st_lt hs_i) (st_c hs_i) rfl hl.1 (by decide) (by decide) rfl (Nat.le_of_ble_eq_true rfl) dX1_passTold_40 (fun H locs hw => ?_)
    rw [kr V5 (Option.some.inj h).symm]
    exact r_rv E hw dX1_passTold_43
  · rw [if_neg c13] at h
    refine lv_aload_n hx hb dX1_passTold_20 rfl (lv_at hl 0 rfl) ?_
    refine lv_iload_n hx hb dX1_passTold_21 rfl (lv_at hl 1 rfl) ?_
    obtain ⟨y7, h6, h⟩ := ob_R_some h
    refine c_VI E hw (kX6_isAway (l := l) (G := G) hB hs_i h6) yy_X6_isAway lm_RX1_35 rfl (st_lt hs_i) (st_c hs_i) rfl hl.1 (by decide) (by decide) rfl (Nat.le_of_ble_eq_true rfl) dX1_passTold_22 (fun H locs hw => ?_)
    refine lv_if_ne (tgt := 33) hx hb dX1_passTold_25 (by decide) (fun c12 => ?_) (fun c12 => ?_)
    · rw [if_neg c12] at h
      obtain ⟨y8, ey8, h⟩ := lt_some h
      refine lv_iinc (v := y8) (lv' := [(3, .int y8), (0, .ref (G.2.2 i))]) hx hb dX1_passTold_33 hl (k := 1) rfl (by rw [ey8]; rfl) (by decide) rfl (fun ls hl => ?_)
      refine lv_goto (tgt := 12) hx hb dX1_passTold_36 (by decide) ?_
      exact kc (V, y8) (Option.some.inj h).symm H locs ls hw (lv_sub hl [1, 0] rfl)
    · rw [if_pos c12] at h
      refine lv_aload_n hx hb dX1_passTold_28 rfl (lv_at hl 0 rfl) ?_
      refine lv_iload_n hx hb dX1_passTold_29 rfl (lv_at hl 1 rfl) ?_
      obtain ⟨V10, h9, h⟩ := ob_R_some h
      refine c_VV E hw (kX6_sayAll (l := l) (G := G) hB hs_i h9) yy_X6_sayAll lm_RX1_42 rfl (st_lt hs_i) (st_c hs_i) rfl hl.1 (by decide) (by decide) rfl (Nat.le_of_ble_eq_true rfl) dX1_passTold_30 (fun H locs hw => ?_)
      obtain ⟨y11, ey11, h⟩ := lt_some h
      refine lv_iinc (v := y11) (lv' := [(3, .int y11), (0, .ref (G.2.2 i))]) hx hb dX1_passTold_33 hl (k := 1) rfl (by rw [ey11]; rfl) (by decide) rfl (fun ls hl => ?_)
      refine lv_goto (tgt := 12) hx hb dX1_passTold_36 (by decide) ?_
      exact kc (V10, y11) (Option.some.inj h).symm H locs ls hw (lv_sub hl [1, 0] rfl)
set_option maxHeartbeats 4000000 in
set_option maxRecDepth 100000 in
theorem kX1_passTold {l : Launch} {G : GT} {B : BGt} (hB : BGok B) {V : VT} {i : Nat} (hs_i : isSt i) {x1 : Int32} {r : VT} (h : fX1_passTold V i x1 = some r) : CV l G B yX1_passTold (.code yX1_passTold cX1_passTold 4 none) 7 [.ref (G.2.2 i), .ref (G.2.2 17), .int x1] V r := by
  intro sz
  refine met_of (Qs := fun sz => QV G sz r) hB (by decide) (Nat.le_of_ble_eq_true rfl) ?_ sz
  intro p e s m args below meth c ls E hw hl
  have hx := en_x E
  have hb := en_b E
  generalize hQ : MQ _ _ _ _ _ _ _ = Q
  have kr : Q = MQ below (QV G s.heap.size r) args s 0 0 (gA G s.heap.size) := hQ.symm
  have hl : lv_has ls 4 [(0, .ref (G.2.2 i)), (1, .ref (G.2.2 17)), (2, .int x1)] := hl
  obtain ⟨H, eH⟩ : ∃ H, H = s.heap := ⟨_, rfl⟩
  obtain ⟨locs, elocs⟩ : ∃ z : List Loc, z = [] := ⟨_, rfl⟩
  have hw : HW G s.heap V H locs := by rw [eH, elocs]; exact hw
  show W p l e _ s m args below meth c s.heap [] 0 0 Q (F0 m 0 ls [])
  rw [← eH, ← elocs]
  unfold fX1_passTold at h
  refine lv_aload_n hx hb dX1_passTold_0 rfl (lv_at hl 0 rfl) ?_
  refine lv_iload_n hx hb dX1_passTold_1 rfl (lv_at hl 2 rfl) ?_
  obtain ⟨V1, eV1, h⟩ := lt_some h
  refine r_piN E hw i 8 (N := 13) (C := RX6) (T := TX6) (ty0 := tyX6) (ty := .int) (st_lt hs_i) (st_c hs_i) (st_N hs_i) (by decide) (st_n hs_i (k := 8) (by decide)) iw_6 rfl tyX6_ok nmX6 rfl rfl (vp_nar_int _) rfl lf_RX1_23 eV1 dX1_passTold_2 (fun H locs hw => ?_)
  refine lv_aload_n hx hb dX1_passTold_5 rfl (lv_at hl 0 rfl) ?_
  refine lv_aload_n hx hb dX1_passTold_6 rfl (lv_at hl 1 rfl) ?_
  obtain ⟨V3, h2, h⟩ := ob_R_some h
  refine c_SV E hw (kX1_doFreeDeeds (l := l) (G := G) hB hs_i h2) yy_X1_doFreeDeeds lm_RX1_26 rfl hl.1 (by decide) (by decide) rfl (Nat.le_of_ble_eq_true rfl) dX1_passTold_7 (fun H locs hw => ?_)
  refine lv_iconst (v := (0 : Int32)) hx hb dX1_passTold_10 (by decide) ?_
  refine lv_istore_n (lv' := [(3, .int (0 : Int32)), (0, .ref (G.2.2 i)), (1, .ref (G.2.2 17)), (2, .int x1)]) hx hb dX1_passTold_11 rfl hl (by decide) rfl (fun ls hl => ?_)
  obtain ⟨x15, h14, h⟩ := ob_R_some h
  have h := Option.some.inj h
  subst h
  exact wX1_passTold_L12 E hs_i (fun q e => by subst e; exact kr) FV (V3, (0 : Int32)) h14 H locs ls hw (lv_sub hl [1, 0] rfl)
