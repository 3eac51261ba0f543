/-! ===== Acts: the row of States; a method that answers one of them, or null ===== -/
def QQ (G : GT) (sz : Nat) (r : Option Nat) (V' : VT) : Array Value → State → Outcome → State → Prop := va_Qq (fun r2 (u : VT) => r2 = r ∧ u = V') (fun u t => va_P G.1 vwCl (wl G u) t.heap) (gA G sz)
def CQ (l : Launch) (G : GT) (B : BGt) (y : MethodName) (w : Cond) (d : Nat) (av : List Value) (V : VT) (r : Option Nat) : Prop := ∀ sz : Nat, Met l y [w] (rmD d) (va_Pc av (Pre G B V sz)) (QQ G sz r V) 0 0 (gA G sz)
def sl_ {α : Type} (x : Int32) (a : Option α) (b : Nat → Option α) : Option α := if x < 0 ∨ 12 ≤ x.toNatClampNeg then a else b (5 + x.toNatClampNeg)
theorem sl_n {α : Type} {x : Int32} {a : Option α} {b : Nat → Option α} {r : α} (hc : x < 0 ∨ 12 ≤ x.toNatClampNeg) (h : sl_ x a b = some r) : a = some r := by unfold sl_ at h; rw [if_pos hc] at h; exact h
theorem sl_s {α : Type} {x : Int32} {a : Option α} {b : Nat → Option α} {r : α} (hc : ¬ (x < 0 ∨ 12 ≤ x.toNatClampNeg)) (h : sl_ x a b = some r) : ∃ k, k = 5 + x.toNatClampNeg ∧ isSt k ∧ b k = some r := by
  unfold sl_ at h
  rw [if_neg hc] at h
  exact ⟨_, rfl, ⟨by omega, by omega⟩, h⟩
section AW
variable {p : Program} {l : Launch} {e : Env} {s : State} {m : MethodId} {args : Array Value} {below : List Frame} {meth : Method} {c : Code} {H : Heap} {locs : List Loc} {Q : State → Prop}
variable {cc : ByteArray} {pc nL : Nat} {ls : Array Slot} {rest : List Value} {own : String} {ret : Option FieldType} {G : GT} {B : BGt} {V V' : VT}
variable {y : MethodName} {bytes : ByteArray} {maxL : Nat} {rt : Option FieldType} {n d D index : Nat} {As st : List Value}
theorem c_VQ {r : Option Nat} {i : Nat} {q : vw_C} (E : En p s m args c meth cc nL own ret G B) (hw : HW G s.heap V H locs) (hC : CQ l G B y (.code y bytes maxL rt) d (.ref (G.2.2 i) :: As) V r) (hY : YV y bytes maxL rt n) (hlk : Cond.methodLink own index y ∈ lw_tbl) (hn : As.length = n) (hi : i < 23) (hq : vwCl[sh_C i]? = some q) (hqy : q.1 = y.cls) (hl : ls.size = nL) (hd : d + 1 ≤ D) (hL : maxL ≤ 41) (hst : st = As.reverse ++ .ref (G.2.2 i) :: rest) (hcat : (rest.map fun v => v.category).sum ≤ 8) (hdg : decode cc pc = .ok (.invokevirtual index, 3))
    (kk : ∀ (H : Heap) (locs : List Loc), HW G s.heap V H locs → W p l e (rmD D) s m args below meth c H locs 0 0 Q (F0 m (pc + 3) ls (va_rf r :: rest))) : W p l e (rmD D) s m args below meth c H locs 0 0 Q (F0 m pc ls st) := by
  obtain ⟨y1, y2, y3, y4, y5, y6⟩ := hY
  have he : (wl G V)[i]? = some (G.2.2 i, .inr (sh_C i, (List.range (sh_N i)).map (sh_f G V i))) := by rw [wl_get G V (by omega)]; unfold sh_e; rw [if_pos hi]
  have hrv := va_recv E.2.2.2.2.2.1 hw.1 hq he
  rw [hqy] at hrv
  refine va_callq (post := fun r2 (u : VT) => r2 = r ∧ u = V) (B := fun u t => va_P G.1 vwCl (wl G u) t.heap) (A1 := gA G H.size) (va_runV (C := y.cls) (b := G.2.2 i) (As := As) (rest := rest) (Ts := []) ⟨E.1, E.2.1, E.2.2.1, E.2.2.2.1, fun _ h => nomatch h⟩ (hC H.size) ⟨cb_of E y1 y2 y5 y6 hlk hd hL, en_w E y3 rfl, en_w E y4 rfl⟩ ⟨pre_blind E.2.2.2.2.2.2.2.2.1, hrv, fun U hU hW => ⟨rfl, pre_at E hw hU hW⟩⟩ rfl hn hl hst (lv_room hcat) hdg ⟨Nat.zero_le _, Nat.zero_le _⟩) hw.2.2 (fun q _ h => gA_in hw q h) (gA_in hw) (fun r1 u t H1 locs1 ht hvm hp hb hz hk hS => ?_)
  obtain ⟨rfl, rfl⟩ := hp
  exact kk H1 locs1 (hw_back hw ht hb hS)
theorem r_rq {R : Room} {r : Option Nat} {nm : String} (E : En p s m args c meth cc nL own (some (.object nm)) G B) (hw : HW G s.heap V H locs) (hdg : decode cc pc = .ok (.areturn, 1)) : W p l e R s m args below meth c H locs 0 0 (MQ below (QQ G s.heap.size r V) args s 0 0 (gA G s.heap.size)) (F0 m pc ls [va_rf r]) :=
  W.aret (v := va_rf r) (en_x E) (en_b E) E.2.2.2.2.2.2.2.2.2 (Or.inl ⟨_, rfl⟩) (by cases r with | none => exact Or.inl rfl | some a => exact Or.inr ⟨a, rfl⟩) (fun t ht hW => ⟨⟨r, V, rfl, ⟨rfl, rfl⟩, by show va_P _ _ _ t.heap; rw [ht]; exact hw.1⟩, hw.2.2.F ht⟩) hw.2.2.2.2 hdg E.2.2.2.2.2.2.1
end AW
theorem dX0_slotAt_0 : decode cX0_slotAt 0 = .ok (.iload_n 1, 1) := by decide +kernel
theorem dX0_slotAt_1 : decode cX0_slotAt 1 = .ok (.ifCond .lt 21, 3) := by decide +kernel
theorem dX0_slotAt_4 : decode cX0_slotAt 4 = .ok (.iload_n 1, 1) := by decide +kernel
theorem dX0_slotAt_5 : decode cX0_slotAt 5 = .ok (.aload_n 0, 1) := by decide +kernel
theorem dX0_slotAt_6 : decode cX0_slotAt 6 = .ok (.getfield 11, 3) := by decide +kernel
theorem dX0_slotAt_9 : decode cX0_slotAt 9 = .ok (.arraylength, 1) := by decide +kernel
theorem dX0_slotAt_10 : decode cX0_slotAt 10 = .ok (.if_icmp .ge 12, 3) := by decide +kernel
theorem dX0_slotAt_13 : decode cX0_slotAt 13 = .ok (.aload_n 0, 1) := by decide +kernel
theorem dX0_slotAt_14 : decode cX0_slotAt 14 = .ok (.getfield 11, 3) := by decide +kernel
theorem dX0_slotAt_17 : decode cX0_slotAt 17 = .ok (.iload_n 1, 1) := by decide +kernel
theorem dX0_slotAt_18 : decode cX0_slotAt 18 = .ok (.aaload, 1) := by decide +kernel
theorem dX0_slotAt_19 : decode cX0_slotAt 19 = .ok (.goto 4, 3) := by decide +kernel
theorem dX0_slotAt_22 : decode cX0_slotAt 22 = .ok (.aconst_null, 1) := by decide +kernel
theorem dX0_slotAt_23 : decode cX0_slotAt 23 = .ok (.areturn, 1) := by decide +kernel
set_option maxHeartbeats 4000000 in
set_option maxRecDepth 100000 in
theorem kX0_slotAt {l : Launch} {G : GT} {B : BGt} (hB : BGok B) {V : VT} {x : Int32} {r : Option Nat} (hr : r = if x < 0 ∨ 12 ≤ x.toNatClampNeg then none else some (G.2.2 (5 + x.toNatClampNeg))) : CQ l G B yX0_slotAt (.code yX0_slotAt cX0_slotAt 2 (some (.object "AllSawIt$State"))) 2 [.ref (G.2.2 20), .int x] V r := by
  intro sz
  refine met_of (Qs := fun sz => QQ G sz r V) hB (by decide) (Nat.le_of_ble_eq_true rfl) ?_ sz
  intro p e s m args below meth c ls E hw hl
  have hx := en_x E
  have hb := en_b E
  have hl : lv_has ls 2 [(0, .ref (G.2.2 20)), (1, .int x)] := hl
  have h72 : (wl G V)[72]? = some (G.2.2 72, .inl (G.2.1 3, 12, .inr (.inr (.inr (.inr (fun k => some (G.2.2 (5 + k)))))))) := by rw [wl_get G V (by decide)]; rfl
  have bad : (x < 0 ∨ 12 ≤ x.toNatClampNeg) → W p l e (rmD 2) s m args below meth c s.heap [] 0 0 (MQ below (QQ G s.heap.size r V) args s 0 0 (gA G s.heap.size)) (F0 m 22 ls []) := by
    intro hc
    rw [if_pos hc] at hr
    subst hr
    refine lv_null hx hb dX0_slotAt_22 ?_
    exact r_rq (r := none) E hw dX0_slotAt_23
  refine lv_iload_n hx hb dX0_slotAt_0 rfl (lv_at hl 1 rfl) ?_
  refine lv_if_lt (tgt := 22) hx hb dX0_slotAt_1 (by decide) (fun c1 => bad (Or.inl c1)) (fun c1 => ?_)
  refine lv_iload_n hx hb dX0_slotAt_4 rfl (lv_at hl 1 rfl) ?_
  refine lv_aload_n hx hb dX0_slotAt_5 rfl (lv_at hl 0 rfl) ?_
  refine r_gr E hw 20 0 72 (N := 3) (C := RX0) (T := TX0) (by decide) rfl rfl (by decide) rfl iw_0 rfl lf_RX0_11 dX0_slotAt_6 ?_
  refine va_alen (v := nI 12) (ty := .object "AllSawIt$State") hx hb E.2.2.2.2.2.1 hw.1 72 3 h72 rfl rfl dX0_slotAt_9 ?_
  refine lv_icmp_ge (tgt := 22) hx hb dX0_slotAt_10 (by decide) (fun c2 => ?_) (fun c2 => ?_)
  · refine bad ?_
    rcases Classical.em (x < 0 ∨ 12 ≤ x.toNatClampNeg) with hc | hc
    · exact hc
    · obtain ⟨j, hj, rfl⟩ := vp_in_of (n := 12) hc (by decide)
      exact absurd c2 (nI_ge hj (by decide))
  · have hc : ¬ (x < 0 ∨ 12 ≤ x.toNatClampNeg) := by
      intro hc
      rcases hc with hc | hc
      · exact c1 hc
      · obtain ⟨j, hj, rfl⟩ := nI_of c1
        rw [nI_clamp hj] at hc
        exact c2 (nI_le hc hj)
    rw [if_neg hc] at hr
    subst hr
    refine lv_aload_n hx hb dX0_slotAt_13 rfl (lv_at hl 0 rfl) ?_
    refine r_gr E hw 20 0 72 (N := 3) (C := RX0) (T := TX0) (by decide) rfl rfl (by decide) rfl iw_0 rfl lf_RX0_11 dX0_slotAt_14 ?_
    refine lv_iload_n hx hb dX0_slotAt_17 rfl (lv_at hl 1 rfl) ?_
    refine va_aldq hx hb E.2.2.2.2.2.1 hw.1 72 3 h72 rfl (i := x) hc dX0_slotAt_18 ?_
    refine lv_goto (tgt := 23) hx hb dX0_slotAt_19 (by decide) ?_
    exact r_rq (r := some (G.2.2 (5 + x.toNatClampNeg))) E hw dX0_slotAt_23
/-! ===== AllSawIt$Acts.forget()V ===== -/
theorem dX0_forget_0 : decode cX0_forget 0 = .ok (.aload_n 0, 1) := by decide +kernel
theorem dX0_forget_1 : decode cX0_forget 1 = .ok (.iconst 0, 1) := by decide +kernel
theorem dX0_forget_2 : decode cX0_forget 2 = .ok (.putfield 20, 3) := by decide +kernel
theorem dX0_forget_5 : decode cX0_forget 5 = .ok (.return_, 1) := by decide +kernel
noncomputable def fX0_forget (V : VT) : Option VT := lt_ (va_up V 20 (upd (V 20) 2 (0 : Int32))) fun V1 => some V1
set_option maxHeartbeats 4000000 in
set_option maxRecDepth 100000 in
theorem kX0_forget {l : Launch} {G : GT} {B : BGt} (hB : BGok B) {V : VT} {r : VT} (h : fX0_forget V = some r) : CV l G B yX0_forget (.code yX0_forget cX0_forget 1 none) 2 [.ref (G.2.2 20)] V r := by
  intro sz
  refine met_of (Qs := fun sz => QV G sz r) hB (by decide) (Nat.le_of_ble_eq_true rfl) ?_ sz
  intro p e s m args below meth c ls E hw hl
  have hx := en_x E
  have hb := en_b E
  generalize hQ : MQ _ _ _ _ _ _ _ = Q
  have kr : Q = MQ below (QV G s.heap.size r) args s 0 0 (gA G s.heap.size) := hQ.symm
  have hl : lv_has ls 1 [(0, .ref (G.2.2 20))] := hl
  obtain ⟨H, eH⟩ : ∃ H, H = s.heap := ⟨_, rfl⟩
  obtain ⟨locs, elocs⟩ : ∃ z : List Loc, z = [] := ⟨_, rfl⟩
  have hw : HW G s.heap V H locs := by rw [eH, elocs]; exact hw
  show W p l e _ s m args below meth c s.heap [] 0 0 Q (F0 m 0 ls [])
  rw [← eH, ← elocs]
  unfold fX0_forget at h
  refine lv_aload_n hx hb dX0_forget_0 rfl (lv_at hl 0 rfl) ?_
  refine lv_iconst (v := (0 : Int32)) hx hb dX0_forget_1 (by decide) ?_
  obtain ⟨V1, eV1, h⟩ := lt_some h
  refine r_pi E hw 20 2 (N := 3) (C := RX0) (T := TX0) (ty0 := tyX0) (ty := .int) (by decide) rfl rfl (by decide) rfl iw_0 rfl tyX0_ok nmX0 rfl rfl (vp_nar_int _) rfl lf_RX0_20 eV1 dX0_forget_2 (fun H locs hw => ?_)
  have h := Option.some.inj h
  subst h
  rw [kr]
  exact r_rv E hw dX0_forget_5
/-! ===== AllSawIt$Acts.remember(LAllSawIt$State;)V ===== -/
theorem dX0_remember_0 : decode cX0_remember 0 = .ok (.aload_n 0, 1) := by decide +kernel
theorem dX0_remember_1 : decode cX0_remember 1 = .ok (.aload_n 0, 1) := by decide +kernel
theorem dX0_remember_2 : decode cX0_remember 2 = .ok (.getfield 16, 3) := by decide +kernel
theorem dX0_remember_5 : decode cX0_remember 5 = .ok (.invokevirtual 23, 3) := by decide +kernel
theorem dX0_remember_8 : decode cX0_remember 8 = .ok (.astore_n 2, 1) := by decide +kernel
theorem dX0_remember_9 : decode cX0_remember 9 = .ok (.aload_n 2, 1) := by decide +kernel
theorem dX0_remember_10 : decode cX0_remember 10 = .ok (.ifnull 36, 3) := by decide +kernel
theorem dX0_remember_13 : decode cX0_remember 13 = .ok (.aload_n 2, 1) := by decide +kernel
theorem dX0_remember_14 : decode cX0_remember 14 = .ok (.aload_n 1, 1) := by decide +kernel
theorem dX0_remember_15 : decode cX0_remember 15 = .ok (.invokevirtual 27, 3) := by decide +kernel
theorem dX0_remember_18 : decode cX0_remember 18 = .ok (.aload_n 0, 1) := by decide +kernel
theorem dX0_remember_19 : decode cX0_remember 19 = .ok (.aload_n 0, 1) := by decide +kernel
theorem dX0_remember_20 : decode cX0_remember 20 = .ok (.getfield 16, 3) := by decide +kernel
theorem dX0_remember_23 : decode cX0_remember 23 = .ok (.iconst 1, 1) := by decide +kernel
theorem dX0_remember_24 : decode cX0_remember 24 = .ok (.iadd, 1) := by decide +kernel
theorem dX0_remember_25 : decode cX0_remember 25 = .ok (.bipush 12, 2) := by decide +kernel
theorem dX0_remember_27 : decode cX0_remember 27 = .ok (.irem, 1) := by decide +kernel
theorem dX0_remember_28 : decode cX0_remember 28 = .ok (.putfield 16, 3) := by decide +kernel
theorem dX0_remember_31 : decode cX0_remember 31 = .ok (.aload_n 0, 1) := by decide +kernel
theorem dX0_remember_32 : decode cX0_remember 32 = .ok (.aload_n 0, 1) := by decide +kernel
theorem dX0_remember_33 : decode cX0_remember 33 = .ok (.getfield 20, 3) := by decide +kernel
theorem dX0_remember_36 : decode cX0_remember 36 = .ok (.iconst 1, 1) := by decide +kernel
theorem dX0_remember_37 : decode cX0_remember 37 = .ok (.iadd, 1) := by decide +kernel
theorem dX0_remember_38 : decode cX0_remember 38 = .ok (.bipush 12, 2) := by decide +kernel
theorem dX0_remember_40 : decode cX0_remember 40 = .ok (.invokestatic 31, 3) := by decide +kernel
theorem dX0_remember_43 : decode cX0_remember 43 = .ok (.putfield 20, 3) := by decide +kernel
theorem dX0_remember_46 : decode cX0_remember 46 = .ok (.return_, 1) := by decide +kernel
noncomputable def fX0_remember (V : VT) (i : Nat) : Option VT := sl_ (V 20 1) (some V) fun k2 => ob_R (fX6_copyFrom V k2 i) fun V4 => lt_ (va_up V4 20 (upd (V4 20) 1 (((V4 20 1) + (1 : Int32)) - ((V4 20 1) + (1 : Int32)) / (12 : Int32) * (12 : Int32)))) fun V5 => lt_ (va_up V5 20 (upd (V5 20) 2 (if (12 : Int32) < ((V5 20 2) + (1 : Int32)) then (12 : Int32) else ((V5 20 2) + (1 : Int32))))) fun V6 => some V6
set_option maxHeartbeats 4000000 in
set_option maxRecDepth 100000 in
theorem kX0_remember {l : Launch} {G : GT} {B : BGt} (hB : BGok B) {V : VT} {i : Nat} (hs_i : isSt i) {r : VT} (h : fX0_remember V i = some r) : CV l G B yX0_remember (.code yX0_remember cX0_remember 3 none) 3 [.ref (G.2.2 20), .ref (G.2.2 i)] V r := by
  intro sz
  refine met_of (Qs := fun sz => QV G sz r) hB (by decide) (Nat.le_of_ble_eq_true rfl) ?_ sz
  intro p e s m args below meth c ls E hw hl
  have hx := en_x E
  have hb := en_b E
  generalize hQ : MQ _ _ _ _ _ _ _ = Q
  have kr : Q = MQ below (QV G s.heap.size r) args s 0 0 (gA G s.heap.size) := hQ.symm
  have hl : lv_has ls 3 [(0, .ref (G.2.2 20)), (1, .ref (G.2.2 i))] := hl
  obtain ⟨H, eH⟩ : ∃ H, H = s.heap := ⟨_, rfl⟩
  obtain ⟨locs, elocs⟩ : ∃ z : List Loc, z = [] := ⟨_, rfl⟩
  have hw : HW G s.heap V H locs := by rw [eH, elocs]; exact hw
  show W p l e _ s m args below meth c s.heap [] 0 0 Q (F0 m 0 ls [])
  rw [← eH, ← elocs]
  unfold fX0_remember at h
  refine lv_aload_n hx hb dX0_remember_0 rfl (lv_at hl 0 rfl) ?_
  refine lv_aload_n hx hb dX0_remember_1 rfl (lv_at hl 0 rfl) ?_
  refine r_gi E hw 20 1 (N := 3) (C := RX0) (T := TX0) (by decide) rfl rfl (by decide) rfl iw_0 rfl lf_RX0_16 dX0_remember_2 ?_
  by_cases c1 : (V 20 1) < 0 ∨ 12 ≤ (V 20 1).toNatClampNeg
  · have h := sl_n c1 h
    refine c_VQ (r := none) E hw (kX0_slotAt (l := l) (G := G) hB (by rw [if_pos c1])) yy_X0_slotAt lm_RX0_23 rfl (by decide) rfl rfl hl.1 (by decide) (by decide) rfl (Nat.le_of_ble_eq_true rfl) dX0_remember_5 (fun H locs hw => ?_)
    refine lv_astore_nN (lv' := [(2, .null), (0, .ref (G.2.2 20)), (1, .ref (G.2.2 i))]) hx hb dX0_remember_8 rfl hl (by decide) rfl (fun ls hl => ?_)
    refine lv_aload_nN hx hb dX0_remember_9 rfl (lv_at hl 0 rfl) ?_
    refine lv_ifnullN (tgt := 46) hx hb dX0_remember_10 (by decide) ?_
    have h := Option.some.inj h
    subst h
    rw [kr]
    exact r_rv E hw dX0_remember_46
  · obtain ⟨k2, ek2, hs_k2, h⟩ := sl_s c1 h
    refine c_VQ (r := some (G.2.2 k2)) E hw (kX0_slotAt (l := l) (G := G) hB (by rw [if_neg c1, ek2])) yy_X0_slotAt lm_RX0_23 rfl (by decide) rfl rfl hl.1 (by decide) (by decide) rfl (Nat.le_of_ble_eq_true rfl) dX0_remember_5 (fun H locs hw => ?_)
    refine lv_astore_n (lv' := [(2, .ref (G.2.2 k2)), (0, .ref (G.2.2 20)), (1, .ref (G.2.2 i))]) hx hb dX0_remember_8 rfl hl (by decide) rfl (fun ls hl => ?_)
    refine lv_aload_n hx hb dX0_remember_9 rfl (lv_at hl 0 rfl) ?_
    refine lv_ifnull hx hb dX0_remember_10 ?_
    refine lv_aload_n hx hb dX0_remember_13 rfl (lv_at hl 0 rfl) ?_
    refine lv_aload_n hx hb dX0_remember_14 rfl (lv_at hl 2 rfl) ?_
    obtain ⟨V4, h3, h⟩ := ob_R_some h
    refine c_VV E hw (kX6_copyFrom (l := l) (G := G) hB hs_k2 hs_i h3) yy_X6_copyFrom lm_RX0_27 rfl (st_lt hs_k2) (st_c hs_k2) rfl hl.1 (by decide) (by decide) rfl (Nat.le_of_ble_eq_true rfl) dX0_remember_15 (fun H locs hw => ?_)
    refine lv_aload_n hx hb dX0_remember_18 rfl (lv_at hl 1 rfl) ?_
    refine lv_aload_n hx hb dX0_remember_19 rfl (lv_at hl 1 rfl) ?_
    refine r_gi E hw 20 1 (N := 3) (C := RX0) (T := TX0) (by decide) rfl rfl (by decide) rfl iw_0 rfl lf_RX0_16 dX0_remember_20 ?_
    refine lv_iconst (v := (1 : Int32)) hx hb dX0_remember_23 (by decide) ?_
    refine lv_iadd hx hb dX0_remember_24 ?_
    refine lv_bipush (v := (12 : Int32)) hx hb dX0_remember_25 (by decide) ?_
    refine lv_irem hx hb dX0_remember_27 (by decide) ?_
    obtain ⟨V5, eV5, h⟩ := lt_some h
    refine r_pi E hw 20 1 (N := 3) (C := RX0) (T := TX0) (ty0 := tyX0) (ty := .int) (by decide) rfl rfl (by decide) rfl iw_0 rfl tyX0_ok nmX0 rfl rfl (vp_nar_int _) rfl lf_RX0_16 eV5 dX0_remember_28 (fun H locs hw => ?_)
    refine lv_aload_n hx hb dX0_remember_31 rfl (lv_at hl 1 rfl) ?_
    refine lv_aload_n hx hb dX0_remember_32 rfl (lv_at hl 1 rfl) ?_
    refine r_gi E hw 20 2 (N := 3) (C := RX0) (T := TX0) (by decide) rfl rfl (by decide) rfl iw_0 rfl lf_RX0_20 dX0_remember_33 ?_
    refine lv_iconst (v := (1 : Int32)) hx hb dX0_remember_36 (by decide) ?_
    refine lv_iadd hx hb dX0_remember_37 ?_
    refine lv_bipush (v := (12 : Int32)) hx hb dX0_remember_38 (by decide) ?_
    refine r_min E hl.1 lm_RX0_31 (by decide) (Nat.le_of_ble_eq_true rfl) dX0_remember_40 ?_
    obtain ⟨V6, eV6, h⟩ := lt_some h
    refine r_pi E hw 20 2 (N := 3) (C := RX0) (T := TX0) (ty0 := tyX0) (ty := .int) (by decide) rfl rfl (by decide) rfl iw_0 rfl tyX0_ok nmX0 rfl rfl (vp_nar_int _) rfl lf_RX0_20 eV6 dX0_remember_43 (fun H locs hw => ?_)
    have h := Option.some.inj h
    subst h
    rw [kr]
    exact r_rv E hw dX0_remember_46
/-! ===== AllSawIt$Acts.takeBack(LAllSawIt$State;)Z ===== -/
theorem dX0_takeBack_0 : decode cX0_takeBack 0 = .ok (.aload_n 0, 1) := by decide +kernel
theorem dX0_takeBack_1 : decode cX0_takeBack 1 = .ok (.getfield 16, 3) := by decide +kernel
theorem dX0_takeBack_4 : decode cX0_takeBack 4 = .ok (.bipush 12, 2) := by decide +kernel
theorem dX0_takeBack_6 : decode cX0_takeBack 6 = .ok (.iadd, 1) := by decide +kernel
theorem dX0_takeBack_7 : decode cX0_takeBack 7 = .ok (.iconst 1, 1) := by decide +kernel
theorem dX0_takeBack_8 : decode cX0_takeBack 8 = .ok (.isub, 1) := by decide +kernel
theorem dX0_takeBack_9 : decode cX0_takeBack 9 = .ok (.bipush 12, 2) := by decide +kernel
theorem dX0_takeBack_11 : decode cX0_takeBack 11 = .ok (.irem, 1) := by decide +kernel
theorem dX0_takeBack_12 : decode cX0_takeBack 12 = .ok (.istore_n 2, 1) := by decide +kernel
theorem dX0_takeBack_13 : decode cX0_takeBack 13 = .ok (.aload_n 0, 1) := by decide +kernel
theorem dX0_takeBack_14 : decode cX0_takeBack 14 = .ok (.iload_n 2, 1) := by decide +kernel
theorem dX0_takeBack_15 : decode cX0_takeBack 15 = .ok (.invokevirtual 23, 3) := by decide +kernel
theorem dX0_takeBack_18 : decode cX0_takeBack 18 = .ok (.astore_n 3, 1) := by decide +kernel
theorem dX0_takeBack_19 : decode cX0_takeBack 19 = .ok (.aload_n 0, 1) := by decide +kernel
theorem dX0_takeBack_20 : decode cX0_takeBack 20 = .ok (.getfield 20, 3) := by decide +kernel
theorem dX0_takeBack_23 : decode cX0_takeBack 23 = .ok (.ifCond .eq 7, 3) := by decide +kernel
theorem dX0_takeBack_26 : decode cX0_takeBack 26 = .ok (.aload_n 3, 1) := by decide +kernel
theorem dX0_takeBack_27 : decode cX0_takeBack 27 = .ok (.ifnonnull 5, 3) := by decide +kernel
theorem dX0_takeBack_30 : decode cX0_takeBack 30 = .ok (.iconst 0, 1) := by decide +kernel
theorem dX0_takeBack_31 : decode cX0_takeBack 31 = .ok (.ireturn, 1) := by decide +kernel
theorem dX0_takeBack_32 : decode cX0_takeBack 32 = .ok (.aload_n 1, 1) := by decide +kernel
theorem dX0_takeBack_33 : decode cX0_takeBack 33 = .ok (.aload_n 3, 1) := by decide +kernel
theorem dX0_takeBack_34 : decode cX0_takeBack 34 = .ok (.invokevirtual 27, 3) := by decide +kernel
theorem dX0_takeBack_37 : decode cX0_takeBack 37 = .ok (.aload_n 0, 1) := by decide +kernel
theorem dX0_takeBack_38 : decode cX0_takeBack 38 = .ok (.iload_n 2, 1) := by decide +kernel
theorem dX0_takeBack_39 : decode cX0_takeBack 39 = .ok (.putfield 16, 3) := by decide +kernel
theorem dX0_takeBack_42 : decode cX0_takeBack 42 = .ok (.aload_n 0, 1) := by decide +kernel
theorem dX0_takeBack_43 : decode cX0_takeBack 43 = .ok (.dup, 1) := by decide +kernel
theorem dX0_takeBack_44 : decode cX0_takeBack 44 = .ok (.getfield 20, 3) := by decide +kernel
theorem dX0_takeBack_47 : decode cX0_takeBack 47 = .ok (.iconst 1, 1) := by decide +kernel
theorem dX0_takeBack_48 : decode cX0_takeBack 48 = .ok (.isub, 1) := by decide +kernel
theorem dX0_takeBack_49 : decode cX0_takeBack 49 = .ok (.putfield 20, 3) := by decide +kernel
theorem dX0_takeBack_52 : decode cX0_takeBack 52 = .ok (.iconst 1, 1) := by decide +kernel
theorem dX0_takeBack_53 : decode cX0_takeBack 53 = .ok (.ireturn, 1) := by decide +kernel
noncomputable def fX0_takeBack (V : VT) (i : Nat) : Option (Int32 × VT) := lt_ ((((V 20 1) + (12 : Int32)) - (1 : Int32)) - (((V 20 1) + (12 : Int32)) - (1 : Int32)) / (12 : Int32) * (12 : Int32)) fun y1 => sl_ y1 (if (V 20 2) = 0 then (zo_ (0 : Int32) (some ((0 : Int32), V))) else (zo_ (0 : Int32) (some ((0 : Int32), V)))) fun k3 => if (V 20 2) = 0 then (zo_ (0 : Int32) (some ((0 : Int32), V))) else (ob_R (fX6_copyFrom V i k3) fun V9 => lt_ (va_up V9 20 (upd (V9 20) 1 y1)) fun V10 => lt_ (va_up V10 20 (upd (V10 20) 2 ((V10 20 2) - (1 : Int32)))) fun V11 => zo_ (1 : Int32) (some ((1 : Int32), V11)))
set_option maxHeartbeats 4000000 in
set_option maxRecDepth 100000 in
theorem kX0_takeBack {l : Launch} {G : GT} {B : BGt} (hB : BGok B) {V : VT} {i : Nat} (hs_i : isSt i) {r : (Int32 × VT)} (h : fX0_takeBack V i = some r) : CI l G B yX0_takeBack (.code yX0_takeBack cX0_takeBack 4 (some .boolean)) 3 [.ref (G.2.2 20), .ref (G.2.2 i)] V r.1 r.2 := by
  intro sz
  refine met_of (Qs := fun sz => QI G sz (r.1) (r.2)) hB (by decide) (Nat.le_of_ble_eq_true rfl) ?_ sz
  intro p e s m args below meth c ls E hw hl
  have hx := en_x E
  have hb := en_b E
  generalize hQ : MQ _ _ _ _ _ _ _ = Q
  have kr : Q = MQ below (QI G s.heap.size r.1 r.2) args s 0 0 (gA G s.heap.size) := hQ.symm
  have hl : lv_has ls 4 [(0, .ref (G.2.2 20)), (1, .ref (G.2.2 i))] := hl
  obtain ⟨H, eH⟩ : ∃ H, H = s.heap := ⟨_, rfl⟩
  obtain ⟨locs, elocs⟩ : ∃ z : List Loc, z = [] := ⟨_, rfl⟩
  have hw : HW G s.heap V H locs := by rw [eH, elocs]; exact hw
  show W p l e _ s m args below meth c s.heap [] 0 0 Q (F0 m 0 ls [])
  rw [← eH, ← elocs]
  unfold fX0_takeBack at h
  refine lv_aload_n hx hb dX0_takeBack_0 rfl (lv_at hl 0 rfl) ?_
  refine r_gi E hw 20 1 (N := 3) (C := RX0) (T := TX0) (by decide) rfl rfl (by decide) rfl iw_0 rfl lf_RX0_16 dX0_takeBack_1 ?_
  refine lv_bipush (v := (12 : Int32)) hx hb dX0_takeBack_4 (by decide) ?_
  refine lv_iadd hx hb dX0_takeBack_6 ?_
  refine lv_iconst (v := (1 : Int32)) hx hb dX0_takeBack_7 (by decide) ?_
  refine lv_isub hx hb dX0_takeBack_8 ?_
  refine lv_bipush (v := (12 : Int32)) hx hb dX0_takeBack_9 (by decide) ?_
  refine lv_irem hx hb dX0_takeBack_11 (by decide) ?_
  obtain ⟨y1, ey1, h⟩ := lt_some h
  refine lv_eqi ey1 ?_
  refine lv_istore_n (lv' := [(2, .int y1), (0, .ref (G.2.2 20)), (1, .ref (G.2.2 i))]) hx hb dX0_takeBack_12 rfl hl (by decide) rfl (fun ls hl => ?_)
  refine lv_aload_n hx hb dX0_takeBack_13 rfl (lv_at hl 1 rfl) ?_
  refine lv_iload_n hx hb dX0_takeBack_14 rfl (lv_at hl 0 rfl) ?_
  by_cases c2 : y1 < 0 ∨ 12 ≤ y1.toNatClampNeg
  · have h := sl_n c2 h
    refine c_VQ (r := none) E hw (kX0_slotAt (l := l) (G := G) hB (by rw [if_pos c2])) yy_X0_slotAt lm_RX0_23 rfl (by decide) rfl rfl hl.1 (by decide) (by decide) rfl (Nat.le_of_ble_eq_true rfl) dX0_takeBack_15 (fun H locs hw => ?_)
    refine lv_astore_nN (lv' := [(3, .null), (2, .int y1), (0, .ref (G.2.2 20)), (1, .ref (G.2.2 i))]) hx hb dX0_takeBack_18 rfl hl (by decide) rfl (fun ls hl => ?_)
    refine lv_aload_n hx hb dX0_takeBack_19 rfl (lv_at hl 2 rfl) ?_
    refine r_gi E hw 20 2 (N := 3) (C := RX0) (T := TX0) (by decide) rfl rfl (by decide) rfl iw_0 rfl lf_RX0_20 dX0_takeBack_20 ?_
    refine lv_if_eq (tgt := 30) hx hb dX0_takeBack_23 (by decide) (fun c6 => ?_) (fun c6 => ?_)
    · rw [if_pos c6] at h
      refine lv_iconst (v := (0 : Int32)) hx hb dX0_takeBack_30 (by decide) ?_
      obtain ⟨z4, h⟩ := zo_some h
      have h := Option.some.inj h
      subst h
      rw [kr]
      exact r_rz E hw z4 dX0_takeBack_31
    · rw [if_neg c6] at h
      refine lv_aload_nN hx hb dX0_takeBack_26 rfl (lv_at hl 0 rfl) ?_
      refine lv_ifnonnullN hx hb dX0_takeBack_27 ?_
      refine lv_iconst (v := (0 : Int32)) hx hb dX0_takeBack_30 (by decide) ?_
      obtain ⟨z5, h⟩ := zo_some h
      have h := Option.some.inj h
      subst h
      rw [kr]
      exact r_rz E hw z5 dX0_takeBack_31
  · obtain ⟨k3, ek3, hs_k3, h⟩ := sl_s c2 h
    refine c_VQ (r := some (G.2.2 k3)) E hw (kX0_slotAt (l := l) (G := G) hB (by rw [if_neg c2, ek3])) yy_X0_slotAt lm_RX0_23 rfl (by decide) rfl rfl hl.1 (by decide) (by decide) rfl (Nat.le_of_ble_eq_true rfl) dX0_takeBack_15 (fun H locs hw => ?_)
    refine lv_astore_n (lv' := [(3, .ref (G.2.2 k3)), (2, .int y1), (0, .ref (G.2.2 20)), (1, .ref (G.2.2 i))]) hx hb dX0_takeBack_18 rfl hl (by decide) rfl (fun ls hl => ?_)
    refine lv_aload_n hx hb dX0_takeBack_19 rfl (lv_at hl 2 rfl) ?_
    refine r_gi E hw 20 2 (N := 3) (C := RX0) (T := TX0) (by decide) rfl rfl (by decide) rfl iw_0 rfl lf_RX0_20 dX0_takeBack_20 ?_
    refine lv_if_eq (tgt := 30) hx hb dX0_takeBack_23 (by decide) (fun c13 => ?_) (fun c13 => ?_)
    · rw [if_pos c13] at h
      refine lv_iconst (v := (0 : Int32)) hx hb dX0_takeBack_30 (by decide) ?_
      obtain ⟨z7, h⟩ := zo_some h
      have h := Option.some.inj h
      subst h
      rw [kr]
      exact r_rz E hw z7 dX0_takeBack_31
    · rw [if_neg c13] at h
      refine lv_aload_n hx hb dX0_takeBack_26 rfl (lv_at hl 0 rfl) ?_
      refine lv_ifnonnull (tgt := 32) hx hb dX0_takeBack_27 (by decide) ?_
      refine lv_aload_n hx hb dX0_takeBack_32 rfl (lv_at hl 3 rfl) ?_
      refine lv_aload_n hx hb dX0_takeBack_33 rfl (lv_at hl 0 rfl) ?_
      obtain ⟨V9, h8, h⟩ := ob_R_some h
      refine c_VV E hw (kX6_copyFrom (l := l) (G := G) hB hs_i hs_k3 h8) yy_X6_copyFrom lm_RX0_27 rfl (st_lt hs_i) (st_c hs_i) rfl hl.1 (by decide) (by decide) rfl (Nat.le_of_ble_eq_true rfl) dX0_takeBack_34 (fun H locs hw => ?_)
      refine lv_aload_n hx hb dX0_takeBack_37 rfl (lv_at hl 2 rfl) ?_
      refine lv_iload_n hx hb dX0_takeBack_38 rfl (lv_at hl 1 rfl) ?_
      obtain ⟨V10, eV10, h⟩ := lt_some h
      refine r_pi E hw 20 1 (N := 3) (C := RX0) (T := TX0) (ty0 := tyX0) (ty := .int) (by decide) rfl rfl (by decide) rfl iw_0 rfl tyX0_ok nmX0 rfl rfl (vp_nar_int _) rfl lf_RX0_16 eV10 dX0_takeBack_39 (fun H locs hw => ?_)
      refine lv_aload_n hx hb dX0_takeBack_42 rfl (lv_at hl 2 rfl) ?_
      refine lv_dup hx hb dX0_takeBack_43 rfl ?_
      refine r_gi E hw 20 2 (N := 3) (C := RX0) (T := TX0) (by decide) rfl rfl (by decide) rfl iw_0 rfl lf_RX0_20 dX0_takeBack_44 ?_
      refine lv_iconst (v := (1 : Int32)) hx hb dX0_takeBack_47 (by decide) ?_
      refine lv_isub hx hb dX0_takeBack_48 ?_
      obtain ⟨V11, eV11, h⟩ := lt_some h
      refine r_pi E hw 20 2 (N := 3) (C := RX0) (T := TX0) (ty0 := tyX0) (ty := .int) (by decide) rfl rfl (by decide) rfl iw_0 rfl tyX0_ok nmX0 rfl rfl (vp_nar_int _) rfl lf_RX0_20 eV11 dX0_takeBack_49 (fun H locs hw => ?_)
      refine lv_iconst (v := (1 : Int32)) hx hb dX0_takeBack_52 (by decide) ?_
      obtain ⟨z12, h⟩ := zo_some h
      have h := Option.some.inj h
      subst h
      rw [kr]
      exact r_rz E hw z12 dX0_takeBack_53
