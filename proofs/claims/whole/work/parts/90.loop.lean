/-! ===== the law's loop (by program mk_loop.py) ===== -/
/-! THE CLAIM OUT OF ONE WALK OF THE LAW'S BODY. Your part is whole_start (and what it stands on); all else here is the same for every law, but numbers. -/
def R_law : String := "AllSawItLaw"
def lw_P (b : Addr) (xs : List Int32) (args : Array Value) (s : State) : Prop := args = #[.ref b] ∧ s.IntsAt b xs ∧ xs.length ≤ 3072 ∧ (Jvm.Cond.and given_1 narrow_1).before args s = true
def lw_Q (_ : Array Value) (s : State) (o : Outcome) (t : State) : Prop := o = .returned (some (.int 1)) ∧ Framed s o t [] 601024 7293034
def lw_Z (below : List Frame) (a : Array Value) (s : State) : State → Prop := fun t => ∃ o, t.status = .running ∧ Ended t below o ∧ lw_Q a s o t
/-- the law's own end, with 1 on the stack, nothing written that was there before, its room as the claim has it -/
theorem lw_ret {p : Program} {l : Launch} {e : Env} {s : State} {m : MethodId} {below : List Frame} {meth : Method} {c : Code} {b : Nat} (hx : p.tables.exec = Jvm.exec) (hb : c.code = code) (hr : meth.sig.returnType = ret) (hlocks : meth.locks = false) {pc : Nat} {H : Heap} {ls : Array Slot} (hdg : decode code pc = .ok (.ireturn, 1)) : W p l e room_1 s m #[Value.ref b] below meth c H [] 601024 7293034 (lw_Z below #[Value.ref b] s) (F0 m pc ls [.int 1]) := by
  intro T hT X
  obtain ⟨fs, hret, hrun, hended, hW, hframe⟩ := X.leave (v := some (.int 1)) (hlocks := hlocks) (fun h => by rw [hr] at h; cases h)
  have hmeth' : T.vm.method? m = some meth := X.method'
  refine ⟨T.setFrames fs, ?_, .returned (some (.int 1)), hrun, hended, rfl, ⟨_, rfl⟩, hW, hframe⟩
  jvm_step X.here [X.here.top, hx, hb, hdg, hmeth', hr, ret, narrow_b1]
  (try refine ⟨rfl, ?_⟩); (try refine ⟨rfl, ?_⟩)
  first | (intro acts; rw [hret _ acts rfl rfl rfl]) | rw [hret _ _ rfl rfl rfl]
  exact Steps.refl _
/-- what holds at the law's entry: the machine, the code, the tables' words (any of lw_tbl by 'hts w (by decide +kernel)'), the script of L ints xs at the cell b, what the Statement gives of the start (any of its parts by flat_of_before) -/
def lw_At (p : Program) (s : State) (m : MethodId) (meth : Method) (c : Code) (b L : Nat) (xs : Nat → Int32) : Prop :=
  p.tables.exec = Jvm.exec ∧ c.code = code ∧ meth.sig.returnType = ret ∧ c.maxLocals = 7 ∧ s.vm.findClass R_law = some m.cls ∧ (∀ w ∈ lw_tbl, w.before #[Value.ref b] s = true) ∧ va_X b L xs s s.heap ∧ b < s.heap.size ∧ meth.locks = false ∧ (Jvm.Cond.and given_1 narrow_1).before #[Value.ref b] s = true
set_option maxHeartbeats 4000000 in
set_option maxRecDepth 100000 in
theorem lw_loop {p : Program} {l : Launch} {e : Env} {s : State} {m : MethodId} {below : List Frame} {meth : Method} {c : Code} {G : GT} {Z : Nat → Nat × Nat} {oa b L : Nat} {xs : Nat → Int32} (E : EO p s m #[Value.ref b] c meth cL_law_ 7 RL (some .boolean) G (SH Z) oa) (ht : l.stackTraces = false) (hX : va_X b L xs s s.heap) (hbl : b < s.heap.size) (hbA : ¬ gO G oa s.heap.size b) (hL : L ≤ 3072) (hG : ∀ i, i < 88 → s.heap.size ≤ G.2.2 i) (ho : s.heap.size ≤ oa) :
    ∀ (n i : Nat) (V : VT) (ov : Nat → Int64) (H : Heap) (locs : List Loc) (ls : Array Slot) (cells slots : Nat), L < i + 6 * n → i ≤ L → INV V → HO G oa s.heap V ov H locs → lv_has ls 7 [(0, .ref b), (1, .ref (G.2.2 0)), (2, .ref (G.2.2 22)), (3, .ref oa), (4, .int (nI i))] → cells ≤ 100 + i → slots ≤ 14000 + 3 * i →
      W p l e room_1 s m #[Value.ref b] below meth c H locs cells slots (lw_Z below #[Value.ref b] s) (F0 m 23 ls []) := by
  have hx := E.1
  have hb := E.2.1
  intro n
  induction n with
  | zero =>
    intro i V ov H locs ls cells slots h1 h2
    exact absurd h1 (by omega)
  | succ n ih =>
    intro i V ov H locs ls cells slots h1 hi hI hw hl hce hsl
    refine lv_iload hx hb dL_law__23 (lv_at hl 4 rfl) ?_
    refine lv_aload_n hx hb dL_law__25 rfl (lv_at hl 0 rfl) ?_
    refine va_slen hx hb hX hbl hbA hw.2.2 dL_law__26 ?_
    refine lv_bipush (v := 6) hx hb dL_law__27 (by decide) ?_
    refine lv_isub hx hb dL_law__29 ?_
    have e6 : (Int32.ofNat L - 6).toInt = (L : Int) - 6 := pk_sub_toInt (a := L) (b := 6) (by omega) (by omega)
    refine lv_icmp_gt (tgt := 2605) hx hb dL_law__30 (by decide) (fun c1 => ?_) (fun c1 => ?_)
    · refine lv_iconst (v := 1) hx hb dL_law__2605 (by decide) ?_
      refine va_forget (fun q hq => ?_) ?_
      · rcases hw.2.2.2.2 q hq with (⟨i, h3, h4⟩ | h3) | h3
        · rw [h4]; exact hG i h3
        · exact h3
        · rw [h3]; exact ho
      · refine W.widen (k := 601024) (n := 7293034) (by omega) (by omega) ?_
        exact lw_ret hx hb E.2.2.2.2.2.2.2.2.2 E.2.2.2.2.2.2.1 dL_law__2606
    · have h6 : i + 6 ≤ L := by
        rcases Nat.lt_or_ge L (i + 6) with q | q
        · refine absurd ?_ c1
          rw [fa_lt, e6, nI_toInt (by omega)]
          omega
        · exact q
      refine lv_aload_n hx hb dL_law__33 rfl (lv_at hl 0 rfl) ?_
      refine lv_iload hx hb dL_law__34 (lv_at hl 4 rfl) ?_
      refine va_sld hx hb hX hbl hbA hw.2.2 (vp_in_nI (show i < L by omega) (by omega)) dL_law__36 ?_
      refine lv_bipush (v := 63) hx hb dL_law__37 (by decide) ?_
      refine lv_iand hx hb dL_law__39 ?_
      rw [pk_and (xs (nI i).toNatClampNeg) (m := 63) 6 (by decide)]
      have hk : (xs (nI i).toNatClampNeg).toBitVec.toNat % 2 ^ 6 < 64 := Nat.mod_lt _ (by omega)
      generalize (xs (nI i).toNatClampNeg).toBitVec.toNat % 2 ^ 6 = k at hk
      have on : ∀ (V2 : VT) (ov2 : Nat → Int64), INV V2 → ∀ (H : Heap) (locs : List Loc) (ls : Array Slot) (cells slots : Nat), HO G oa s.heap V2 ov2 H locs → lv_has ls 7 [(0, .ref b), (1, .ref (G.2.2 0)), (2, .ref (G.2.2 22)), (3, .ref oa), (4, .int (nI i + 6))] → cells ≤ 100 + i + 3 → slots ≤ 14000 + 3 * i + 18 → W p l e room_1 s m #[Value.ref b] below meth c H locs cells slots (lw_Z below #[Value.ref b] s) (F0 m 23 ls []) := by
        intro V2 ov2 hI2 H locs ls cells slots hw hl hce hsl
        rw [show nI i + 6 = nI (i + 6) from q_add i 6] at hl
        exact ih (i + 6) V2 ov2 H locs ls cells slots (by omega) h6 hI2 hw hl (by omega) (by omega)
      have step : ∀ X : CaT, Go V (nI i) X → ∃ r, X = some r ∧ (∀ y, r = .inr y → y = 1) ∧ ∀ (V2 : VT) (ov2 : Nat → Int64), r = .inl (V2, ov2, nI i + 6) → ∀ (H : Heap) (locs : List Loc) (ls : Array Slot) (cells slots : Nat), HO G oa s.heap V2 ov2 H locs → lv_has ls 7 [(0, .ref b), (1, .ref (G.2.2 0)), (2, .ref (G.2.2 22)), (3, .ref oa), (4, .int (nI i + 6))] → cells ≤ 100 + i + 3 → slots ≤ 14000 + 3 * i + 18 → W p l e room_1 s m #[Value.ref b] below meth c H locs cells slots (lw_Z below #[Value.ref b] s) (F0 m 23 ls []) := by
        intro X hX2
        obtain ⟨V', ov', e1, e2⟩ := hX2
        refine ⟨_, e1, fun y h => by (cases h), fun V2 ov2 h => ?_⟩
        cases h
        exact on V' ov' e2
      rcases (show k = 0 ∨ k = 1 ∨ k = 2 ∨ k = 3 ∨ k = 4 ∨ k = 5 ∨ k = 6 ∨ k = 7 ∨ k = 8 ∨ k = 9 ∨ k = 10 ∨ k = 11 ∨ k = 12 ∨ k = 13 ∨ k = 14 ∨ k = 15 ∨ k = 16 ∨ k = 17 ∨ k = 18 ∨ k = 19 ∨ k = 20 ∨ k = 21 ∨ k = 22 ∨ k = 23 ∨ k = 24 ∨ k = 25 ∨ k = 26 ∨ k = 27 ∨ k = 28 ∨ k = 29 ∨ k = 30 ∨ k = 31 ∨ k = 32 ∨ k = 33 ∨ k = 34 ∨ k = 35 ∨ k = 36 ∨ k = 37 ∨ k = 38 ∨ k = 39 ∨ k = 40 ∨ k = 41 ∨ k = 42 ∨ 43 ≤ k by omega) with rfl | rfl | rfl | rfl | rfl | rfl | rfl | rfl | rfl | rfl | rfl | rfl | rfl | rfl | rfl | rfl | rfl | rfl | rfl | rfl | rfl | rfl | rfl | rfl | rfl | rfl | rfl | rfl | rfl | rfl | rfl | rfl | rfl | rfl | rfl | rfl | rfl | rfl | rfl | rfl | rfl | rfl | rfl | h43
      · refine lv_tableIn (off := 188) (tgt := 228) hx hb dL_law__40 (by decide) (by decide) (by decide) (by decide) ?_
        obtain ⟨r, h, k1, kc⟩ := step _ (go_c0 (xs := xs) (ov := ov) hI h6 hL)
        exact wL_c0 E ht hX hbl hbA hL (C0 := 100 + i) (S0 := 14000 + 3 * i) (by omega) (by omega) h k1 kc hw hl hce hsl
      · refine lv_tableIn (off := 261) (tgt := 301) hx hb dL_law__40 (by decide) (by decide) (by decide) (by decide) ?_
        obtain ⟨r, h, k1, kc⟩ := step _ (go_c1 (xs := xs) (ov := ov) hI h6 hL)
        exact wL_c1 E ht hX hbl hbA hL (C0 := 100 + i) (S0 := 14000 + 3 * i) (by omega) (by omega) h k1 kc hw hl hce hsl
      · refine lv_tableIn (off := 286) (tgt := 326) hx hb dL_law__40 (by decide) (by decide) (by decide) (by decide) ?_
        obtain ⟨r, h, k1, kc⟩ := step _ (go_c2 (xs := xs) (ov := ov) hI h6 hL)
        exact wL_c2 E ht hX hbl hbA hL (C0 := 100 + i) (S0 := 14000 + 3 * i) (by omega) (by omega) h k1 kc hw hl hce hsl
      · refine lv_tableIn (off := 330) (tgt := 370) hx hb dL_law__40 (by decide) (by decide) (by decide) (by decide) ?_
        obtain ⟨r, h, k1, kc⟩ := step _ (go_c3 (xs := xs) (ov := ov) hI h6 hL)
        exact wL_c3 E ht hX hbl hbA hL (C0 := 100 + i) (S0 := 14000 + 3 * i) (by omega) (by omega) h k1 kc hw hl hce hsl
      · refine lv_tableIn (off := 374) (tgt := 414) hx hb dL_law__40 (by decide) (by decide) (by decide) (by decide) ?_
        obtain ⟨r, h, k1, kc⟩ := step _ (go_c4 (xs := xs) (ov := ov) hI h6 hL)
        exact wL_c4 E ht hX hbl hbA hL (C0 := 100 + i) (S0 := 14000 + 3 * i) (by omega) (by omega) h k1 kc hw hl hce hsl
      · refine lv_tableIn (off := 387) (tgt := 427) hx hb dL_law__40 (by decide) (by decide) (by decide) (by decide) ?_
        obtain ⟨r, h, k1, kc⟩ := step _ (go_c5 (xs := xs) (ov := ov) hI h6 hL)
        exact wL_c5 E ht hX hbl hbA hL (C0 := 100 + i) (S0 := 14000 + 3 * i) (by omega) (by omega) h k1 kc hw hl hce hsl
      · refine lv_tableIn (off := 455) (tgt := 495) hx hb dL_law__40 (by decide) (by decide) (by decide) (by decide) ?_
        obtain ⟨r, h, k1, kc⟩ := step _ (go_c6 (xs := xs) (ov := ov) hI h6 hL)
        exact wL_c6 E ht hX hbl hbA hL (C0 := 100 + i) (S0 := 14000 + 3 * i) (by omega) (by omega) h k1 kc hw hl hce hsl
      · refine lv_tableIn (off := 523) (tgt := 563) hx hb dL_law__40 (by decide) (by decide) (by decide) (by decide) ?_
        obtain ⟨r, h, k1, kc⟩ := step _ (go_c7 (xs := xs) (ov := ov) hI h6 hL)
        exact wL_c7 E ht hX hbl hbA hL (C0 := 100 + i) (S0 := 14000 + 3 * i) (by omega) (by omega) h k1 kc hw hl hce hsl
      · refine lv_tableIn (off := 610) (tgt := 650) hx hb dL_law__40 (by decide) (by decide) (by decide) (by decide) ?_
        obtain ⟨r, h, k1, kc⟩ := step _ (go_c8 (xs := xs) (ov := ov) hI h6 hL)
        exact wL_c8 E ht hX hbl hbA hL (C0 := 100 + i) (S0 := 14000 + 3 * i) (by omega) (by omega) h k1 kc hw hl hce hsl
      · refine lv_tableIn (off := 666) (tgt := 706) hx hb dL_law__40 (by decide) (by decide) (by decide) (by decide) ?_
        obtain ⟨r, h, k1, kc⟩ := step _ (go_c9 (xs := xs) (ov := ov) hI h6 hL)
        exact wL_c9 E ht hX hbl hbA hL (C0 := 100 + i) (S0 := 14000 + 3 * i) (by omega) (by omega) h k1 kc hw hl hce hsl
      · refine lv_tableIn (off := 741) (tgt := 781) hx hb dL_law__40 (by decide) (by decide) (by decide) (by decide) ?_
        obtain ⟨r, h, k1, kc⟩ := step _ (go_c10 (xs := xs) (ov := ov) hI h6 hL)
        exact wL_c10 E ht hX hbl hbA hL (C0 := 100 + i) (S0 := 14000 + 3 * i) (by omega) (by omega) h k1 kc hw hl hce hsl
      · refine lv_tableIn (off := 832) (tgt := 872) hx hb dL_law__40 (by decide) (by decide) (by decide) (by decide) ?_
        obtain ⟨r, h, k1, kc⟩ := step _ (go_c11 (xs := xs) (ov := ov) hI h6 hL)
        exact wL_c11 E ht hX hbl hbA hL (C0 := 100 + i) (S0 := 14000 + 3 * i) (by omega) (by omega) h k1 kc hw hl hce hsl
      · refine lv_tableIn (off := 888) (tgt := 928) hx hb dL_law__40 (by decide) (by decide) (by decide) (by decide) ?_
        obtain ⟨r, h, k1, kc⟩ := step _ (go_c12 (xs := xs) (ov := ov) hI h6 hL)
        exact wL_c12 E ht hX hbl hbA hL (C0 := 100 + i) (S0 := 14000 + 3 * i) (by omega) (by omega) h k1 kc hw hl hce hsl
      · refine lv_tableIn (off := 968) (tgt := 1008) hx hb dL_law__40 (by decide) (by decide) (by decide) (by decide) ?_
        obtain ⟨r, h, k1, kc⟩ := step _ (go_c13 (xs := xs) (ov := ov) hI h6 hL)
        exact wL_c13 E ht hX hbl hbA hL (C0 := 100 + i) (S0 := 14000 + 3 * i) (by omega) (by omega) h k1 kc hw hl hce hsl
      · refine lv_tableIn (off := 1036) (tgt := 1076) hx hb dL_law__40 (by decide) (by decide) (by decide) (by decide) ?_
        obtain ⟨r, h, k1, kc⟩ := step _ (go_c14 (xs := xs) (ov := ov) hI h6 hL)
        exact wL_c14 E ht hX hbl hbA hL (C0 := 100 + i) (S0 := 14000 + 3 * i) (by omega) (by omega) h k1 kc hw hl hce hsl
      · refine lv_tableIn (off := 1092) (tgt := 1132) hx hb dL_law__40 (by decide) (by decide) (by decide) (by decide) ?_
        obtain ⟨r, h, k1, kc⟩ := step _ (go_c15 (xs := xs) (ov := ov) hI h6 hL)
        exact wL_c15 E ht hX hbl hbA hL (C0 := 100 + i) (S0 := 14000 + 3 * i) (by omega) (by omega) h k1 kc hw hl hce hsl
      · refine lv_tableIn (off := 1148) (tgt := 1188) hx hb dL_law__40 (by decide) (by decide) (by decide) (by decide) ?_
        obtain ⟨r, h, k1, kc⟩ := step _ (go_c16 (xs := xs) (ov := ov) hI h6 hL)
        exact wL_c16 E ht hX hbl hbA hL (C0 := 100 + i) (S0 := 14000 + 3 * i) (by omega) (by omega) h k1 kc hw hl hce hsl
      · refine lv_tableIn (off := 1216) (tgt := 1256) hx hb dL_law__40 (by decide) (by decide) (by decide) (by decide) ?_
        obtain ⟨r, h, k1, kc⟩ := step _ (go_c17 (xs := xs) (ov := ov) hI h6 hL)
        exact wL_c17 E ht hX hbl hbA hL (C0 := 100 + i) (S0 := 14000 + 3 * i) (by omega) (by omega) h k1 kc hw hl hce hsl
      · refine lv_tableIn (off := 1300) (tgt := 1340) hx hb dL_law__40 (by decide) (by decide) (by decide) (by decide) ?_
        obtain ⟨r, h, k1, kc⟩ := step _ (go_c18 (xs := xs) (ov := ov) hI h6 hL)
        exact wL_c18 E ht hX hbl hbA hL (C0 := 100 + i) (S0 := 14000 + 3 * i) (by omega) (by omega) h k1 kc hw hl hce hsl
      · refine lv_tableIn (off := 1313) (tgt := 1353) hx hb dL_law__40 (by decide) (by decide) (by decide) (by decide) ?_
        obtain ⟨r, h, k1, kc⟩ := step _ (go_c19 (xs := xs) (ov := ov) hI h6 hL)
        exact wL_c19 E ht hX hbl hbA hL (C0 := 100 + i) (S0 := 14000 + 3 * i) (by omega) (by omega) h k1 kc hw hl hce hsl
      · refine lv_tableIn (off := 1381) (tgt := 1421) hx hb dL_law__40 (by decide) (by decide) (by decide) (by decide) ?_
        obtain ⟨r, h, k1, kc⟩ := step _ (go_c20 (xs := xs) (ov := ov) hI h6 hL)
        exact wL_c20 E ht hX hbl hbA hL (C0 := 100 + i) (S0 := 14000 + 3 * i) (by omega) (by omega) h k1 kc hw hl hce hsl
      · refine lv_tableIn (off := 1449) (tgt := 1489) hx hb dL_law__40 (by decide) (by decide) (by decide) (by decide) ?_
        obtain ⟨r, h, k1, kc⟩ := step _ (go_c21 (xs := xs) (ov := ov) hI h6 hL)
        exact wL_c21 E ht hX hbl hbA hL (C0 := 100 + i) (S0 := 14000 + 3 * i) (by omega) (by omega) h k1 kc hw hl hce hsl
      · refine lv_tableIn (off := 1505) (tgt := 1545) hx hb dL_law__40 (by decide) (by decide) (by decide) (by decide) ?_
        obtain ⟨r, h, k1, kc⟩ := step _ (go_c22 (xs := xs) (ov := ov) hI h6 hL)
        exact wL_c22 E ht hX hbl hbA hL (C0 := 100 + i) (S0 := 14000 + 3 * i) (by omega) (by omega) h k1 kc hw hl hce hsl
      · refine lv_tableIn (off := 1585) (tgt := 1625) hx hb dL_law__40 (by decide) (by decide) (by decide) (by decide) ?_
        obtain ⟨r, h, k1, kc⟩ := step _ (go_c23 (xs := xs) (ov := ov) hI h6 hL)
        exact wL_c23 E ht hX hbl hbA hL (C0 := 100 + i) (S0 := 14000 + 3 * i) (by omega) (by omega) h k1 kc hw hl hce hsl
      · refine lv_tableIn (off := 1653) (tgt := 1693) hx hb dL_law__40 (by decide) (by decide) (by decide) (by decide) ?_
        obtain ⟨r, h, k1, kc⟩ := step _ (go_c24 (xs := xs) (ov := ov) hI h6 hL)
        exact wL_c24 E ht hX hbl hbA hL (C0 := 100 + i) (S0 := 14000 + 3 * i) (by omega) (by omega) h k1 kc hw hl hce hsl
      · refine lv_tableIn (off := 1721) (tgt := 1761) hx hb dL_law__40 (by decide) (by decide) (by decide) (by decide) ?_
        obtain ⟨r, h, k1, kc⟩ := step _ (go_c25 (xs := xs) (ov := ov) hI h6 hL)
        exact wL_c25 E ht hX hbl hbA hL (C0 := 100 + i) (S0 := 14000 + 3 * i) (by omega) (by omega) h k1 kc hw hl hce hsl
      · refine lv_tableIn (off := 1789) (tgt := 1829) hx hb dL_law__40 (by decide) (by decide) (by decide) (by decide) ?_
        obtain ⟨r, h, k1, kc⟩ := step _ (go_c26 (xs := xs) (ov := ov) hI h6 hL)
        exact wL_c26 E ht hX hbl hbA hL (C0 := 100 + i) (S0 := 14000 + 3 * i) (by omega) (by omega) h k1 kc hw hl hce hsl
      · refine lv_tableIn (off := 1845) (tgt := 1885) hx hb dL_law__40 (by decide) (by decide) (by decide) (by decide) ?_
        obtain ⟨r, h, k1, kc⟩ := step _ (go_c27 (xs := xs) (ov := ov) hI h6 hL)
        exact wL_c27 E ht hX hbl hbA hL (C0 := 100 + i) (S0 := 14000 + 3 * i) (by omega) (by omega) h k1 kc hw hl hce hsl
      · refine lv_tableIn (off := 1858) (tgt := 1898) hx hb dL_law__40 (by decide) (by decide) (by decide) (by decide) ?_
        obtain ⟨r, h, k1, kc⟩ := step _ (go_c28 (xs := xs) (ov := ov) hI h6 hL)
        exact wL_c28 E ht hX hbl hbA hL (C0 := 100 + i) (S0 := 14000 + 3 * i) (by omega) (by omega) h k1 kc hw hl hce hsl
      · refine lv_tableIn (off := 1930) (tgt := 1970) hx hb dL_law__40 (by decide) (by decide) (by decide) (by decide) ?_
        obtain ⟨r, h, k1, kc⟩ := step _ (go_c29 (xs := xs) (ov := ov) hI h6 hL)
        exact wL_c29 E ht hX hbl hbA hL (C0 := 100 + i) (S0 := 14000 + 3 * i) (by omega) (by omega) h k1 kc hw hl hce hsl
      · refine lv_tableIn (off := 1974) (tgt := 2014) hx hb dL_law__40 (by decide) (by decide) (by decide) (by decide) ?_
        obtain ⟨r, h, k1, kc⟩ := step _ (go_c30 (xs := xs) (ov := ov) hI h6 hL)
        exact wL_c30 E ht hX hbl hbA hL (C0 := 100 + i) (S0 := 14000 + 3 * i) (by omega) (by omega) h k1 kc hw hl hce hsl
      · refine lv_tableIn (off := 1987) (tgt := 2027) hx hb dL_law__40 (by decide) (by decide) (by decide) (by decide) ?_
        obtain ⟨r, h, k1, kc⟩ := step _ (go_c31 (xs := xs) (ov := ov) hI h6 hL)
        exact wL_c31 E ht hX hbl hbA hL (C0 := 100 + i) (S0 := 14000 + 3 * i) (by omega) (by omega) h k1 kc hw hl hce hsl
      · refine lv_tableIn (off := 2043) (tgt := 2083) hx hb dL_law__40 (by decide) (by decide) (by decide) (by decide) ?_
        obtain ⟨r, h, k1, kc⟩ := step _ (go_c32 (xs := xs) (ov := ov) hI h6 hL)
        exact wL_c32 E ht hX hbl hbA hL (C0 := 100 + i) (S0 := 14000 + 3 * i) (by omega) (by omega) h k1 kc hw hl hce hsl
      · refine lv_tableIn (off := 2111) (tgt := 2151) hx hb dL_law__40 (by decide) (by decide) (by decide) (by decide) ?_
        obtain ⟨r, h, k1, kc⟩ := step _ (go_c33 (xs := xs) (ov := ov) hI h6 hL)
        exact wL_c33 E ht hX hbl hbA hL (C0 := 100 + i) (S0 := 14000 + 3 * i) (by omega) (by omega) h k1 kc hw hl hce hsl
      · refine lv_tableIn (off := 2152) (tgt := 2192) hx hb dL_law__40 (by decide) (by decide) (by decide) (by decide) ?_
        obtain ⟨r, h, k1, kc⟩ := step _ (go_c34 (xs := xs) (ov := ov) hI h6 hL)
        exact wL_c34 E ht hX hbl hbA hL (C0 := 100 + i) (S0 := 14000 + 3 * i) (by omega) (by omega) h k1 kc hw hl hce hsl
      · refine lv_tableIn (off := 2236) (tgt := 2276) hx hb dL_law__40 (by decide) (by decide) (by decide) (by decide) ?_
        obtain ⟨r, h, k1, kc⟩ := step _ (go_c35 (xs := xs) (ov := ov) hI h6 hL)
        exact wL_c35 E ht hX hbl hbA hL (C0 := 100 + i) (S0 := 14000 + 3 * i) (by omega) (by omega) h k1 kc hw hl hce hsl
      · refine lv_tableIn (off := 2320) (tgt := 2360) hx hb dL_law__40 (by decide) (by decide) (by decide) (by decide) ?_
        obtain ⟨r, h, k1, kc⟩ := step _ (go_c36 (xs := xs) (ov := ov) hI h6 hL)
        exact wL_c36 E ht hX hbl hbA hL (C0 := 100 + i) (S0 := 14000 + 3 * i) (by omega) (by omega) h k1 kc hw hl hce hsl
      · refine lv_tableIn (off := 2404) (tgt := 2444) hx hb dL_law__40 (by decide) (by decide) (by decide) (by decide) ?_
        obtain ⟨r, h, k1, kc⟩ := step _ (go_c37 (xs := xs) (ov := ov) hI h6 hL)
        exact wL_c37 E ht hX hbl hbA hL (C0 := 100 + i) (S0 := 14000 + 3 * i) (by omega) (by omega) h k1 kc hw hl hce hsl
      · refine lv_tableIn (off := 2472) (tgt := 2512) hx hb dL_law__40 (by decide) (by decide) (by decide) (by decide) ?_
        obtain ⟨r, h, k1, kc⟩ := step _ (go_c38 (xs := xs) (ov := ov) hI h6 hL)
        exact wL_c38 E ht hX hbl hbA hL (C0 := 100 + i) (S0 := 14000 + 3 * i) (by omega) (by omega) h k1 kc hw hl hce hsl
      · refine lv_tableIn (off := 2497) (tgt := 2537) hx hb dL_law__40 (by decide) (by decide) (by decide) (by decide) ?_
        obtain ⟨r, h, k1, kc⟩ := step _ (go_c39 (xs := xs) (ov := ov) hI h6 hL)
        exact wL_c39 E ht hX hbl hbA hL (C0 := 100 + i) (S0 := 14000 + 3 * i) (by omega) (by omega) h k1 kc hw hl hce hsl
      · refine lv_tableIn (off := 2510) (tgt := 2550) hx hb dL_law__40 (by decide) (by decide) (by decide) (by decide) ?_
        obtain ⟨r, h, k1, kc⟩ := step _ (go_c40 (xs := xs) (ov := ov) hI h6 hL)
        exact wL_c40 E ht hX hbl hbA hL (C0 := 100 + i) (S0 := 14000 + 3 * i) (by omega) (by omega) h k1 kc hw hl hce hsl
      · refine lv_tableIn (off := 2521) (tgt := 2561) hx hb dL_law__40 (by decide) (by decide) (by decide) (by decide) ?_
        obtain ⟨r, h, k1, kc⟩ := step _ (go_c41 (xs := xs) (ov := ov) hI h6 hL)
        exact wL_c41 E ht hX hbl hbA hL (C0 := 100 + i) (S0 := 14000 + 3 * i) (by omega) (by omega) h k1 kc hw hl hce hsl
      · refine lv_tableIn (off := 2534) (tgt := 2574) hx hb dL_law__40 (by decide) (by decide) (by decide) (by decide) ?_
        obtain ⟨r, h, k1, kc⟩ := step _ (go_c42 (xs := xs) (ov := ov) hI h6 hL)
        exact wL_c42 E ht hX hbl hbA hL (C0 := 100 + i) (S0 := 14000 + 3 * i) (by omega) (by omega) h k1 kc hw hl hce hsl
      · refine lv_tableOut (tgt := 2599) hx hb dL_law__40 (Or.inr (by rw [nI_toInt (by omega)]; omega)) (by decide) ?_
        refine lv_iinc (v := nI i + 6) (lv' := [(4, .int (nI i + 6)), (0, .ref b), (1, .ref (G.2.2 0)), (2, .ref (G.2.2 22)), (3, .ref oa)]) hx hb dL_law__2599 hl (k := 4) rfl rfl (by decide) rfl (fun ls hl => ?_)
        refine lv_goto (tgt := 23) hx hb dL_law__2602 (by decide) ?_
        exact on V ov hI H locs ls cells slots hw (lv_sub hl [1, 2, 3, 4, 0] rfl) (by omega) (by omega)
