/-! ===== classes known at the start (by program mk_start.py) ===== -/
theorem ni_9 : Cond.instantiable RX9 11 ∈ lw_tbl ∧ Cond.initialized RX9 ∈ lw_tbl := ⟨(tb_1 (List.mem_of_getElem? (i := 29) (by decide +kernel))), (tb_1 (List.mem_of_getElem? (i := 1) (by decide +kernel)))⟩
theorem ni_10 : Cond.instantiable RX10 29 ∈ lw_tbl ∧ Cond.initialized RX10 ∈ lw_tbl := ⟨(tb_6 (List.mem_of_getElem? (i := 21) (by decide +kernel))), (tb_1 (List.mem_of_getElem? (i := 7) (by decide +kernel)))⟩
theorem ln_RL_8 : Cond.classLink RL 8 RX9 ∈ lw_tbl := (tb_1 (List.mem_of_getElem? (i := 28) (by decide +kernel)))
theorem ln_RL_122 : Cond.classLink RL 122 RX10 ∈ lw_tbl := (tb_6 (List.mem_of_getElem? (i := 20) (by decide +kernel)))
theorem li_RL_121 : Cond.methodLink RL 121 yX9_init ∈ lw_tbl := (tb_1 (List.mem_of_getElem? (i := 30) (by decide +kernel)))
theorem li_RL_124 : Cond.methodLink RL 124 yX10_init ∈ lw_tbl := (tb_6 (List.mem_of_getElem? (i := 22) (by decide +kernel)))
theorem ao_St : Cond.arrayOver (.object "AllSawIt$State") ∈ lw_tbl := (tb_1 (List.mem_of_getElem? (i := 180) (by decide +kernel)))
theorem st_arr {args : Array Value} {s : State} {ty : FieldType} (h : (Cond.arrayClass ty).before args s = true) : ∃ c : ClassId, ArrOfT s c ty ∧ s.vm.findClass ("[" ++ ty.toString) = some c := by
  obtain ⟨c, k, comp, h1, h2, h3⟩ := Cond.arrayClass_spec h
  exact ⟨c, fun n z => ⟨fun k h => (by cases h), k, h2, comp, h3⟩, h1⟩
theorem st_K {args : Array Value} {s : State} (ht : ∀ w ∈ lw_tbl, w.before args s = true) : ∃ (D : va_G) (cy : Nat → ClassId), va_K D vwCl (cT cy) s := by
  obtain ⟨c0, i0, k0⟩ := u_known (C := RX0) (T := TX0) (N := 3) (n := 3) ht (fun w h => (iw_0 w h).1) (ht _ ni_0.1)
  obtain ⟨c1, i1, k1⟩ := u_known (C := RX3) (T := TX3) (N := 10) (n := 10) ht (fun w h => (iw_3 w h).1) (ht _ ni_3.1)
  obtain ⟨c2, i2, k2⟩ := u_known (C := RX5) (T := TX5) (N := 3) (n := 3) ht (fun w h => (iw_5 w h).1) (ht _ ni_5.1)
  obtain ⟨c3, i3, k3⟩ := u_known (C := RX6) (T := TX6) (N := 13) (n := 13) ht (fun w h => (iw_6 w h).1) (ht _ ni_6.1)
  obtain ⟨c4, i4, k4⟩ := u_known (C := RX8) (T := TX8) (N := 6) (n := 6) ht (fun w h => (iw_8 w h).1) (ht _ ni_8.1)
  obtain ⟨c5, i5, k5⟩ := u_known (C := RX9) (T := TX9) (N := 11) (n := 11) ht (fun w h => (iw_9 w h).1) (ht _ ni_9.1)
  obtain ⟨c6, i6, k6⟩ := u_known (C := RX10) (T := TX10) (N := 29) (n := 29) ht (fun w h => (iw_10 w h).1) (ht _ ni_10.1)
  obtain ⟨a0, b0, d0⟩ := st_arr (ty := .byte) (ht _ ac_byte)
  obtain ⟨a1, b1, d1⟩ := st_arr (ty := .int) (ht _ ac_int)
  obtain ⟨a2, b2, d2⟩ := st_arr (ty := .boolean) (ht _ ac_boolean)
  obtain ⟨a4, b4, d4⟩ := st_arr (ty := .long) (ht _ ac_long)
  obtain ⟨comp, a3, ka, f1, f2, f3, f4, f5⟩ := Cond.arrayOver_spec (ht _ ao_St)
  refine ⟨(fun k => if k = 0 then c0 else if k = 1 then c1 else if k = 2 then c2 else if k = 3 then c3 else if k = 4 then c4 else if k = 5 then c5 else c6, fun k => if k = 0 then i0 else if k = 1 then i1 else if k = 2 then i2 else if k = 3 then i3 else if k = 4 then i4 else if k = 5 then i5 else i6), fun k => if k = 0 then a0 else if k = 1 then a1 else if k = 2 then a2 else if k = 3 then a3 else a4, fun k q hq => ?_, fun k q hq => ?_⟩
  · match k, hq with
    | 0, hq => cases hq; exact k0
    | 1, hq => cases hq; exact k1
    | 2, hq => cases hq; exact k2
    | 3, hq => cases hq; exact k3
    | 4, hq => cases hq; exact k4
    | 5, hq => cases hq; exact k5
    | 6, hq => cases hq; exact k6
    | k + 7, hq => simp [vwCl] at hq
  · match k, hq with
    | 0, hq => cases hq; exact ⟨b0, d0⟩
    | 1, hq => cases hq; exact ⟨b1, d1⟩
    | 2, hq => cases hq; exact ⟨b2, d2⟩
    | 3, hq => cases hq; exact ⟨fun N z => ⟨(fun k h => by cases h), ka, f3, comp, f4⟩, ⟨ka, comp, f3, f4, f1, f5⟩⟩
    | 4, hq => cases hq; exact ⟨b4, d4⟩
    | k + 5, hq => simp [cT] at hq
/-! ===== a constructor called by the law ===== -/
section LC
variable {p : Program} {l : Launch} {e : Env} {R : Room} {s : State} {m : MethodId} {args : Array Value} {below : List Frame} {meth : Method} {c : Code} {H : Heap} {locs : List Loc} {cells slots : Nat} {Q : State → Prop}
variable {cc : ByteArray} {pc nL : Nat} {ls : Array Slot} {rest : List Value} {own : String} {D : va_G} {cy : Nat → ClassId} {ws : va_W} {A : Nat → Prop}
theorem n_callL {y : MethodName} {bytes : ByteArray} {maxL d mc ms index h : Nat} {wc : va_W} {wc' : (Nat → Nat) → va_W} {wr : va_W} (hx : p.tables.exec = Jvm.exec) (hb : c.code = cc) (hml : c.maxLocals = nL) (hown : s.vm.findClass own = some m.cls) (hT : TB s) (hK : va_K D vwCl (cT cy) s) (hO : va_AO "AllSawIt$State" s) (hP : va_P D vwCl ws H) (hD : va_D A ws) (hS : va_S A s.heap H locs) (hA : ∀ q, s.heap.size ≤ q → A q) (hC : CC l D cy y (.code y bytes maxL none) d mc ms [.ref h] wc wc') (h1 : Cond.code y bytes maxL none ∈ lw_tbl) (h2 : Cond.initialized y.cls ∈ lw_tbl) (h3 : Cond.instanceMethod y ∈ lw_tbl) (h4 : Cond.methodLink own index y ∈ lw_tbl) (h5 : y.cls ≠ "java/lang/invoke/MethodHandle" ∧ y.cls ≠ "java/lang/invoke/VarHandle" ∧ (parseMethodDescriptor y.desc).map (fun d => d.parameters.length) = some 0) (h6 : y.name = "<init>") (hw1 : wc.length = 1) (isC isR : List Nat) (hc1 : isC.map (fun i => ws[i]?) = wc.map some) (hc2 : isR.map (fun i => ws[i]?) = wr.map some) (hnd : va_nd isR = true) (hdis : ∀ i ∈ isR, i ∉ isC) (hl : ls.size = nL) (hR : d + 1 ≤ R.frames ∧ 60 + 60 * d ≤ R.locals) (hL : maxL ≤ 41) (hcat : (rest.map fun v => v.category).sum ≤ 8) (hdg : decode cc pc = .ok (.invokespecial index, 3)) (hf : cells + mc ≤ R.cells ∧ slots + ms ≤ R.slots)
    (kk : ∀ (ad : Nat → Nat) (H1 : Heap) (locs1 : List Loc), va_P D vwCl (wr ++ wc' ad) H1 → va_D A (wr ++ wc' ad) → va_S A s.heap H1 locs1 → W p l e R s m args below meth c H1 locs1 (cells + mc) (slots + ms) Q (F0 m (pc + 3) ls rest)) : W p l e R s m args below meth c H locs cells slots Q (F0 m pc ls (.ref h :: rest)) := by
  have hPc := hP.sub (ws' := wc) isC (by
    have : isC.filterMap (fun i => ws[i]?) = (isC.map (fun i => ws[i]?)).filterMap id := by rw [List.filterMap_map]; rfl
    rw [this, hc1, List.filterMap_map]; simp)
  have hDc0 : va_D (fun _ => True) wc := ⟨fun i j a b ha hb _ => by
      have q1 := (List.getElem?_eq_some_iff.mp ha).1
      have q2 := (List.getElem?_eq_some_iff.mp hb).1
      omega, fun _ _ _ => trivial⟩
  have hFc := va_free (wc := wc) hD hS hA isC hc1
  have hblind : FrameBlind (va_Pc [.ref h] (PreC D cy wc H.size)) := by
    intro a U g mk q
    obtain ⟨q1, q2, q3, q4, q5, q6, q7⟩ := q
    have hW : U.WarmedH (U.calling g mk a).vm := State.WarmedH.refl U
    exact ⟨q1, q2, q3, va_K.moved (u := U) (U := U.calling g mk a) (Vm.Alike.refl U.vm) q4, q5, TB.warm (U := U.calling g mk a) hW q6, va_AO.moved (u := U) (U := U.calling g mk a) (Vm.Alike.refl U.vm) q7⟩
  refine va_callv (post := fun _ : Nat → Nat => True) (B := fun ad t => va_P D vwCl (wc' ad) t.heap ∧ va_D (va_A wc H.size) (wc' ad)) (A1 := va_A wc H.size) (va_runI (b := h) (As := []) (rest := rest) (Ts := []) ⟨hx, hb, hml, hown, fun _ h => nomatch h⟩ (hC H.size) ⟨⟨rfl, rfl, hR.1, by have := hR.2; show 8 + (maxL + 11) + 60 * d ≤ R.locals; omega, fun w hw a' U hW => by
      have e : w = Cond.code y bytes maxL none := by simpa using hw
      subst e
      exact word_at hW (good_of_word rfl) (hT.at h1 rfl args), List.mem_cons_self, hT.at h1 rfl args, hT.at h2 rfl args, ⟨h5.1, h5.2.1⟩, fun sig hs => by
      have h9 := h5.2.2
      rw [hs] at h9
      exact (Option.some.inj h9).symm, hT.at h4 rfl args⟩, h6, hT.at h3 rfl args⟩ ⟨hblind, fun U hU hW => ⟨rfl, by rw [hU], by rw [hU]; exact hPc, va_K.moved hW.alike hK, hDc0, hT.warm hW, va_AO.moved hW.alike hO⟩⟩ rfl rfl hl rfl (lv_room hcat) hdg hf) hS (fun q _ h => hFc q h) hFc (fun ad t H1 locs1 ht hvm hp hb hz hk hS1 => ?_)
  obtain ⟨hb1, hb2⟩ := hb
  rw [ht] at hb1
  obtain ⟨hP2, hD2⟩ := va_join (wr := wr) (w1 := wc' ad) hP hD isC isR hc1 hc2 hnd hdis hk hFc hb1 hb2
  exact kk ad H1 locs1 hP2 hD2 hS1
end LC
