/-! ===== NoSuchElementException("text"): the same road as the printed rows' for the others, but that its constructor's link is entry 13 of its file ===== -/
def nt_N : String := "java/util/NoSuchElementException"
def nt_at (own : String) (ic : Nat) : List Cond :=
  Bundle.throwableAtoms ++ Bundle.throwableSAtoms ++ (Bundle.passSAtoms nt_N "java/lang/RuntimeException" 13 prog_32_method_4_code ++ Bundle.chainSAtoms "java/lang/RuntimeException" ["java/lang/Exception"]) ++
  [.methodLink own ic (Bundle.initS nt_N), .instantiable nt_N 6, .castable nt_N nt_N, .selects nt_N Bundle.tFill0 Bundle.tFill0, .selects nt_N Bundle.tFill Bundle.tFill,
   .lays nt_N Bundle.tN "cause" "Ljava/lang/Throwable;", .lays nt_N Bundle.tN "stackTrace" Bundle.steD, .lays nt_N Bundle.tN "suppressedExceptions" Bundle.listD, .lays nt_N Bundle.tN "detailMessage" "Ljava/lang/String;",
   .isRef (.static Bundle.tN "UNASSIGNED_STACK" Bundle.steD), .isRef (.static Bundle.tN "SUPPRESSED_SENTINEL" Bundle.listD),
   .fieldLink Bundle.tN 198 Bundle.tN "backtrace" "Ljava/lang/Object;", .lays Bundle.tN Bundle.tN "backtrace" "Ljava/lang/Object;", .lays nt_N Bundle.tN "backtrace" "Ljava/lang/Object;"]
theorem nt_0 : decode prog_32_method_4_code 0 = .ok (.aload_n 0, 1) := by decide +kernel
theorem nt_1 : decode prog_32_method_4_code 1 = .ok (.aload_n 1, 1) := by decide +kernel
theorem nt_2 : decode prog_32_method_4_code 2 = .ok (.invokespecial 13, 3) := by decide +kernel
theorem nt_5 : decode prog_32_method_4_code 5 = .ok (.return_, 1) := by decide +kernel
section NT
variable {p : Program} {l : Launch} {e : Env} {R : Room} {s : State} {m₀ : MethodId} {args : Array Value} {below : List Frame} {meth : Method} {c : Code} {W : State} {locs : List Loc} {cells slots : Nat}
set_option maxHeartbeats 4000000 in
theorem nt_ctor (X : Stand p l e R s m₀ args below meth c W locs cells slots) (hexec : p.tables.exec = Jvm.exec) (htr : e.platform.stackTraces = false) {own : String} {ic : Nat}
    (hown : s.vm.findClass own = some m₀.cls)
    (h : ∀ a ∈ nt_at own ic, a.before args s = true)
    (hlocs : ∀ x ∈ locs, ∀ cell, s.heap[x.base]? = some cell → cell.vm.isStatics = false)
    {a : Addr} {cX : ClassId} {kX : Class} (hfoundX : s.vm.findClass nt_N = some cX) (hkX : s.vm.classes[cX]? = some kX) (hcell : W.heap[a]? = some (freshCell cX kX)) (hnew : s.heap.size ≤ a)
    {msg : Value} (hmsg : msg.isRef = true)
    {g : JFrame} (hg : g.method = m₀) (hsize : g.locals.size = c.maxLocals) (hlocked : g.locked = none) (hentered : g.entered = []) {rest : List Value} (hstack : g.stack = msg :: .ref a :: .ref a :: rest)
    (hd6 : decode c.code g.pc = .ok (.invokespecial ic, 3)) (hd9 : decode c.code (g.pc + 3) = .ok (.athrow, 1)) (hout : ∀ x ∈ c.exceptionTable.toList, covers x (g.pc + 3) = false)
    (hRframes : 2 + 3 < R.frames) (hRlocals : 2 * g.monitorRoom + ((Value.ref a :: rest).map fun v => v.category).sum + (13 * (2 + 1) + 42) ≤ R.locals) (hlocks : meth.locks = false) :
    ∃ U : State, Steps p.tables e below (W.setTop g) U ∧ U.status = .running ∧ Ended U below (.threw a) ∧ s.WarmedH U.vm ∧ s.sameButNew ({ U with vm := s.vm } : State) locs cells slots ∧
      ∃ ce, U.heap[a]? = some ce ∧ s.vm.findClass nt_N = some ce.cls ∧ ce.vm = .none := by
  have howns : e.platform.frameOwnsMonitors = true := by rw [X.admits.platform]
  have hfin : e.platform.finalization = false := by rw [X.admits.platform]
  have hpl : e.platform.magicAccessors = ({} : Platform).magicAccessors := by rw [X.admits.platform]
  have a' : ∀ x, x ∈ nt_at own ic → x.holds args s none s [] = true := fun x hx => h x hx
  obtain ⟨T, Z0, L, -, Y⟩ := ThrowableC.of_atoms (args := args) howns hfin hpl (fun x hx => h x (by simp [nt_at, hx]))
  obtain ⟨Z, M, LZ, LM, hnZ⟩ := Init0T.ofS_atoms (args := args) hpl L Y (fun x hx => h x (by simp [nt_at, hx]))
  obtain ⟨P2, Ps, hlen, L2, hL, hP2m, hlink2, hlink⟩ := Bundle.chainS (args := args) hpl hnZ ["java/lang/Exception"] "java/lang/RuntimeException" (by decide) (by decide) (fun x hx => h x (by simp [nt_at, hx]))
  obtain ⟨P1, L1, hP1m, hs1⟩ := PassC.ofS_atoms (args := args) (s := s) hpl (X := nt_N) (Y := "java/lang/RuntimeException") (by decide) (by decide) nt_0 nt_1 nt_2 nt_5 (fun x hx => h x (by simp [nt_at, hx]))
  have hlink1 : P1.sup = P2.m := Option.some.inj (hs1.symm.trans hP2m)
  have hfound : s.vm.findClass nt_N = some P1.m.cls := findClass_of_methodNamed hP1m
  cases Option.some.inj (hfoundX.symm.trans hfound)
  obtain ⟨c1, kX', hc1, hk, hord, -, -, hn6⟩ := Cond.instantiable_spec (a' (.instantiable nt_N 6) (by simp [nt_at]))
  cases Option.some.inj (hc1.symm.trans hfound)
  cases Option.some.inj (hkX.symm.trans hk)
  have hsel0 : selectMethod e.platform s.vm P1.m.cls T.fill0 = .method T.fill0 := by
    obtain ⟨c2, r2, m2, q1, q2, q3, q4, -⟩ := Cond.selects_spec (a' (.selects nt_N Bundle.tFill0 Bundle.tFill0) (by simp [nt_at]))
    cases Option.some.inj (q1.symm.trans hfound)
    cases Option.some.inj (q2.symm.trans (State.methodFound?_of_named Y.fill0 (by decide)))
    cases Option.some.inj (q3.symm.trans Y.fill0)
    rw [Launch.admits_selectMethod X.admits]; exact q4
  have hselF : selectMethod e.platform s.vm P1.m.cls T.fill = .method T.fill := by
    obtain ⟨c2, r2, m2, q1, q2, q3, q4, -⟩ := Cond.selects_spec (a' (.selects nt_N Bundle.tFill Bundle.tFill) (by simp [nt_at]))
    cases Option.some.inj (q1.symm.trans hfound)
    cases Option.some.inj (q2.symm.trans (State.methodFound?_of_named Y.fill (by decide)))
    cases Option.some.inj (q3.symm.trans Y.fill)
    rw [Launch.admits_selectMethod X.admits]; exact q4
  obtain ⟨cellS0, hcS0, hiss⟩ := Y.statics
  obtain ⟨u0, hu0⟩ := Cond.staticRefV Y.unassigned L.unassignedStatic L.statics hcS0 hiss (a' (.isRef (.static Bundle.tN "UNASSIGNED_STACK" Bundle.steD)) (by simp [nt_at]))
  obtain ⟨sen, hsen⟩ := Cond.staticRefV Y.sentinel L.sentinelStatic L.statics hcS0 hiss (a' (.isRef (.static Bundle.tN "SUPPRESSED_SENTINEL" Bundle.listD)) (by simp [nt_at]))
  obtain ⟨ci198, i198, fB, hk198, hg198, ha198, hsB, -, hnB, htB, hffB⟩ := Cond.ownField (t := .object "java/lang/Object") Y.found L.cls (by decide +kernel) (a' (.fieldLink Bundle.tN 198 Bundle.tN "backtrace" "Ljava/lang/Object;") (by simp [nt_at])) (a' (.lays Bundle.tN Bundle.tN "backtrace" "Ljava/lang/Object;") (by simp [nt_at])) e.platform hpl
  obtain ⟨cellS, hcS', heS, -, hkeep⟩ := X.same.2.2.2.2.2 T.aS cellS0 hcS0
  have hcellS : W.heap[T.aS]? = some cellS := hcS'
  have hout' : ∀ i, (⟨T.aS, i⟩ : Loc) ∉ locs := fun i hmem => by
    have := hlocs _ hmem cellS0 hcS0
    rw [hiss] at this; cases this
  have hknownS : cellS.vm ≠ .unknown := by
    rw [heS]; intro hu
    rw [show cellS0.vm = .unknown from hu] at hiss
    cases hiss
  have hneS : T.aS ≠ a := Nat.ne_of_lt (Nat.lt_of_lt_of_le (Array.getElem?_eq_some_iff.mp hcS0).1 hnew)
  obtain ⟨iM, hffM⟩ := Y.msg
  obtain ⟨tyC, dC, hdC, hdnC⟩ := Cond.laysAt hfound hk Y.cause (a' (.lays nt_N Bundle.tN "cause" "Ljava/lang/Throwable;") (by simp [nt_at]))
  obtain ⟨tyS, dS, hdS, hdnS⟩ := Cond.laysAt hfound hk Y.stack (a' (.lays nt_N Bundle.tN "stackTrace" Bundle.steD) (by simp [nt_at]))
  obtain ⟨tyP, dP, hdP, hdnP⟩ := Cond.laysAt hfound hk Y.supp (a' (.lays nt_N Bundle.tN "suppressedExceptions" Bundle.listD) (by simp [nt_at]))
  obtain ⟨tyM, dM, hdM, hdnM⟩ := Cond.laysAt hfound hk hffM (a' (.lays nt_N Bundle.tN "detailMessage" "Ljava/lang/String;") (by simp [nt_at]))
  obtain ⟨tyB, dB, hdB, hdnB⟩ := Cond.laysAt hfound hk hffB (a' (.lays nt_N Bundle.tN "backtrace" "Ljava/lang/Object;") (by simp [nt_at]))
  have bC := Cond.laysApart hdB hdC hdnB hdnC (by rw [hnB, Y.causeName]; decide)
  have bS := Cond.laysApart hdB hdS hdnB hdnS (by rw [hnB, Y.stackName]; decide)
  have bP := Cond.laysApart hdB hdP hdnB hdnP (by rw [hnB, Y.suppName]; decide)
  have hskip : SkipFacts T e.platform s (fun u => u) u0 ((preparedCellV T.toThrowableT (freshCell P1.m.cls kX) a u0 sen).withEntry W.cur) :=
    ⟨{ ci198 := ci198, i198 := i198, fBack := fB }, ⟨hk198, hg198, ha198, hsB⟩, by
      have := fresh_default (c := P1.m.cls) tyB
      rw [htB] at this
      simpa [preparedCellV, Cell.setSlot, Cell.withEntry, Array.getElem?_setIfInBounds, bC, bS, bP, bC.symm, bS.symm, bP.symm, defaultValue] using this, fun _ _ => rfl⟩
  obtain ⟨tm, methC, cdC, kC, vm₁, hnC, -, -, -, -, -, -, -, hW₁, st1⟩ := Steps.initColdS (tb := p.tables) (e := e) (below := below) (s := s) (U := W) X.here hexec X.warmed hpl hown (t := Bundle.initS nt_N) rfl rfl (by decide)
    (a' (.methodLink own ic (Bundle.initS nt_N)) (by simp [nt_at])) (h (.instanceMethod (Bundle.initS nt_N)) (by simp [nt_at, Bundle.passSAtoms])) (bytes := prog_32_method_4_code) (maxL := 2) (h (.code (Bundle.initS nt_N) prog_32_method_4_code 2 none) (by simp [nt_at, Bundle.passSAtoms]))
    (f := g) hg (a := a) (msg := msg) (rest := .ref a :: rest) hstack hd6
  cases Option.some.inj (hnC.symm.trans hP1m)
  have X₁ := X.noted hW₁
  obtain ⟨vm₂, X₂, st2⟩ := X₁.ctorMessageOffV hexec (g := { g with stack := .ref a :: rest }) hg hsize T L Z LZ M LM (P1 :: P2 :: Ps)
    (fun P hP => by rcases List.mem_cons.mp hP with rfl | hP; exact L1; rcases List.mem_cons.mp hP with rfl | hP; exact L2; exact hL P hP) ⟨hlink1, hlink2, hlink⟩ (u0 := u0) (sen := sen) (self := a) hmsg (cell := freshCell P1.m.cls kX) (cellS := cellS)
    hcell (fun _ => by simp) (by simp) rfl rfl hsel0 hselF hcellS hneS hknownS (by rw [hkeep _ (hout' _)]; exact hu0) (by rw [hkeep _ (hout' _)]; exact hsen)
    (Takes.of_laid hk hord tyC (by rw [Y.causeType]; rfl)) (Takes.of_laid hk hord tyS (by rw [Y.stackType]; exact fits_refV_array _ u0)) (Takes.of_laid hk hord tyP (by rw [Y.suppType]; exact fits_refV_object _ sen))
    (Takes.of_laid hk hord tyM (by rw [Y.msgType]; exact fits_refV_object _ ⟨msg, hmsg⟩)) Y.objLocals hskip htr [] hd6
    (by simp only [List.length_cons, hlen]; simp only [List.length_nil]; omega) (by simp only [List.length_cons, hlen]; exact hRlocals)
  obtain ⟨hwalk, hrun, hended, hWU, hsame⟩ := X₂.athrowLeaves hexec (g := { g with stack := .ref a :: rest, pc := g.pc + 3 }) hg hlocked hentered hout (a := a) (rest := rest) rfl hd9
  have hlt : a < ((W.setVm vm₁).setVm vm₂).heap.size := (Array.getElem?_eq_some_iff.mp hcell).1
  have hU := heapAt_setCell_self (s := (W.setVm vm₁).setVm vm₂) (plainBareV T.toThrowableT (freshCell P1.m.cls kX) a u0 sen msg) hlt
  refine ⟨_, st1 _ (fun acts => ?_), hrun, hended, hWU, hsame.weaken (fun y hy hlt' => ?_) (Nat.le_refl _) (Nat.le_refl _), _, hU, hfound, rfl⟩
  · rw [doInvoke_state]
    exact st2 _ hwalk
  · rcases List.mem_append.mp hy with h1 | h1
    · exact h1
    · exfalso
      have hb : y.base = a := by
        simp only [List.mem_cons, List.not_mem_nil, or_false] at h1
        rcases h1 with rfl | rfl | rfl | rfl | rfl <;> rfl
      rw [hb] at hlt'
      exact Nat.not_lt.mpr hnew hlt'
end NT
def nt_no (own : String) (ic : Nat) : List Cond := (nt_at own ic).filter vx_no
section NU
variable {p : Program} {l : Launch} {e : Env} {R : Room} {s : State} {m : MethodId} {args : Array Value} {below : List Frame} {meth : Method} {c : Code} {H : Heap} {locs : List Loc} {cells slots mc ms : Nat}
variable {cc : ByteArray} {pc nL : Nat} {ls : Array Slot} {rest : List Value} {own : String} {ret : Option FieldType} {G : GT} {V V' : VT} {Z : Nat → Nat × Nat}
set_option maxHeartbeats 4000000 in
theorem x_thN {α : Type} {Qc : Array Value → State → Outcome → State → Prop} {w ik is ic : Nat} {cls : String} (E : En p s m args c meth cc nL own ret G (SG Z)) (hw : HW G s.heap V H locs) (ht : l.stackTraces = false) (hz : w < 65) (hO : sO w = own) (hI : sK w = is) (hcls : cls = nt_N) (hk : Cond.classLink own ik nt_N ∈ lw_tbl) (hini : Cond.initialized nt_N ∈ lw_tbl) (hat : ∀ w ∈ (nt_no own ic).filter goodWord, w ∈ lw_tbl) (hat2 : ∀ w ∈ (nt_no own ic).filter (fun w => !goodWord w), w ∈ lw_tbl ∧ (w ∈ [Cond.castable nt_N nt_N] ∨ w ∈ [Cond.declares (Bundle.initS "java/lang/RuntimeException"), Cond.declares (Bundle.initS "java/lang/Exception"), Cond.declares (Bundle.initS "java/lang/Throwable")]))
    (hgood : ∀ w ∈ Cond.classLink own ik nt_N :: Cond.initialized nt_N :: nt_no own ic, vx_ot w = true) (hl : ls.size = nL)
    (d0 : decode cc pc = .ok (.new ik, 3)) (d3 : decode cc (pc + 3) = .ok (.dup, 1)) (dd : (decode cc (pc + 4) = .ok (.ldc is, 2) ∧ decode cc (pc + 6) = .ok (.invokespecial ic, 3) ∧ decode cc (pc + 9) = .ok (.athrow, 1)) ∨ (decode cc (pc + 4) = .ok (.ldc_w is, 3) ∧ decode cc (pc + 7) = .ok (.invokespecial ic, 3) ∧ decode cc (pc + 10) = .ok (.athrow, 1)))
    (hnt : ∀ x ∈ c.exceptionTable.toList, False) (hR : 6 ≤ R.frames ∧ 360 ≤ R.locals) (hf : cells + 1 ≤ R.cells ∧ slots + 6 ≤ R.slots) (hcat : (rest.map fun v => v.category).sum ≤ 8) (hm : cells + 1 ≤ mc ∧ slots + 6 ≤ ms) : W p l e R s m args below meth c H locs cells slots (vx_MQ below Qc (XE (α := α) G s.heap.size (.inl cls) V) args s mc ms (gA G s.heap.size)) (F0 m pc ls rest) := by
  subst hcls
  have hG := en_G E
  have hstr := hG.2.1 w hz
  rw [hO, hI] at hstr
  have hw8 : ∀ w ∈ nt_no own ic, w.before args s = true := by
    intro w h
    by_cases hg : goodWord w = true
    · exact en_w E (hat w (List.mem_filter.mpr ⟨h, hg⟩)) hg
    · obtain ⟨hm1, hm2⟩ := hat2 w (List.mem_filter.mpr ⟨h, by simpa using hg⟩)
      rcases hm2 with hm2 | hm2
      · have e1 := List.mem_singleton.mp hm2
        subst e1
        exact va_Nw.use rfl (hG.2.2.2.2.2.2.1 nt_N nt_N hm1)
      · simp only [List.mem_cons, List.not_mem_nil, or_false] at hm2
        rcases hm2 with rfl | rfl | rfl <;> exact va_Nw.use rfl (hG.2.2.2.2.2.2.2 _ hm1)
  have hsize : ls.size = c.maxLocals := hl.trans E.2.2.1.symm
  have hx : ∀ t : State, s.vm.Alike t.vm → H.size ≤ t.heap.size → (∀ q : Nat, q < H.size → t.heap[q]? = H[q]?) → XE (α := α) G s.heap.size (.inl nt_N) V nt_N s t := fun t _ h1 h2 => xe_of hw h1 h2
  intro T hT X
  have htr : e.platform.stackTraces = false := (show e.platform.stackTraces = l.stackTraces by rw [X.admits.platform]).trans ht
  have Y := vx_rebase X (R' := { frames := R.frames, locals := R.locals, cells := 1, slots := 6 }) (Nat.le_refl _) (Nat.le_refl _) hf.1 hf.2
  obtain ⟨s', hA⟩ : ∃ z, z = (T.setVm s.vm).setFrames (.invoking m args :: below) := ⟨_, rfl⟩
  rw [← hA] at Y
  have hvm : s'.vm = s.vm := by rw [hA]; rfl
  have hhp : s'.heap = H := by rw [hA]; exact hT
  have hW0 : s.WarmedH s'.vm := by rw [hvm]; exact State.WarmedH.refl s
  have hat' : ∀ w ∈ nt_no own ic, w.before args s' = true := fun w hw => vx_ot_at hW0 hvm.symm (hgood w (List.mem_cons_of_mem _ (List.mem_cons_of_mem _ hw))) (hw8 w hw)
  have hk' : (Cond.classLink own ik nt_N).before args s' = true := vx_ot_at hW0 hvm.symm (hgood _ List.mem_cons_self) (en_w E hk rfl)
  have hini' : (Cond.initialized nt_N).before args s' = true := vx_ot_at hW0 hvm.symm (hgood _ (List.mem_cons_of_mem _ List.mem_cons_self)) (en_w E hini rfl)
  have hU' : vx_Zq Bundle.tN "UNASSIGNED_STACK" Bundle.steD (gA G s.heap.size) s' s'.heap := by rw [hhp]; exact vx_Zq.moved hW0.alike (hG.2.2.2.2.1.kept hw.2.2.2.1)
  have hN' : vx_Zq Bundle.tN "SUPPRESSED_SENTINEL" Bundle.listD (gA G s.heap.size) s' s'.heap := by rw [hhp]; exact vx_Zq.moved hW0.alike (hG.2.2.2.2.2.1.kept hw.2.2.2.1)
  have h : ∀ w ∈ nt_at own ic, w.before args s' = true := vx_own hat' (vx_isRefq hU'.1) (vx_isRefq hN'.1) hU'.2.word hN'.2.word
  have hown' : s'.vm.findClass own = some m.cls := by rw [hvm]; exact E.2.2.2.1
  have hins : (Cond.instantiable nt_N 6).before args s' = true := h _ (by simp [nt_at])
  have hexec := en_x E
  have hb := en_b E
  obtain ⟨vm₁, cX, kX, hfX, hkX, -, -, X₁, st1⟩ := Y.newCold hexec (own := own) (C := nt_N) (index := ik) (n := 6) hown' hk' hins hini'
    (g := F0 m pc ls rest) rfl (by rw [hb]; exact d0) (Nat.le_refl _) (Nat.le_refl _)
  generalize hT1 : (T.setVm vm₁).pushCell { cls := cX, slots := kX.instanceTypes.map defaultValue, vm := .none } = T1 at X₁ st1
  have hcat1 : (Value.ref T.heap.size).category = 1 := rfl
  have hcellA : T1.heap[T.heap.size]? = some (freshCell cX kX) := by rw [← hT1]; exact State.heap_pushCell_size _ _
  have d3' : decode c.code (pc + 3) = .ok (.dup, 1) := by rw [hb]; exact d3
  have hstr' : vk_R own is (sX w) (Z w).1 s' := vk_R.warm hW0 hstr
  have fin : ∀ (pd : Nat), decode c.code pd = .ok (.invokespecial ic, 3) → decode c.code (pd + 3) = .ok (.athrow, 1) →
      (∀ U, Steps p.tables e below (T1.setTop { method := m, pc := pd, locals := ls, stack := .ref (Z w).1 :: .ref T.heap.size :: .ref T.heap.size :: rest, locked := none }) U → Steps p.tables e below (T1.setTop { method := m, pc := pc + 4, locals := ls, stack := .ref T.heap.size :: .ref T.heap.size :: rest, locked := none }) U) →
      ∃ t, Steps p.tables e below (T.setTop (F0 m pc ls rest)) t ∧ vx_MQ below Qc (XE (α := α) G s.heap.size (.inl nt_N) V) args s mc ms (gA G s.heap.size) t := by
    intro pd d6 d9 go
    obtain ⟨U, hsteps, hrun, hend, hW, hsame, ce, hce, hO1, hO2⟩ := nt_ctor X₁ hexec htr (own := own) (ic := ic) hown' h (fun x hx => nomatch hx) hfX hkX hcellA (by rw [hhp, hT]; exact Nat.le_refl _) (msg := .ref (Z w).1) rfl
      (g := { method := m, pc := pd, locals := ls, stack := .ref (Z w).1 :: .ref T.heap.size :: .ref T.heap.size :: rest, locked := none }) rfl hsize rfl rfl (rest := rest) rfl
      d6 d9 (fun x hx => (hnt x hx).elim) (by show 2 + 3 < R.frames; omega) (by simp only [List.map_cons, List.sum_cons, hcat1]; show 2 * 0 + _ + _ ≤ R.locals; omega) E.2.2.2.2.2.2.1
    obtain ⟨f1, f2⟩ := vx_frame hsame
    rw [hhp] at f1 f2
    have hWs : s.WarmedH U.vm := State.WarmedH.trans hW0 hW
    have hcl : s.vm.findClass nt_N = some ce.cls := by
      rw [hvm] at hO1
      exact hO1
    have hall : s.sameButNew ({ U with vm := s.vm } : State) locs mc ms := by
      subst hA
      obtain ⟨e1, e2⟩ := hsame
      rw [State.setFrames_setFrames] at e1
      have h2 : (T.setVm s.vm).sameButNew ({ U with vm := s.vm } : State) [] (0 + 1) (0 + 6) := ⟨e1, e2⟩
      have h3 := X.same.trans h2
      rw [List.append_nil] at h3
      exact h3.mono hm.1 hm.2
    refine ⟨U, ?_, .threw T.heap.size, hrun, hend, Or.inr ⟨T.heap.size, rfl, nt_N, ce, locs, hx U hWs.alike f1 (fun q hq => f2 q hq (fun z hz => nomatch hz)), hce, hO2, hcl, hWs, hall, hw.2.2.2.2⟩⟩
    refine st1 _ ?_
    show Steps p.tables e below (T1.setTop { method := m, pc := pc + 3, locals := ls, stack := .ref T.heap.size :: rest, locked := none }) _
    jvm_step X₁.here [X₁.here.top, hexec, d3', Value.category]
    exact go U hsteps
  rcases dd with ⟨d4, d6, d9⟩ | ⟨d4, d7, d10⟩
  · have d4' : decode c.code (pc + 4) = .ok (.ldc is, 2) := by rw [hb]; exact d4
    exact fin (pc + 6) (by rw [hb]; exact d6) (by rw [hb]; exact d9) (fun U hU => X₁.ldcString hexec hown' (text := sX w) (a := (Z w).1) hstr'.1 hstr'.2 (g := { method := m, pc := pc + 4, locals := ls, stack := .ref T.heap.size :: .ref T.heap.size :: rest, locked := none }) rfl d4' U hU)
  · have d4' : decode c.code (pc + 4) = .ok (.ldc_w is, 3) := by rw [hb]; exact d4
    exact fin (pc + 7) (by rw [hb]; exact d7) (by rw [hb]; exact d10) (fun U hU => X₁.ldcStringW hexec (own := own) (text := sX w) (index := is) (a := (Z w).1) hown' hstr'.1 hstr'.2 (g := { method := m, pc := pc + 4, locals := ls, stack := .ref T.heap.size :: .ref T.heap.size :: rest, locked := none }) rfl d4' U hU)
end NU
theorem tw1_147 : Cond.classLink RX9 147 nt_N ∈ lw_tbl := (tb_4 (List.mem_of_getElem? (i := 66) (by decide +kernel)))
theorem tw2_147 : Cond.initialized nt_N ∈ lw_tbl := (tb_1 (List.mem_of_getElem? (i := 23) (by decide +kernel)))
theorem tw3_147 : ∀ w ∈ (nt_no RX9 151).filter goodWord, w ∈ lw_tbl := by decide +kernel
theorem tw4_147 : ∀ w ∈ (nt_no RX9 151).filter (fun w => !goodWord w), w ∈ lw_tbl ∧ (w ∈ [Cond.castable nt_N nt_N] ∨ w ∈ [Cond.declares (Bundle.initS "java/lang/RuntimeException"), Cond.declares (Bundle.initS "java/lang/Exception"), Cond.declares (Bundle.initS "java/lang/Throwable")]) := by decide +kernel
theorem tw6_147 : ∀ w ∈ Cond.classLink RX9 147 nt_N :: Cond.initialized nt_N :: nt_no RX9 151, vx_ot w = true := by decide +kernel
/-! ===== AllSawIt.house(II)I ===== -/
theorem dX9_house_0 : decode cX9_house 0 = .ok (.aload_n 0, 1) := by decide +kernel
theorem dX9_house_1 : decode cX9_house 1 = .ok (.iload_n 1, 1) := by decide +kernel
theorem dX9_house_2 : decode cX9_house 2 = .ok (.invokevirtual 119, 3) := by decide +kernel
theorem dX9_house_5 : decode cX9_house 5 = .ok (.iload_n 2, 1) := by decide +kernel
theorem dX9_house_6 : decode cX9_house 6 = .ok (.tableswitch 141 0 10 #[58, 68, 77, 58, 58, 58, 58, 86, 103, 112, 121], 58) := by decide +kernel
theorem dX9_house_64 : decode cX9_house 64 = .ok (.aload_n 0, 1) := by decide +kernel
theorem dX9_house_65 : decode cX9_house 65 = .ok (.getfield 19, 3) := by decide +kernel
theorem dX9_house_68 : decode cX9_house 68 = .ok (.iload_n 1, 1) := by decide +kernel
theorem dX9_house_69 : decode cX9_house 69 = .ok (.iload_n 2, 1) := by decide +kernel
theorem dX9_house_70 : decode cX9_house 70 = .ok (.invokevirtual 122, 3) := by decide +kernel
theorem dX9_house_73 : decode cX9_house 73 = .ok (.ireturn, 1) := by decide +kernel
theorem dX9_house_74 : decode cX9_house 74 = .ok (.aload_n 0, 1) := by decide +kernel
theorem dX9_house_75 : decode cX9_house 75 = .ok (.getfield 19, 3) := by decide +kernel
theorem dX9_house_78 : decode cX9_house 78 = .ok (.iload_n 1, 1) := by decide +kernel
theorem dX9_house_79 : decode cX9_house 79 = .ok (.invokevirtual 126, 3) := by decide +kernel
theorem dX9_house_82 : decode cX9_house 82 = .ok (.ireturn, 1) := by decide +kernel
theorem dX9_house_83 : decode cX9_house 83 = .ok (.aload_n 0, 1) := by decide +kernel
theorem dX9_house_84 : decode cX9_house 84 = .ok (.getfield 19, 3) := by decide +kernel
theorem dX9_house_87 : decode cX9_house 87 = .ok (.iload_n 1, 1) := by decide +kernel
theorem dX9_house_88 : decode cX9_house 88 = .ok (.invokevirtual 130, 3) := by decide +kernel
theorem dX9_house_91 : decode cX9_house 91 = .ok (.ireturn, 1) := by decide +kernel
theorem dX9_house_92 : decode cX9_house 92 = .ok (.aload_n 0, 1) := by decide +kernel
theorem dX9_house_93 : decode cX9_house 93 = .ok (.getfield 19, 3) := by decide +kernel
theorem dX9_house_96 : decode cX9_house 96 = .ok (.iload_n 1, 1) := by decide +kernel
theorem dX9_house_97 : decode cX9_house 97 = .ok (.invokevirtual 133, 3) := by decide +kernel
theorem dX9_house_100 : decode cX9_house 100 = .ok (.ifCond .eq 7, 3) := by decide +kernel
theorem dX9_house_103 : decode cX9_house 103 = .ok (.iconst 1, 1) := by decide +kernel
theorem dX9_house_104 : decode cX9_house 104 = .ok (.goto 4, 3) := by decide +kernel
theorem dX9_house_107 : decode cX9_house 107 = .ok (.iconst 0, 1) := by decide +kernel
theorem dX9_house_108 : decode cX9_house 108 = .ok (.ireturn, 1) := by decide +kernel
theorem dX9_house_109 : decode cX9_house 109 = .ok (.aload_n 0, 1) := by decide +kernel
theorem dX9_house_110 : decode cX9_house 110 = .ok (.getfield 19, 3) := by decide +kernel
theorem dX9_house_113 : decode cX9_house 113 = .ok (.iload_n 1, 1) := by decide +kernel
theorem dX9_house_114 : decode cX9_house 114 = .ok (.invokevirtual 137, 3) := by decide +kernel
theorem dX9_house_117 : decode cX9_house 117 = .ok (.ireturn, 1) := by decide +kernel
theorem dX9_house_118 : decode cX9_house 118 = .ok (.aload_n 0, 1) := by decide +kernel
theorem dX9_house_119 : decode cX9_house 119 = .ok (.getfield 19, 3) := by decide +kernel
theorem dX9_house_122 : decode cX9_house 122 = .ok (.iload_n 1, 1) := by decide +kernel
theorem dX9_house_123 : decode cX9_house 123 = .ok (.invokevirtual 140, 3) := by decide +kernel
theorem dX9_house_126 : decode cX9_house 126 = .ok (.ireturn, 1) := by decide +kernel
theorem dX9_house_127 : decode cX9_house 127 = .ok (.bipush 100, 2) := by decide +kernel
theorem dX9_house_129 : decode cX9_house 129 = .ok (.aload_n 0, 1) := by decide +kernel
theorem dX9_house_130 : decode cX9_house 130 = .ok (.getfield 19, 3) := by decide +kernel
theorem dX9_house_133 : decode cX9_house 133 = .ok (.aload_n 0, 1) := by decide +kernel
theorem dX9_house_134 : decode cX9_house 134 = .ok (.getfield 32, 3) := by decide +kernel
theorem dX9_house_137 : decode cX9_house 137 = .ok (.iload_n 1, 1) := by decide +kernel
theorem dX9_house_138 : decode cX9_house 138 = .ok (.invokestatic 143, 3) := by decide +kernel
theorem dX9_house_141 : decode cX9_house 141 = .ok (.imul, 1) := by decide +kernel
theorem dX9_house_142 : decode cX9_house 142 = .ok (.sipush 576, 3) := by decide +kernel
theorem dX9_house_145 : decode cX9_house 145 = .ok (.idiv, 1) := by decide +kernel
theorem dX9_house_146 : decode cX9_house 146 = .ok (.ireturn, 1) := by decide +kernel
theorem dX9_house_147 : decode cX9_house 147 = .ok (.new 147, 3) := by decide +kernel
theorem dX9_house_150 : decode cX9_house 150 = .ok (.dup, 1) := by decide +kernel
theorem dX9_house_151 : decode cX9_house 151 = .ok (.ldc 149, 2) := by decide +kernel
theorem dX9_house_153 : decode cX9_house 153 = .ok (.invokespecial 151, 3) := by decide +kernel
theorem dX9_house_156 : decode cX9_house 156 = .ok (.athrow, 1) := by decide +kernel
noncomputable def fX9_house (V : VT) (x1 : Int32) (x2 : Int32) : Option ((String ⊕ Int32) × VT) := ob_N (fX9_needHouse V x1) (fun E2 => some (.inl E2, V)) (if x2 = (0 : Int32) then (ob_R (fX6_ofHouse V 2 x1 x2) fun y4 => some (.inr y4, V)) else if x2 = (1 : Int32) then (ob_R (fX6_leftEnd V 2 x1) fun y7 => some (.inr y7, V)) else if x2 = (2 : Int32) then (ob_R (fX6_rightEnd V 2 x1) fun y10 => some (.inr y10, V)) else if x2 = (3 : Int32) then (ob_R (fX6_ofHouse V 2 x1 x2) fun y13 => some (.inr y13, V)) else if x2 = (4 : Int32) then (ob_R (fX6_ofHouse V 2 x1 x2) fun y16 => some (.inr y16, V)) else if x2 = (5 : Int32) then (ob_R (fX6_ofHouse V 2 x1 x2) fun y19 => some (.inr y19, V)) else if x2 = (6 : Int32) then (ob_R (fX6_ofHouse V 2 x1 x2) fun y22 => some (.inr y22, V)) else if x2 = (7 : Int32) then (ob_R (fX6_isAway V 2 x1) fun y25 => if y25 = 0 then (some (.inr (0 : Int32), V)) else (some (.inr (1 : Int32), V))) else if x2 = (8 : Int32) then (ob_R (fX6_owed V 2 x1) fun y29 => some (.inr y29, V)) else if x2 = (9 : Int32) then (ob_R (fX6_lacking V 2 x1) fun y32 => some (.inr y32, V)) else if x2 = (10 : Int32) then (ob_I (fX5_sightsOf V 2 x1) fun y35 V36 => some (.inr (((100 : Int32) * y35) / (576 : Int32)), V36)) else (some (.inl "java/util/NoSuchElementException", V)))
set_option maxHeartbeats 4000000 in
set_option maxRecDepth 100000 in
theorem kX9_house {l : Launch} {G : GT} {Z : Nat → Nat × Nat} (ht : l.stackTraces = false) {V : VT} {x1 : Int32} {x2 : Int32} {r : ((String ⊕ Int32) × VT)} (h : fX9_house V x1 x2 = some r) : XI l G (SG Z) yX9_house (.code yX9_house cX9_house 3 (some .int)) 9 2 [.ref (G.2.2 0), .int x1, .int x2] V r.1 r.2 := by
  intro sz
  refine xmet_of (Qs := fun sz => XQ G sz r.1 r.2) (Xs := fun sz => XE G sz r.1 r.2) (SG_ok Z) (by decide) (Nat.le_of_ble_eq_true rfl) ?_ sz
  intro p e s m args below meth c ls E hnt hw hl
  have hx := en_x E
  have hb := en_b E
  have hB := en_B E
  generalize hQ : vx_MQ _ _ _ _ _ _ _ _ = Q
  have kr : Q = vx_MQ below (XQ G s.heap.size r.1 r.2) (XE G s.heap.size r.1 r.2) args s 2 12 (gA G s.heap.size) := hQ.symm
  have hl : lv_has ls 3 [(0, .ref (G.2.2 0)), (1, .int x1), (2, .int x2)] := hl
  obtain ⟨H, eH⟩ : ∃ H, H = s.heap := ⟨_, rfl⟩
  obtain ⟨locs, elocs⟩ : ∃ z : List Loc, z = [] := ⟨_, rfl⟩
  have hw : HW G s.heap V H locs := by rw [eH, elocs]; exact hw
  show W p l e _ s m args below meth c s.heap [] 0 0 Q (F0 m 0 ls [])
  rw [← eH, ← elocs]
  unfold fX9_house at h
  refine lv_aload_n hx hb dX9_house_0 rfl (lv_at hl 0 rfl) ?_
  refine lv_iload_n hx hb dX9_house_1 rfl (lv_at hl 1 rfl) ?_
  rcases ob_N_some h with ⟨E2, h1, h⟩ | ⟨h1, h⟩
  · have h := Option.some.inj h
    subst h
    rw [kr]
    exact x_VVe E hw (kX9_needHouse (l := l) (G := G) (Z := Z) ht h1) yy_X9_needHouse lm_RX9_119 rfl (by decide) rfl rfl hl.1 (by decide) (by decide) (by decide) rfl (Nat.le_of_ble_eq_true rfl) dX9_house_2 hnt (by decide)
  · refine x_VVn E hw (kX9_needHouse (l := l) (G := G) (Z := Z) ht h1) yy_X9_needHouse lm_RX9_119 rfl (by decide) rfl rfl hl.1 (by decide) (by decide) (by decide) rfl (Nat.le_of_ble_eq_true rfl) dX9_house_2 (fun H locs hw => ?_)
    refine lv_iload_n hx hb dX9_house_5 rfl (lv_at hl 2 rfl) ?_
    by_cases c5 : x2 = (0 : Int32)
    · rw [if_pos c5] at h
      refine lv_tableIn (tgt := 64) hx hb dX9_house_6 (by rw [c5]; decide) (by rw [c5]; decide) (by rw [c5]; rfl) (by decide) ?_
      refine lv_aload_n hx hb dX9_house_64 rfl (lv_at hl 0 rfl) ?_
      refine r_gr E hw 0 1 2 (N := 11) (C := RX9) (T := TX9) (by decide) rfl rfl (by decide) rfl iw_9 rfl lf_RX9_19 dX9_house_65 ?_
      refine lv_iload_n hx hb dX9_house_68 rfl (lv_at hl 1 rfl) ?_
      refine lv_iload_n hx hb dX9_house_69 rfl (lv_at hl 2 rfl) ?_
      obtain ⟨y4, h3, h⟩ := ob_R_some h
      refine g_VI E hw (kX6_ofHouse (l := l) (G := G) hB ⟨by decide, by decide⟩ h3) yy_X6_ofHouse lm_RX9_122 rfl (by decide) rfl rfl hl.1 (by decide) (by decide) (by decide) rfl (Nat.le_of_ble_eq_true rfl) dX9_house_70 (fun H locs hw => ?_)
      have h := Option.some.inj h
      subst h
      rw [kr]
      exact x_ri E hw (by decide) (by decide) dX9_house_73
    · rw [if_neg c5] at h
      by_cases c8 : x2 = (1 : Int32)
      · rw [if_pos c8] at h
        refine lv_tableIn (tgt := 74) hx hb dX9_house_6 (by rw [c8]; decide) (by rw [c8]; decide) (by rw [c8]; rfl) (by decide) ?_
        refine lv_aload_n hx hb dX9_house_74 rfl (lv_at hl 0 rfl) ?_
        refine r_gr E hw 0 1 2 (N := 11) (C := RX9) (T := TX9) (by decide) rfl rfl (by decide) rfl iw_9 rfl lf_RX9_19 dX9_house_75 ?_
        refine lv_iload_n hx hb dX9_house_78 rfl (lv_at hl 1 rfl) ?_
        obtain ⟨y7, h6, h⟩ := ob_R_some h
        refine g_VI E hw (kX6_leftEnd (l := l) (G := G) hB ⟨by decide, by decide⟩ h6) yy_X6_leftEnd lm_RX9_126 rfl (by decide) rfl rfl hl.1 (by decide) (by decide) (by decide) rfl (Nat.le_of_ble_eq_true rfl) dX9_house_79 (fun H locs hw => ?_)
        have h := Option.some.inj h
        subst h
        rw [kr]
        exact x_ri E hw (by decide) (by decide) dX9_house_82
      · rw [if_neg c8] at h
        by_cases c11 : x2 = (2 : Int32)
        · rw [if_pos c11] at h
          refine lv_tableIn (tgt := 83) hx hb dX9_house_6 (by rw [c11]; decide) (by rw [c11]; decide) (by rw [c11]; rfl) (by decide) ?_
          refine lv_aload_n hx hb dX9_house_83 rfl (lv_at hl 0 rfl) ?_
          refine r_gr E hw 0 1 2 (N := 11) (C := RX9) (T := TX9) (by decide) rfl rfl (by decide) rfl iw_9 rfl lf_RX9_19 dX9_house_84 ?_
          refine lv_iload_n hx hb dX9_house_87 rfl (lv_at hl 1 rfl) ?_
          obtain ⟨y10, h9, h⟩ := ob_R_some h
          refine g_VI E hw (kX6_rightEnd (l := l) (G := G) hB ⟨by decide, by decide⟩ h9) yy_X6_rightEnd lm_RX9_130 rfl (by decide) rfl rfl hl.1 (by decide) (by decide) (by decide) rfl (Nat.le_of_ble_eq_true rfl) dX9_house_88 (fun H locs hw => ?_)
          have h := Option.some.inj h
          subst h
          rw [kr]
          exact x_ri E hw (by decide) (by decide) dX9_house_91
        · rw [if_neg c11] at h
          by_cases c14 : x2 = (3 : Int32)
          · rw [if_pos c14] at h
            refine lv_tableIn (tgt := 64) hx hb dX9_house_6 (by rw [c14]; decide) (by rw [c14]; decide) (by rw [c14]; rfl) (by decide) ?_
            refine lv_aload_n hx hb dX9_house_64 rfl (lv_at hl 0 rfl) ?_
            refine r_gr E hw 0 1 2 (N := 11) (C := RX9) (T := TX9) (by decide) rfl rfl (by decide) rfl iw_9 rfl lf_RX9_19 dX9_house_65 ?_
            refine lv_iload_n hx hb dX9_house_68 rfl (lv_at hl 1 rfl) ?_
            refine lv_iload_n hx hb dX9_house_69 rfl (lv_at hl 2 rfl) ?_
            obtain ⟨y13, h12, h⟩ := ob_R_some h
            refine g_VI E hw (kX6_ofHouse (l := l) (G := G) hB ⟨by decide, by decide⟩ h12) yy_X6_ofHouse lm_RX9_122 rfl (by decide) rfl rfl hl.1 (by decide) (by decide) (by decide) rfl (Nat.le_of_ble_eq_true rfl) dX9_house_70 (fun H locs hw => ?_)
            have h := Option.some.inj h
            subst h
            rw [kr]
            exact x_ri E hw (by decide) (by decide) dX9_house_73
          · rw [if_neg c14] at h
            by_cases c17 : x2 = (4 : Int32)
            · rw [if_pos c17] at h
              refine lv_tableIn (tgt := 64) hx hb dX9_house_6 (by rw [c17]; decide) (by rw [c17]; decide) (by rw [c17]; rfl) (by decide) ?_
              refine lv_aload_n hx hb dX9_house_64 rfl (lv_at hl 0 rfl) ?_
              refine r_gr E hw 0 1 2 (N := 11) (C := RX9) (T := TX9) (by decide) rfl rfl (by decide) rfl iw_9 rfl lf_RX9_19 dX9_house_65 ?_
              refine lv_iload_n hx hb dX9_house_68 rfl (lv_at hl 1 rfl) ?_
              refine lv_iload_n hx hb dX9_house_69 rfl (lv_at hl 2 rfl) ?_
              obtain ⟨y16, h15, h⟩ := ob_R_some h
              refine g_VI E hw (kX6_ofHouse (l := l) (G := G) hB ⟨by decide, by decide⟩ h15) yy_X6_ofHouse lm_RX9_122 rfl (by decide) rfl rfl hl.1 (by decide) (by decide) (by decide) rfl (Nat.le_of_ble_eq_true rfl) dX9_house_70 (fun H locs hw => ?_)
              have h := Option.some.inj h
              subst h
              rw [kr]
              exact x_ri E hw (by decide) (by decide) dX9_house_73
            · rw [if_neg c17] at h
              by_cases c20 : x2 = (5 : Int32)
              · rw [if_pos c20] at h
                refine lv_tableIn (tgt := 64) hx hb dX9_house_6 (by rw [c20]; decide) (by rw [c20]; decide) (by rw [c20]; rfl) (by decide) ?_
                refine lv_aload_n hx hb dX9_house_64 rfl (lv_at hl 0 rfl) ?_
                refine r_gr E hw 0 1 2 (N := 11) (C := RX9) (T := TX9) (by decide) rfl rfl (by decide) rfl iw_9 rfl lf_RX9_19 dX9_house_65 ?_
                refine lv_iload_n hx hb dX9_house_68 rfl (lv_at hl 1 rfl) ?_
                refine lv_iload_n hx hb dX9_house_69 rfl (lv_at hl 2 rfl) ?_
                obtain ⟨y19, h18, h⟩ := ob_R_some h
                refine g_VI E hw (kX6_ofHouse (l := l) (G := G) hB ⟨by decide, by decide⟩ h18) yy_X6_ofHouse lm_RX9_122 rfl (by decide) rfl rfl hl.1 (by decide) (by decide) (by decide) rfl (Nat.le_of_ble_eq_true rfl) dX9_house_70 (fun H locs hw => ?_)
                have h := Option.some.inj h
                subst h
                rw [kr]
                exact x_ri E hw (by decide) (by decide) dX9_house_73
              · rw [if_neg c20] at h
                by_cases c23 : x2 = (6 : Int32)
                · rw [if_pos c23] at h
                  refine lv_tableIn (tgt := 64) hx hb dX9_house_6 (by rw [c23]; decide) (by rw [c23]; decide) (by rw [c23]; rfl) (by decide) ?_
                  refine lv_aload_n hx hb dX9_house_64 rfl (lv_at hl 0 rfl) ?_
                  refine r_gr E hw 0 1 2 (N := 11) (C := RX9) (T := TX9) (by decide) rfl rfl (by decide) rfl iw_9 rfl lf_RX9_19 dX9_house_65 ?_
                  refine lv_iload_n hx hb dX9_house_68 rfl (lv_at hl 1 rfl) ?_
                  refine lv_iload_n hx hb dX9_house_69 rfl (lv_at hl 2 rfl) ?_
                  obtain ⟨y22, h21, h⟩ := ob_R_some h
                  refine g_VI E hw (kX6_ofHouse (l := l) (G := G) hB ⟨by decide, by decide⟩ h21) yy_X6_ofHouse lm_RX9_122 rfl (by decide) rfl rfl hl.1 (by decide) (by decide) (by decide) rfl (Nat.le_of_ble_eq_true rfl) dX9_house_70 (fun H locs hw => ?_)
                  have h := Option.some.inj h
                  subst h
                  rw [kr]
                  exact x_ri E hw (by decide) (by decide) dX9_house_73
                · rw [if_neg c23] at h
                  by_cases c27 : x2 = (7 : Int32)
                  · rw [if_pos c27] at h
                    refine lv_tableIn (tgt := 92) hx hb dX9_house_6 (by rw [c27]; decide) (by rw [c27]; decide) (by rw [c27]; rfl) (by decide) ?_
                    refine lv_aload_n hx hb dX9_house_92 rfl (lv_at hl 0 rfl) ?_
                    refine r_gr E hw 0 1 2 (N := 11) (C := RX9) (T := TX9) (by decide) rfl rfl (by decide) rfl iw_9 rfl lf_RX9_19 dX9_house_93 ?_
                    refine lv_iload_n hx hb dX9_house_96 rfl (lv_at hl 1 rfl) ?_
                    obtain ⟨y25, h24, h⟩ := ob_R_some h
                    refine g_VI E hw (kX6_isAway (l := l) (G := G) hB ⟨by decide, by decide⟩ h24) yy_X6_isAway lm_RX9_133 rfl (by decide) rfl rfl hl.1 (by decide) (by decide) (by decide) rfl (Nat.le_of_ble_eq_true rfl) dX9_house_97 (fun H locs hw => ?_)
                    refine lv_if_eq (tgt := 107) hx hb dX9_house_100 (by decide) (fun c26 => ?_) (fun c26 => ?_)
                    · rw [if_pos c26] at h
                      refine lv_iconst (v := (0 : Int32)) hx hb dX9_house_107 (by decide) ?_
                      have h := Option.some.inj h
                      subst h
                      rw [kr]
                      exact x_ri E hw (by decide) (by decide) dX9_house_108
                    · rw [if_neg c26] at h
                      refine lv_iconst (v := (1 : Int32)) hx hb dX9_house_103 (by decide) ?_
                      refine lv_goto (tgt := 108) hx hb dX9_house_104 (by decide) ?_
                      have h := Option.some.inj h
                      subst h
                      rw [kr]
                      exact x_ri E hw (by decide) (by decide) dX9_house_108
                  · rw [if_neg c27] at h
                    by_cases c30 : x2 = (8 : Int32)
                    · rw [if_pos c30] at h
                      refine lv_tableIn (tgt := 109) hx hb dX9_house_6 (by rw [c30]; decide) (by rw [c30]; decide) (by rw [c30]; rfl) (by decide) ?_
                      refine lv_aload_n hx hb dX9_house_109 rfl (lv_at hl 0 rfl) ?_
                      refine r_gr E hw 0 1 2 (N := 11) (C := RX9) (T := TX9) (by decide) rfl rfl (by decide) rfl iw_9 rfl lf_RX9_19 dX9_house_110 ?_
                      refine lv_iload_n hx hb dX9_house_113 rfl (lv_at hl 1 rfl) ?_
                      obtain ⟨y29, h28, h⟩ := ob_R_some h
                      refine g_VI E hw (kX6_owed (l := l) (G := G) hB ⟨by decide, by decide⟩ h28) yy_X6_owed lm_RX9_137 rfl (by decide) rfl rfl hl.1 (by decide) (by decide) (by decide) rfl (Nat.le_of_ble_eq_true rfl) dX9_house_114 (fun H locs hw => ?_)
                      have h := Option.some.inj h
                      subst h
                      rw [kr]
                      exact x_ri E hw (by decide) (by decide) dX9_house_117
                    · rw [if_neg c30] at h
                      by_cases c33 : x2 = (9 : Int32)
                      · rw [if_pos c33] at h
                        refine lv_tableIn (tgt := 118) hx hb dX9_house_6 (by rw [c33]; decide) (by rw [c33]; decide) (by rw [c33]; rfl) (by decide) ?_
                        refine lv_aload_n hx hb dX9_house_118 rfl (lv_at hl 0 rfl) ?_
                        refine r_gr E hw 0 1 2 (N := 11) (C := RX9) (T := TX9) (by decide) rfl rfl (by decide) rfl iw_9 rfl lf_RX9_19 dX9_house_119 ?_
                        refine lv_iload_n hx hb dX9_house_122 rfl (lv_at hl 1 rfl) ?_
                        obtain ⟨y32, h31, h⟩ := ob_R_some h
                        refine g_VI E hw (kX6_lacking (l := l) (G := G) hB ⟨by decide, by decide⟩ h31) yy_X6_lacking lm_RX9_140 rfl (by decide) rfl rfl hl.1 (by decide) (by decide) (by decide) rfl (Nat.le_of_ble_eq_true rfl) dX9_house_123 (fun H locs hw => ?_)
                        have h := Option.some.inj h
                        subst h
                        rw [kr]
                        exact x_ri E hw (by decide) (by decide) dX9_house_126
                      · rw [if_neg c33] at h
                        by_cases c37 : x2 = (10 : Int32)
                        · rw [if_pos c37] at h
                          refine lv_tableIn (tgt := 127) hx hb dX9_house_6 (by rw [c37]; decide) (by rw [c37]; decide) (by rw [c37]; rfl) (by decide) ?_
                          refine lv_bipush (v := (100 : Int32)) hx hb dX9_house_127 (by decide) ?_
                          refine lv_aload_n hx hb dX9_house_129 rfl (lv_at hl 0 rfl) ?_
                          refine r_gr E hw 0 1 2 (N := 11) (C := RX9) (T := TX9) (by decide) rfl rfl (by decide) rfl iw_9 rfl lf_RX9_19 dX9_house_130 ?_
                          refine lv_aload_n hx hb dX9_house_133 rfl (lv_at hl 0 rfl) ?_
                          refine r_gr E hw 0 4 17 (N := 11) (C := RX9) (T := TX9) (by decide) rfl rfl (by decide) rfl iw_9 rfl lf_RX9_32 dX9_house_134 ?_
                          refine lv_iload_n hx hb dX9_house_137 rfl (lv_at hl 1 rfl) ?_
                          obtain ⟨y35, V36, h34, h⟩ := ob_I_some h
                          refine g_SI E hw (kX5_sightsOf (l := l) (G := G) hB ⟨by decide, by decide⟩ h34) yy_X5_sightsOf lm_RX9_143 rfl hl.1 (by decide) (by decide) (by decide) rfl (Nat.le_of_ble_eq_true rfl) dX9_house_138 (fun H locs hw => ?_)
                          refine lv_imul hx hb dX9_house_141 ?_
                          refine lv_sipush (v := (576 : Int32)) hx hb dX9_house_142 (by decide) ?_
                          refine lv_idiv hx hb dX9_house_145 (by decide) ?_
                          have h := Option.some.inj h
                          subst h
                          rw [kr]
                          exact x_ri E hw (by decide) (by decide) dX9_house_146
                        · rw [if_neg c37] at h
                          have nc5 := lv_neT (a := 0) c5 (by decide)
                          have nc8 := lv_neT (a := 1) c8 (by decide)
                          have nc11 := lv_neT (a := 2) c11 (by decide)
                          have nc14 := lv_neT (a := 3) c14 (by decide)
                          have nc17 := lv_neT (a := 4) c17 (by decide)
                          have nc20 := lv_neT (a := 5) c20 (by decide)
                          have nc23 := lv_neT (a := 6) c23 (by decide)
                          have nc27 := lv_neT (a := 7) c27 (by decide)
                          have nc30 := lv_neT (a := 8) c30 (by decide)
                          have nc33 := lv_neT (a := 9) c33 (by decide)
                          have nc37 := lv_neT (a := 10) c37 (by decide)
                          refine lv_tableOut (tgt := 147) hx hb dX9_house_6 (by omega) (by decide) ?_
                          have h := Option.some.inj h
                          subst h
                          rw [kr]
                          exact x_thN (w := 3) (cls := "java/util/NoSuchElementException") E hw ht (by decide) rfl rfl rfl tw1_147 tw2_147 tw3_147 tw4_147 tw6_147 hl.1 dX9_house_147 dX9_house_150 (Or.inl ⟨dX9_house_151, dX9_house_153, dX9_house_156⟩) hnt (by decide) (by decide) (Nat.le_of_ble_eq_true rfl) (by decide)
/-! ===== AllSawIt.deed(II)I ===== -/
theorem dX9_deed_0 : decode cX9_deed 0 = .ok (.aload_n 0, 1) := by decide +kernel
theorem dX9_deed_1 : decode cX9_deed 1 = .ok (.iload_n 1, 1) := by decide +kernel
theorem dX9_deed_2 : decode cX9_deed 2 = .ok (.invokevirtual 152, 3) := by decide +kernel
theorem dX9_deed_5 : decode cX9_deed 5 = .ok (.iload_n 2, 1) := by decide +kernel
theorem dX9_deed_6 : decode cX9_deed 6 = .ok (.tableswitch 104 0 8 #[50, 50, 50, 50, 50, 60, 77, 86, 95], 50) := by decide +kernel
theorem dX9_deed_56 : decode cX9_deed 56 = .ok (.aload_n 0, 1) := by decide +kernel
theorem dX9_deed_57 : decode cX9_deed 57 = .ok (.getfield 19, 3) := by decide +kernel
theorem dX9_deed_60 : decode cX9_deed 60 = .ok (.iload_n 1, 1) := by decide +kernel
theorem dX9_deed_61 : decode cX9_deed 61 = .ok (.iload_n 2, 1) := by decide +kernel
theorem dX9_deed_62 : decode cX9_deed 62 = .ok (.invokevirtual 155, 3) := by decide +kernel
theorem dX9_deed_65 : decode cX9_deed 65 = .ok (.ireturn, 1) := by decide +kernel
theorem dX9_deed_66 : decode cX9_deed 66 = .ok (.aload_n 0, 1) := by decide +kernel
theorem dX9_deed_67 : decode cX9_deed 67 = .ok (.getfield 19, 3) := by decide +kernel
theorem dX9_deed_70 : decode cX9_deed 70 = .ok (.iload_n 1, 1) := by decide +kernel
theorem dX9_deed_71 : decode cX9_deed 71 = .ok (.invokevirtual 158, 3) := by decide +kernel
theorem dX9_deed_74 : decode cX9_deed 74 = .ok (.ifCond .eq 7, 3) := by decide +kernel
theorem dX9_deed_77 : decode cX9_deed 77 = .ok (.iconst 1, 1) := by decide +kernel
theorem dX9_deed_78 : decode cX9_deed 78 = .ok (.goto 4, 3) := by decide +kernel
theorem dX9_deed_81 : decode cX9_deed 81 = .ok (.iconst 0, 1) := by decide +kernel
theorem dX9_deed_82 : decode cX9_deed 82 = .ok (.ireturn, 1) := by decide +kernel
theorem dX9_deed_83 : decode cX9_deed 83 = .ok (.aload_n 0, 1) := by decide +kernel
theorem dX9_deed_84 : decode cX9_deed 84 = .ok (.getfield 19, 3) := by decide +kernel
theorem dX9_deed_87 : decode cX9_deed 87 = .ok (.iload_n 1, 1) := by decide +kernel
theorem dX9_deed_88 : decode cX9_deed 88 = .ok (.invokevirtual 161, 3) := by decide +kernel
theorem dX9_deed_91 : decode cX9_deed 91 = .ok (.ireturn, 1) := by decide +kernel
theorem dX9_deed_92 : decode cX9_deed 92 = .ok (.aload_n 0, 1) := by decide +kernel
theorem dX9_deed_93 : decode cX9_deed 93 = .ok (.getfield 19, 3) := by decide +kernel
theorem dX9_deed_96 : decode cX9_deed 96 = .ok (.iload_n 1, 1) := by decide +kernel
theorem dX9_deed_97 : decode cX9_deed 97 = .ok (.invokevirtual 164, 3) := by decide +kernel
theorem dX9_deed_100 : decode cX9_deed 100 = .ok (.ireturn, 1) := by decide +kernel
theorem dX9_deed_101 : decode cX9_deed 101 = .ok (.aload_n 0, 1) := by decide +kernel
theorem dX9_deed_102 : decode cX9_deed 102 = .ok (.getfield 19, 3) := by decide +kernel
theorem dX9_deed_105 : decode cX9_deed 105 = .ok (.iload_n 1, 1) := by decide +kernel
theorem dX9_deed_106 : decode cX9_deed 106 = .ok (.invokevirtual 167, 3) := by decide +kernel
theorem dX9_deed_109 : decode cX9_deed 109 = .ok (.ireturn, 1) := by decide +kernel
theorem dX9_deed_110 : decode cX9_deed 110 = .ok (.new 147, 3) := by decide +kernel
theorem dX9_deed_113 : decode cX9_deed 113 = .ok (.dup, 1) := by decide +kernel
theorem dX9_deed_114 : decode cX9_deed 114 = .ok (.ldc 170, 2) := by decide +kernel
theorem dX9_deed_116 : decode cX9_deed 116 = .ok (.invokespecial 151, 3) := by decide +kernel
theorem dX9_deed_119 : decode cX9_deed 119 = .ok (.athrow, 1) := by decide +kernel
noncomputable def fX9_deed (V : VT) (x1 : Int32) (x2 : Int32) : Option ((String ⊕ Int32) × VT) := ob_N (fX9_needDeed V x1) (fun E2 => some (.inl E2, V)) (if x2 = (0 : Int32) then (ob_R (fX6_ofDeed V 2 x1 x2) fun y4 => some (.inr y4, V)) else if x2 = (1 : Int32) then (ob_R (fX6_ofDeed V 2 x1 x2) fun y7 => some (.inr y7, V)) else if x2 = (2 : Int32) then (ob_R (fX6_ofDeed V 2 x1 x2) fun y10 => some (.inr y10, V)) else if x2 = (3 : Int32) then (ob_R (fX6_ofDeed V 2 x1 x2) fun y13 => some (.inr y13, V)) else if x2 = (4 : Int32) then (ob_R (fX6_ofDeed V 2 x1 x2) fun y16 => some (.inr y16, V)) else if x2 = (5 : Int32) then (ob_R (fX6_isSo V 2 x1) fun y19 => if y19 = 0 then (some (.inr (0 : Int32), V)) else (some (.inr (1 : Int32), V))) else if x2 = (6 : Int32) then (ob_R (fX6_hanging V 2 x1) fun y23 => some (.inr y23, V)) else if x2 = (7 : Int32) then (ob_R (fX6_chain V 2 x1) fun y26 => some (.inr y26, V)) else if x2 = (8 : Int32) then (ob_R (fX6_bribe V 2 x1) fun y29 => some (.inr y29, V)) else (some (.inl "java/util/NoSuchElementException", V)))
set_option maxHeartbeats 4000000 in
set_option maxRecDepth 100000 in
theorem kX9_deed {l : Launch} {G : GT} {Z : Nat → Nat × Nat} (ht : l.stackTraces = false) {V : VT} {x1 : Int32} {x2 : Int32} {r : ((String ⊕ Int32) × VT)} (h : fX9_deed V x1 x2 = some r) : XI l G (SG Z) yX9_deed (.code yX9_deed cX9_deed 3 (some .int)) 9 2 [.ref (G.2.2 0), .int x1, .int x2] V r.1 r.2 := by
  intro sz
  refine xmet_of (Qs := fun sz => XQ G sz r.1 r.2) (Xs := fun sz => XE G sz r.1 r.2) (SG_ok Z) (by decide) (Nat.le_of_ble_eq_true rfl) ?_ sz
  intro p e s m args below meth c ls E hnt hw hl
  have hx := en_x E
  have hb := en_b E
  have hB := en_B E
  generalize hQ : vx_MQ _ _ _ _ _ _ _ _ = Q
  have kr : Q = vx_MQ below (XQ G s.heap.size r.1 r.2) (XE G s.heap.size r.1 r.2) args s 2 12 (gA G s.heap.size) := hQ.symm
  have hl : lv_has ls 3 [(0, .ref (G.2.2 0)), (1, .int x1), (2, .int x2)] := hl
  obtain ⟨H, eH⟩ : ∃ H, H = s.heap := ⟨_, rfl⟩
  obtain ⟨locs, elocs⟩ : ∃ z : List Loc, z = [] := ⟨_, rfl⟩
  have hw : HW G s.heap V H locs := by rw [eH, elocs]; exact hw
  show W p l e _ s m args below meth c s.heap [] 0 0 Q (F0 m 0 ls [])
  rw [← eH, ← elocs]
  unfold fX9_deed at h
  refine lv_aload_n hx hb dX9_deed_0 rfl (lv_at hl 0 rfl) ?_
  refine lv_iload_n hx hb dX9_deed_1 rfl (lv_at hl 1 rfl) ?_
  rcases ob_N_some h with ⟨E2, h1, h⟩ | ⟨h1, h⟩
  · have h := Option.some.inj h
    subst h
    rw [kr]
    exact x_VVe E hw (kX9_needDeed (l := l) (G := G) (Z := Z) ht h1) yy_X9_needDeed lm_RX9_152 rfl (by decide) rfl rfl hl.1 (by decide) (by decide) (by decide) rfl (Nat.le_of_ble_eq_true rfl) dX9_deed_2 hnt (by decide)
  · refine x_VVn E hw (kX9_needDeed (l := l) (G := G) (Z := Z) ht h1) yy_X9_needDeed lm_RX9_152 rfl (by decide) rfl rfl hl.1 (by decide) (by decide) (by decide) rfl (Nat.le_of_ble_eq_true rfl) dX9_deed_2 (fun H locs hw => ?_)
    refine lv_iload_n hx hb dX9_deed_5 rfl (lv_at hl 2 rfl) ?_
    by_cases c5 : x2 = (0 : Int32)
    · rw [if_pos c5] at h
      refine lv_tableIn (tgt := 56) hx hb dX9_deed_6 (by rw [c5]; decide) (by rw [c5]; decide) (by rw [c5]; rfl) (by decide) ?_
      refine lv_aload_n hx hb dX9_deed_56 rfl (lv_at hl 0 rfl) ?_
      refine r_gr E hw 0 1 2 (N := 11) (C := RX9) (T := TX9) (by decide) rfl rfl (by decide) rfl iw_9 rfl lf_RX9_19 dX9_deed_57 ?_
      refine lv_iload_n hx hb dX9_deed_60 rfl (lv_at hl 1 rfl) ?_
      refine lv_iload_n hx hb dX9_deed_61 rfl (lv_at hl 2 rfl) ?_
      obtain ⟨y4, h3, h⟩ := ob_R_some h
      refine g_VI E hw (kX6_ofDeed (l := l) (G := G) hB ⟨by decide, by decide⟩ h3) yy_X6_ofDeed lm_RX9_155 rfl (by decide) rfl rfl hl.1 (by decide) (by decide) (by decide) rfl (Nat.le_of_ble_eq_true rfl) dX9_deed_62 (fun H locs hw => ?_)
      have h := Option.some.inj h
      subst h
      rw [kr]
      exact x_ri E hw (by decide) (by decide) dX9_deed_65
    · rw [if_neg c5] at h
      by_cases c8 : x2 = (1 : Int32)
      · rw [if_pos c8] at h
        refine lv_tableIn (tgt := 56) hx hb dX9_deed_6 (by rw [c8]; decide) (by rw [c8]; decide) (by rw [c8]; rfl) (by decide) ?_
        refine lv_aload_n hx hb dX9_deed_56 rfl (lv_at hl 0 rfl) ?_
        refine r_gr E hw 0 1 2 (N := 11) (C := RX9) (T := TX9) (by decide) rfl rfl (by decide) rfl iw_9 rfl lf_RX9_19 dX9_deed_57 ?_
        refine lv_iload_n hx hb dX9_deed_60 rfl (lv_at hl 1 rfl) ?_
        refine lv_iload_n hx hb dX9_deed_61 rfl (lv_at hl 2 rfl) ?_
        obtain ⟨y7, h6, h⟩ := ob_R_some h
        refine g_VI E hw (kX6_ofDeed (l := l) (G := G) hB ⟨by decide, by decide⟩ h6) yy_X6_ofDeed lm_RX9_155 rfl (by decide) rfl rfl hl.1 (by decide) (by decide) (by decide) rfl (Nat.le_of_ble_eq_true rfl) dX9_deed_62 (fun H locs hw => ?_)
        have h := Option.some.inj h
        subst h
        rw [kr]
        exact x_ri E hw (by decide) (by decide) dX9_deed_65
      · rw [if_neg c8] at h
        by_cases c11 : x2 = (2 : Int32)
        · rw [if_pos c11] at h
          refine lv_tableIn (tgt := 56) hx hb dX9_deed_6 (by rw [c11]; decide) (by rw [c11]; decide) (by rw [c11]; rfl) (by decide) ?_
          refine lv_aload_n hx hb dX9_deed_56 rfl (lv_at hl 0 rfl) ?_
          refine r_gr E hw 0 1 2 (N := 11) (C := RX9) (T := TX9) (by decide) rfl rfl (by decide) rfl iw_9 rfl lf_RX9_19 dX9_deed_57 ?_
          refine lv_iload_n hx hb dX9_deed_60 rfl (lv_at hl 1 rfl) ?_
          refine lv_iload_n hx hb dX9_deed_61 rfl (lv_at hl 2 rfl) ?_
          obtain ⟨y10, h9, h⟩ := ob_R_some h
          refine g_VI E hw (kX6_ofDeed (l := l) (G := G) hB ⟨by decide, by decide⟩ h9) yy_X6_ofDeed lm_RX9_155 rfl (by decide) rfl rfl hl.1 (by decide) (by decide) (by decide) rfl (Nat.le_of_ble_eq_true rfl) dX9_deed_62 (fun H locs hw => ?_)
          have h := Option.some.inj h
          subst h
          rw [kr]
          exact x_ri E hw (by decide) (by decide) dX9_deed_65
        · rw [if_neg c11] at h
          by_cases c14 : x2 = (3 : Int32)
          · rw [if_pos c14] at h
            refine lv_tableIn (tgt := 56) hx hb dX9_deed_6 (by rw [c14]; decide) (by rw [c14]; decide) (by rw [c14]; rfl) (by decide) ?_
            refine lv_aload_n hx hb dX9_deed_56 rfl (lv_at hl 0 rfl) ?_
            refine r_gr E hw 0 1 2 (N := 11) (C := RX9) (T := TX9) (by decide) rfl rfl (by decide) rfl iw_9 rfl lf_RX9_19 dX9_deed_57 ?_
            refine lv_iload_n hx hb dX9_deed_60 rfl (lv_at hl 1 rfl) ?_
            refine lv_iload_n hx hb dX9_deed_61 rfl (lv_at hl 2 rfl) ?_
            obtain ⟨y13, h12, h⟩ := ob_R_some h
            refine g_VI E hw (kX6_ofDeed (l := l) (G := G) hB ⟨by decide, by decide⟩ h12) yy_X6_ofDeed lm_RX9_155 rfl (by decide) rfl rfl hl.1 (by decide) (by decide) (by decide) rfl (Nat.le_of_ble_eq_true rfl) dX9_deed_62 (fun H locs hw => ?_)
            have h := Option.some.inj h
            subst h
            rw [kr]
            exact x_ri E hw (by decide) (by decide) dX9_deed_65
          · rw [if_neg c14] at h
            by_cases c17 : x2 = (4 : Int32)
            · rw [if_pos c17] at h
              refine lv_tableIn (tgt := 56) hx hb dX9_deed_6 (by rw [c17]; decide) (by rw [c17]; decide) (by rw [c17]; rfl) (by decide) ?_
              refine lv_aload_n hx hb dX9_deed_56 rfl (lv_at hl 0 rfl) ?_
              refine r_gr E hw 0 1 2 (N := 11) (C := RX9) (T := TX9) (by decide) rfl rfl (by decide) rfl iw_9 rfl lf_RX9_19 dX9_deed_57 ?_
              refine lv_iload_n hx hb dX9_deed_60 rfl (lv_at hl 1 rfl) ?_
              refine lv_iload_n hx hb dX9_deed_61 rfl (lv_at hl 2 rfl) ?_
              obtain ⟨y16, h15, h⟩ := ob_R_some h
              refine g_VI E hw (kX6_ofDeed (l := l) (G := G) hB ⟨by decide, by decide⟩ h15) yy_X6_ofDeed lm_RX9_155 rfl (by decide) rfl rfl hl.1 (by decide) (by decide) (by decide) rfl (Nat.le_of_ble_eq_true rfl) dX9_deed_62 (fun H locs hw => ?_)
              have h := Option.some.inj h
              subst h
              rw [kr]
              exact x_ri E hw (by decide) (by decide) dX9_deed_65
            · rw [if_neg c17] at h
              by_cases c21 : x2 = (5 : Int32)
              · rw [if_pos c21] at h
                refine lv_tableIn (tgt := 66) hx hb dX9_deed_6 (by rw [c21]; decide) (by rw [c21]; decide) (by rw [c21]; rfl) (by decide) ?_
                refine lv_aload_n hx hb dX9_deed_66 rfl (lv_at hl 0 rfl) ?_
                refine r_gr E hw 0 1 2 (N := 11) (C := RX9) (T := TX9) (by decide) rfl rfl (by decide) rfl iw_9 rfl lf_RX9_19 dX9_deed_67 ?_
                refine lv_iload_n hx hb dX9_deed_70 rfl (lv_at hl 1 rfl) ?_
                obtain ⟨y19, h18, h⟩ := ob_R_some h
                refine g_VI E hw (kX6_isSo (l := l) (G := G) hB ⟨by decide, by decide⟩ h18) yy_X6_isSo lm_RX9_158 rfl (by decide) rfl rfl hl.1 (by decide) (by decide) (by decide) rfl (Nat.le_of_ble_eq_true rfl) dX9_deed_71 (fun H locs hw => ?_)
                refine lv_if_eq (tgt := 81) hx hb dX9_deed_74 (by decide) (fun c20 => ?_) (fun c20 => ?_)
                · rw [if_pos c20] at h
                  refine lv_iconst (v := (0 : Int32)) hx hb dX9_deed_81 (by decide) ?_
                  have h := Option.some.inj h
                  subst h
                  rw [kr]
                  exact x_ri E hw (by decide) (by decide) dX9_deed_82
                · rw [if_neg c20] at h
                  refine lv_iconst (v := (1 : Int32)) hx hb dX9_deed_77 (by decide) ?_
                  refine lv_goto (tgt := 82) hx hb dX9_deed_78 (by decide) ?_
                  have h := Option.some.inj h
                  subst h
                  rw [kr]
                  exact x_ri E hw (by decide) (by decide) dX9_deed_82
              · rw [if_neg c21] at h
                by_cases c24 : x2 = (6 : Int32)
                · rw [if_pos c24] at h
                  refine lv_tableIn (tgt := 83) hx hb dX9_deed_6 (by rw [c24]; decide) (by rw [c24]; decide) (by rw [c24]; rfl) (by decide) ?_
                  refine lv_aload_n hx hb dX9_deed_83 rfl (lv_at hl 0 rfl) ?_
                  refine r_gr E hw 0 1 2 (N := 11) (C := RX9) (T := TX9) (by decide) rfl rfl (by decide) rfl iw_9 rfl lf_RX9_19 dX9_deed_84 ?_
                  refine lv_iload_n hx hb dX9_deed_87 rfl (lv_at hl 1 rfl) ?_
                  obtain ⟨y23, h22, h⟩ := ob_R_some h
                  refine g_VI E hw (kX6_hanging (l := l) (G := G) hB ⟨by decide, by decide⟩ h22) yy_X6_hanging lm_RX9_161 rfl (by decide) rfl rfl hl.1 (by decide) (by decide) (by decide) rfl (Nat.le_of_ble_eq_true rfl) dX9_deed_88 (fun H locs hw => ?_)
                  have h := Option.some.inj h
                  subst h
                  rw [kr]
                  exact x_ri E hw (by decide) (by decide) dX9_deed_91
                · rw [if_neg c24] at h
                  by_cases c27 : x2 = (7 : Int32)
                  · rw [if_pos c27] at h
                    refine lv_tableIn (tgt := 92) hx hb dX9_deed_6 (by rw [c27]; decide) (by rw [c27]; decide) (by rw [c27]; rfl) (by decide) ?_
                    refine lv_aload_n hx hb dX9_deed_92 rfl (lv_at hl 0 rfl) ?_
                    refine r_gr E hw 0 1 2 (N := 11) (C := RX9) (T := TX9) (by decide) rfl rfl (by decide) rfl iw_9 rfl lf_RX9_19 dX9_deed_93 ?_
                    refine lv_iload_n hx hb dX9_deed_96 rfl (lv_at hl 1 rfl) ?_
                    obtain ⟨y26, h25, h⟩ := ob_R_some h
                    refine g_VI E hw (kX6_chain (l := l) (G := G) hB ⟨by decide, by decide⟩ h25) yy_X6_chain lm_RX9_164 rfl (by decide) rfl rfl hl.1 (by decide) (by decide) (by decide) rfl (Nat.le_of_ble_eq_true rfl) dX9_deed_97 (fun H locs hw => ?_)
                    have h := Option.some.inj h
                    subst h
                    rw [kr]
                    exact x_ri E hw (by decide) (by decide) dX9_deed_100
                  · rw [if_neg c27] at h
                    by_cases c30 : x2 = (8 : Int32)
                    · rw [if_pos c30] at h
                      refine lv_tableIn (tgt := 101) hx hb dX9_deed_6 (by rw [c30]; decide) (by rw [c30]; decide) (by rw [c30]; rfl) (by decide) ?_
                      refine lv_aload_n hx hb dX9_deed_101 rfl (lv_at hl 0 rfl) ?_
                      refine r_gr E hw 0 1 2 (N := 11) (C := RX9) (T := TX9) (by decide) rfl rfl (by decide) rfl iw_9 rfl lf_RX9_19 dX9_deed_102 ?_
                      refine lv_iload_n hx hb dX9_deed_105 rfl (lv_at hl 1 rfl) ?_
                      obtain ⟨y29, h28, h⟩ := ob_R_some h
                      refine g_VI E hw (kX6_bribe (l := l) (G := G) hB ⟨by decide, by decide⟩ h28) yy_X6_bribe lm_RX9_167 rfl (by decide) rfl rfl hl.1 (by decide) (by decide) (by decide) rfl (Nat.le_of_ble_eq_true rfl) dX9_deed_106 (fun H locs hw => ?_)
                      have h := Option.some.inj h
                      subst h
                      rw [kr]
                      exact x_ri E hw (by decide) (by decide) dX9_deed_109
                    · rw [if_neg c30] at h
                      have nc5 := lv_neT (a := 0) c5 (by decide)
                      have nc8 := lv_neT (a := 1) c8 (by decide)
                      have nc11 := lv_neT (a := 2) c11 (by decide)
                      have nc14 := lv_neT (a := 3) c14 (by decide)
                      have nc17 := lv_neT (a := 4) c17 (by decide)
                      have nc21 := lv_neT (a := 5) c21 (by decide)
                      have nc24 := lv_neT (a := 6) c24 (by decide)
                      have nc27 := lv_neT (a := 7) c27 (by decide)
                      have nc30 := lv_neT (a := 8) c30 (by decide)
                      refine lv_tableOut (tgt := 110) hx hb dX9_deed_6 (by omega) (by decide) ?_
                      have h := Option.some.inj h
                      subst h
                      rw [kr]
                      exact x_thN (w := 4) (cls := "java/util/NoSuchElementException") E hw ht (by decide) rfl rfl rfl tw1_147 tw2_147 tw3_147 tw4_147 tw6_147 hl.1 dX9_deed_110 dX9_deed_113 (Or.inl ⟨dX9_deed_114, dX9_deed_116, dX9_deed_119⟩) hnt (by decide) (by decide) (Nat.le_of_ble_eq_true rfl) (by decide)
/-! ===== AllSawIt.log(II)I ===== -/
theorem dX9_log_0 : decode cX9_log 0 = .ok (.iload_n 2, 1) := by decide +kernel
theorem dX9_log_1 : decode cX9_log 1 = .ok (.tableswitch 54 0 2 #[27, 36, 45], 27) := by decide +kernel
theorem dX9_log_28 : decode cX9_log 28 = .ok (.aload_n 0, 1) := by decide +kernel
theorem dX9_log_29 : decode cX9_log 29 = .ok (.getfield 19, 3) := by decide +kernel
theorem dX9_log_32 : decode cX9_log 32 = .ok (.iload_n 1, 1) := by decide +kernel
theorem dX9_log_33 : decode cX9_log 33 = .ok (.invokevirtual 334, 3) := by decide +kernel
theorem dX9_log_36 : decode cX9_log 36 = .ok (.ireturn, 1) := by decide +kernel
theorem dX9_log_37 : decode cX9_log 37 = .ok (.aload_n 0, 1) := by decide +kernel
theorem dX9_log_38 : decode cX9_log 38 = .ok (.getfield 19, 3) := by decide +kernel
theorem dX9_log_41 : decode cX9_log 41 = .ok (.iload_n 1, 1) := by decide +kernel
theorem dX9_log_42 : decode cX9_log 42 = .ok (.invokevirtual 337, 3) := by decide +kernel
theorem dX9_log_45 : decode cX9_log 45 = .ok (.ireturn, 1) := by decide +kernel
theorem dX9_log_46 : decode cX9_log 46 = .ok (.aload_n 0, 1) := by decide +kernel
theorem dX9_log_47 : decode cX9_log 47 = .ok (.getfield 19, 3) := by decide +kernel
theorem dX9_log_50 : decode cX9_log 50 = .ok (.iload_n 1, 1) := by decide +kernel
theorem dX9_log_51 : decode cX9_log 51 = .ok (.invokevirtual 340, 3) := by decide +kernel
theorem dX9_log_54 : decode cX9_log 54 = .ok (.ireturn, 1) := by decide +kernel
theorem dX9_log_55 : decode cX9_log 55 = .ok (.new 147, 3) := by decide +kernel
theorem dX9_log_58 : decode cX9_log 58 = .ok (.dup, 1) := by decide +kernel
theorem dX9_log_59 : decode cX9_log 59 = .ok (.ldc_w 343, 3) := by decide +kernel
theorem dX9_log_62 : decode cX9_log 62 = .ok (.invokespecial 151, 3) := by decide +kernel
theorem dX9_log_65 : decode cX9_log 65 = .ok (.athrow, 1) := by decide +kernel
noncomputable def fX9_log (V : VT) (x1 : Int32) (x2 : Int32) : Option ((String ⊕ Int32) × VT) := if x2 = (0 : Int32) then (ob_R (fX6_logDay V 2 x1) fun y2 => some (.inr y2, V)) else if x2 = (1 : Int32) then (ob_R (fX6_logHouse V 2 x1) fun y5 => some (.inr y5, V)) else if x2 = (2 : Int32) then (ob_R (fX6_logDeed V 2 x1) fun y8 => some (.inr y8, V)) else (some (.inl "java/util/NoSuchElementException", V))
set_option maxHeartbeats 4000000 in
set_option maxRecDepth 100000 in
theorem kX9_log {l : Launch} {G : GT} {Z : Nat → Nat × Nat} (ht : l.stackTraces = false) {V : VT} {x1 : Int32} {x2 : Int32} {r : ((String ⊕ Int32) × VT)} (h : fX9_log V x1 x2 = some r) : XI l G (SG Z) yX9_log (.code yX9_log cX9_log 3 (some .int)) 7 1 [.ref (G.2.2 0), .int x1, .int x2] V r.1 r.2 := by
  intro sz
  refine xmet_of (Qs := fun sz => XQ G sz r.1 r.2) (Xs := fun sz => XE G sz r.1 r.2) (SG_ok Z) (by decide) (Nat.le_of_ble_eq_true rfl) ?_ sz
  intro p e s m args below meth c ls E hnt hw hl
  have hx := en_x E
  have hb := en_b E
  have hB := en_B E
  generalize hQ : vx_MQ _ _ _ _ _ _ _ _ = Q
  have kr : Q = vx_MQ below (XQ G s.heap.size r.1 r.2) (XE G s.heap.size r.1 r.2) args s 1 6 (gA G s.heap.size) := hQ.symm
  have hl : lv_has ls 3 [(0, .ref (G.2.2 0)), (1, .int x1), (2, .int x2)] := hl
  obtain ⟨H, eH⟩ : ∃ H, H = s.heap := ⟨_, rfl⟩
  obtain ⟨locs, elocs⟩ : ∃ z : List Loc, z = [] := ⟨_, rfl⟩
  have hw : HW G s.heap V H locs := by rw [eH, elocs]; exact hw
  show W p l e _ s m args below meth c s.heap [] 0 0 Q (F0 m 0 ls [])
  rw [← eH, ← elocs]
  unfold fX9_log at h
  refine lv_iload_n hx hb dX9_log_0 rfl (lv_at hl 2 rfl) ?_
  by_cases c3 : x2 = (0 : Int32)
  · rw [if_pos c3] at h
    refine lv_tableIn (tgt := 28) hx hb dX9_log_1 (by rw [c3]; decide) (by rw [c3]; decide) (by rw [c3]; rfl) (by decide) ?_
    refine lv_aload_n hx hb dX9_log_28 rfl (lv_at hl 0 rfl) ?_
    refine r_gr E hw 0 1 2 (N := 11) (C := RX9) (T := TX9) (by decide) rfl rfl (by decide) rfl iw_9 rfl lf_RX9_19 dX9_log_29 ?_
    refine lv_iload_n hx hb dX9_log_32 rfl (lv_at hl 1 rfl) ?_
    obtain ⟨y2, h1, h⟩ := ob_R_some h
    refine g_VI E hw (kX6_logDay (l := l) (G := G) hB ⟨by decide, by decide⟩ h1) yy_X6_logDay lm_RX9_334 rfl (by decide) rfl rfl hl.1 (by decide) (by decide) (by decide) rfl (Nat.le_of_ble_eq_true rfl) dX9_log_33 (fun H locs hw => ?_)
    have h := Option.some.inj h
    subst h
    rw [kr]
    exact x_ri E hw (by decide) (by decide) dX9_log_36
  · rw [if_neg c3] at h
    by_cases c6 : x2 = (1 : Int32)
    · rw [if_pos c6] at h
      refine lv_tableIn (tgt := 37) hx hb dX9_log_1 (by rw [c6]; decide) (by rw [c6]; decide) (by rw [c6]; rfl) (by decide) ?_
      refine lv_aload_n hx hb dX9_log_37 rfl (lv_at hl 0 rfl) ?_
      refine r_gr E hw 0 1 2 (N := 11) (C := RX9) (T := TX9) (by decide) rfl rfl (by decide) rfl iw_9 rfl lf_RX9_19 dX9_log_38 ?_
      refine lv_iload_n hx hb dX9_log_41 rfl (lv_at hl 1 rfl) ?_
      obtain ⟨y5, h4, h⟩ := ob_R_some h
      refine g_VI E hw (kX6_logHouse (l := l) (G := G) hB ⟨by decide, by decide⟩ h4) yy_X6_logHouse lm_RX9_337 rfl (by decide) rfl rfl hl.1 (by decide) (by decide) (by decide) rfl (Nat.le_of_ble_eq_true rfl) dX9_log_42 (fun H locs hw => ?_)
      have h := Option.some.inj h
      subst h
      rw [kr]
      exact x_ri E hw (by decide) (by decide) dX9_log_45
    · rw [if_neg c6] at h
      by_cases c9 : x2 = (2 : Int32)
      · rw [if_pos c9] at h
        refine lv_tableIn (tgt := 46) hx hb dX9_log_1 (by rw [c9]; decide) (by rw [c9]; decide) (by rw [c9]; rfl) (by decide) ?_
        refine lv_aload_n hx hb dX9_log_46 rfl (lv_at hl 0 rfl) ?_
        refine r_gr E hw 0 1 2 (N := 11) (C := RX9) (T := TX9) (by decide) rfl rfl (by decide) rfl iw_9 rfl lf_RX9_19 dX9_log_47 ?_
        refine lv_iload_n hx hb dX9_log_50 rfl (lv_at hl 1 rfl) ?_
        obtain ⟨y8, h7, h⟩ := ob_R_some h
        refine g_VI E hw (kX6_logDeed (l := l) (G := G) hB ⟨by decide, by decide⟩ h7) yy_X6_logDeed lm_RX9_340 rfl (by decide) rfl rfl hl.1 (by decide) (by decide) (by decide) rfl (Nat.le_of_ble_eq_true rfl) dX9_log_51 (fun H locs hw => ?_)
        have h := Option.some.inj h
        subst h
        rw [kr]
        exact x_ri E hw (by decide) (by decide) dX9_log_54
      · rw [if_neg c9] at h
        have nc3 := lv_neT (a := 0) c3 (by decide)
        have nc6 := lv_neT (a := 1) c6 (by decide)
        have nc9 := lv_neT (a := 2) c9 (by decide)
        refine lv_tableOut (tgt := 55) hx hb dX9_log_1 (by omega) (by decide) ?_
        have h := Option.some.inj h
        subst h
        rw [kr]
        exact x_thN (w := 10) (cls := "java/util/NoSuchElementException") E hw ht (by decide) rfl rfl rfl tw1_147 tw2_147 tw3_147 tw4_147 tw6_147 hl.1 dX9_log_55 dX9_log_58 (Or.inr ⟨dX9_log_59, dX9_log_62, dX9_log_65⟩) hnt (by decide) (by decide) (Nat.le_of_ble_eq_true rfl) (by decide)
