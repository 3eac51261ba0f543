/-! ===== the law's own methods: the static heap and the law's row of one long at oa ===== -/
def gO (G : GT) (oa sz : Nat) : Nat → Prop := fun q => gA G sz q ∨ q = oa
def wo (G : GT) (V : VT) (oa : Nat) (ov : Nat → Int64) : va_W := wl G V ++ [(oa, .inl (G.2.1 4, 1, .inr (.inl ov)))]
theorem wl_len (G : GT) (V : VT) : (wl G V).length = 88 := by simp [wl]
theorem wo_lo {G : GT} {V : VT} {oa : Nat} {ov : Nat → Int64} {k : Nat} (hk : k < 88) : (wo G V oa ov)[k]? = (wl G V)[k]? := by
  unfold wo
  rw [List.getElem?_append_left (by rw [wl_len]; exact hk)]
theorem wo_hi {G : GT} {V : VT} {oa : Nat} {ov : Nat → Int64} : (wo G V oa ov)[88]? = some (oa, .inl (G.2.1 4, 1, .inr (.inl ov))) := by
  unfold wo
  rw [List.getElem?_append_right (by rw [wl_len]; exact Nat.le_refl _), wl_len]
  rfl
theorem wo_ix {G : GT} {V : VT} {oa : Nat} {ov : Nat → Int64} {k : Nat} {q : Nat × va_E} (h : (wo G V oa ov)[k]? = some q) : (k < 88 ∧ (wl G V)[k]? = some q) ∨ (k = 88 ∧ q = (oa, .inl (G.2.1 4, 1, .inr (.inl ov)))) := by
  rcases Nat.lt_trichotomy k 88 with hk | hk | hk
  · rw [wo_lo hk] at h
    exact Or.inl ⟨hk, h⟩
  · subst hk
    rw [wo_hi] at h
    exact Or.inr ⟨rfl, (Option.some.inj h).symm⟩
  · have hl : (wo G V oa ov).length = 89 := by simp [wo, wl_len]
    rw [List.getElem?_eq_none (by omega)] at h
    cases h
theorem wo_P {G : GT} {V : VT} {oa : Nat} {ov : Nat → Int64} {H : Heap} (h1 : va_P G.1 vwCl (wl G V) H) (h2 : H[oa]? = some (vp_cell (G.2.1 4) (1, .inr (.inl ov)))) : va_P G.1 vwCl (wo G V oa ov) H := by
  intro k q hq
  rcases wo_ix hq with ⟨-, hq⟩ | ⟨-, rfl⟩
  · exact h1 k q hq
  · exact h2
theorem wo_P1 {G : GT} {V : VT} {oa : Nat} {ov : Nat → Int64} {H : Heap} (h : va_P G.1 vwCl (wo G V oa ov) H) : va_P G.1 vwCl (wl G V) H := by
  intro k q hq
  have hk : k < 88 := by
    have := (List.getElem?_eq_some_iff.mp hq).1
    rw [wl_len] at this
    exact this
  exact h k q (by rw [wo_lo hk]; exact hq)
theorem wo_P2 {G : GT} {V : VT} {oa : Nat} {ov : Nat → Int64} {H : Heap} (h : va_P G.1 vwCl (wo G V oa ov) H) : H[oa]? = some (vp_cell (G.2.1 4) (1, .inr (.inl ov))) := h 88 _ wo_hi
theorem wo_D {G : GT} {V V' : VT} {oa : Nat} {ov ov' : Nat → Int64} {A : Nat → Prop} (h : va_D A (wo G V oa ov)) : va_D A (wo G V' oa ov') := by
  have key : ∀ (k : Nat) (q : Nat × va_E), (wo G V' oa ov')[k]? = some q → ∃ e, (wo G V oa ov)[k]? = some (q.1, e) := by
    intro k q hq
    rcases wo_ix hq with ⟨hk, hq⟩ | ⟨rfl, rfl⟩
    · rw [wl_get G _ hk] at hq
      cases hq
      exact ⟨_, by rw [wo_lo hk]; exact wl_get G V hk⟩
    · exact ⟨_, wo_hi⟩
  refine ⟨fun i j a b ha hb hab => ?_, fun k q hq => ?_⟩
  · obtain ⟨e1, h1⟩ := key i a ha
    obtain ⟨e2, h2⟩ := key j b hb
    exact h.1 i j _ _ h1 h2 hab
  · obtain ⟨e1, h1⟩ := key k q hq
    exact h.2 k (q.1, e1) h1
theorem wo_D1 {G : GT} {V : VT} {oa : Nat} {ov : Nat → Int64} {A : Nat → Prop} (h : va_D A (wo G V oa ov)) : va_D A (wl G V) := by
  have key : ∀ (k : Nat) (q : Nat × va_E), (wl G V)[k]? = some q → (wo G V oa ov)[k]? = some q := by
    intro k q hq
    have hk : k < 88 := by
      have := (List.getElem?_eq_some_iff.mp hq).1
      rw [wl_len] at this
      exact this
    rw [wo_lo hk]; exact hq
  exact ⟨fun i j a b ha hb hab => h.1 i j a b (key i a ha) (key j b hb) hab, fun k q hq => h.2 k q (key k q hq)⟩
theorem wo_ne {G : GT} {V : VT} {oa : Nat} {ov : Nat → Int64} {A : Nat → Prop} (h : va_D A (wo G V oa ov)) {i : Nat} (hi : i < 88) : oa ≠ G.2.2 i := by
  intro e
  have := h.1 88 i (oa, _) (G.2.2 i, _) wo_hi (by rw [wo_lo hi]; exact wl_get G V hi) e
  omega
theorem wo_Dg {G : GT} {V : VT} {oa : Nat} {ov : Nat → Int64} {A : Nat → Prop} {sz : Nat} (h : va_D A (wo G V oa ov)) : va_D (gO G oa sz) (wo G V oa ov) := by
  refine ⟨h.1, fun k q hq => ?_⟩
  rcases wo_ix hq with ⟨hk, hq⟩ | ⟨-, rfl⟩
  · rw [wl_get G _ hk] at hq
    cases hq
    exact Or.inl (Or.inl ⟨k, hk, rfl⟩)
  · exact Or.inr rfl
def ncL : List (String × String) := [("java/lang/UnsupportedOperationException", "java/lang/IllegalArgumentException"), ("java/util/NoSuchElementException", "java/lang/IndexOutOfBoundsException"), ("java/lang/IllegalStateException", "java/lang/IndexOutOfBoundsException"), ("java/lang/IllegalArgumentException", "java/lang/IndexOutOfBoundsException"), ("java/lang/UnsupportedOperationException", "java/lang/IndexOutOfBoundsException")]
/-- what holds beside the heap, for the law's methods -/
def SH (Z : Nat → Nat × Nat) : BGt := fun A U H => SG Z A U H ∧ ∀ q ∈ ncL, va_Nc q.1 q.2 U
theorem SH_ok (Z : Nat → Nat × Nat) : BGok (SH Z) := ⟨fun A u U H hW h => ⟨(SG_ok Z).1 A u U H hW h.1, fun q hq => va_Nc.moved hW.alike (h.2 q hq)⟩, fun A U H H1 h hq => ⟨(SG_ok Z).2.1 A U H H1 h.1 hq, h.2⟩, fun A A' U H h hAB => ⟨(SG_ok Z).2.2 A A' U H h.1 hAB, h.2⟩⟩
def PreO (G : GT) (B : BGt) (V : VT) (oa : Nat) (ov : Nat → Int64) (sz : Nat) (U : State) : Prop := U.heap.size = sz ∧ va_P G.1 vwCl (wo G V oa ov) U.heap ∧ va_K G.1 vwCl (sh_T G) U ∧ va_D (fun _ => True) (wo G V oa ov) ∧ TB U ∧ B (gO G oa sz) U U.heap
def QO (G : GT) (oa sz : Nat) (r : Int32) (V' : VT) (ov' : Nat → Int64) : Array Value → State → Outcome → State → Prop := va_Qi (fun r2 (u : VT × (Nat → Int64)) => r2 = r ∧ u = (V', ov')) (fun u t => va_P G.1 vwCl (wo G u.1 oa u.2) t.heap) (gO G oa sz)
def HI (l : Launch) (G : GT) (B : BGt) (y : MethodName) (w : Cond) (d k : Nat) (av : List Value) (V : VT) (oa : Nat) (ov : Nat → Int64) (r : Int32) (V' : VT) (ov' : Nat → Int64) : Prop := ∀ sz : Nat, Met l y [w] (rmX d k) (va_Pc av (PreO G B V oa ov sz)) (QO G oa sz r V' ov') k (6 * k) (gO G oa sz)
def HO (G : GT) (oa : Nat) (H0 : Heap) (V : VT) (ov : Nat → Int64) (H : Heap) (locs : List Loc) : Prop := va_P G.1 vwCl (wo G V oa ov) H ∧ va_D (gO G oa H0.size) (wo G V oa ov) ∧ va_S (gO G oa H0.size) H0 H locs
def EO (p : Program) (s : State) (m : MethodId) (args : Array Value) (c : Code) (meth : Method) (cc : ByteArray) (nL : Nat) (own : String) (ret : Option FieldType) (G : GT) (B : BGt) (oa : Nat) : Prop :=
  p.tables.exec = Jvm.exec ∧ c.code = cc ∧ c.maxLocals = nL ∧ s.vm.findClass own = some m.cls ∧ TB s ∧ va_K G.1 vwCl (sh_T G) s ∧ meth.locks = false ∧ B (gO G oa s.heap.size) s s.heap ∧ BGok B ∧ meth.sig.returnType = ret
theorem gA_gO {G : GT} {oa : Nat} {H0 : Heap} {V : VT} {ov : Nat → Int64} {H : Heap} {locs : List Loc} (hw : HO G oa H0 V ov H locs) : ∀ q, gA G H.size q → gO G oa H0.size q := fun q h => Or.inl (h.elim Or.inl (fun h => Or.inr (Nat.le_trans hw.2.2.1 h)))
section OW
variable {p : Program} {l : Launch} {e : Env} {R : Room} {s : State} {m : MethodId} {args : Array Value} {below : List Frame} {meth : Method} {c : Code} {H : Heap} {locs : List Loc} {cells slots : Nat} {Q : State → Prop}
variable {cc : ByteArray} {pc nL : Nat} {ls : Array Slot} {rest : List Value} {own : String} {ret : Option FieldType} {G : GT} {B : BGt} {V V' : VT} {Z : Nat → Nat × Nat} {oa : Nat} {ov : Nat → Int64}
variable {y : MethodName} {bytes : ByteArray} {maxL : Nat} {rt : Option FieldType} {n d k index : Nat} {As st : List Value}
theorem eo_w (E : EO p s m args c meth cc nL own ret G B oa) {w : Cond} (h1 : w ∈ lw_tbl) (h2 : goodWord w = true) : w.before args s = true := E.2.2.2.2.1.at h1 h2 args
theorem eo_pre (E : EO p s m args c meth cc nL own ret G (SH Z) oa) (hw : HO G oa s.heap V ov H locs) {U : State} (hU : U.heap = H) (hW : s.WarmedH U.vm) : Pre G (SG Z) V H.size U := by
  obtain ⟨-, -, -, -, hT, hK, -, hBG, -, -⟩ := E
  refine ⟨by rw [hU], by rw [hU]; exact wo_P1 hw.1, va_K.moved hW.alike hK, (wo_D1 hw.2.1).weaken (fun _ _ _ _ => trivial), hT.warm hW, ?_⟩
  rw [hU]
  exact (SG_ok Z).1 _ s _ _ hW ((SG_ok Z).2.2 (gO G oa s.heap.size) _ _ _ ((SG_ok Z).2.1 _ _ _ _ hBG.1 hw.2.2.2.1) (gA_gO hw))
theorem ho_back (hw : HO G oa s.heap V ov H locs) {V' : VT} {t : State} {H1 : Heap} {locs1 : List Loc} (ht : t.heap = H1) (hb : va_P G.1 vwCl (wl G V') t.heap) (hk : ∀ q : Nat, q < H.size → ¬ gA G H.size q → H1[q]? = H[q]?) (hS : va_S (gO G oa s.heap.size) s.heap H1 locs1) : HO G oa s.heap V' ov H1 locs1 := by
  have h2 := wo_P2 hw.1
  have hlt : oa < H.size := (Array.getElem?_eq_some_iff.mp h2).1
  refine ⟨wo_P (by rw [ht] at hb; exact hb) ?_, wo_D hw.2.1, hS⟩
  rw [hk oa hlt (fun h => by
    rcases h with ⟨i, hi, e⟩ | h
    · exact wo_ne hw.2.1 hi e
    · omega)]
  exact h2
theorem eo_cb (E : EO p s m args c meth cc nL own ret G B oa) (h1 : Cond.code y bytes maxL rt ∈ lw_tbl) (h2 : Cond.initialized y.cls ∈ lw_tbl) (h3 : y.cls ≠ "java/lang/invoke/MethodHandle" ∧ y.cls ≠ "java/lang/invoke/VarHandle") (h4 : (parseMethodDescriptor y.desc).map (fun d => d.parameters.length) = some n) (hlk : Cond.methodLink own index y ∈ lw_tbl) {rm : Room} (hR : rm.frames + 1 ≤ R.frames ∧ 60 + rm.locals ≤ R.locals) (hL : maxL ≤ 41) : CallB R s args own index y bytes maxL rt [Cond.code y bytes maxL rt] rm rm.cells rm.slots n := by
  refine ⟨rfl, rfl, hR.1, ?_, fun w hw a' U hW => ?_, List.mem_cons_self, eo_w E h1 rfl, eo_w E h2 rfl, h3, fun sig h => ?_, eo_w E hlk rfl⟩
  · have := hR.2
    omega
  · have e : w = Cond.code y bytes maxL rt := by simpa using hw
    subst e
    exact word_at hW (good_of_word rfl) (eo_w E h1 rfl)
  · rw [h] at h4
    exact (Option.some.inj h4).symm
/-- where a class of exception is caught at a pc: the handler -/
def ct_at (own : String) (hh : List (Nat × Nat × Nat × Nat)) (pc : Nat) (Ec : String) (hp : Nat) : Prop := ∃ (pre : List ExceptionTableEntry) (x : ExceptionTableEntry) (suf : List ExceptionTableEntry), tableOf hh = pre ++ x :: suf ∧ (∀ z ∈ pre, covers z pc = false ∨ (z.catchType ≠ 0 ∧ ∃ nm : String, Cond.classLink own z.catchType nm ∈ lw_tbl ∧ (Ec, nm) ∈ ncL)) ∧ covers x pc = true ∧ x.catchType ≠ 0 ∧ (∃ nm : String, Cond.classLink own x.catchType nm ∈ lw_tbl ∧ nm = Ec) ∧ x.handlerPc = hp ∧ Cond.castable Ec Ec ∈ lw_tbl
/-- AllSawIt's method y called under a table: it answers, or throws what the table takes -/
theorem h_VI {hh : List (Nat × Nat × Nat × Nat)} {o : String ⊕ Int32} {hp : String → Nat} (E : EO p s m args c meth cc nL own ret G (SH Z) oa) (hw : HO G oa s.heap V ov H locs) (hC : XI l G (SG Z) y (.code y bytes maxL rt) d k (.ref (G.2.2 0) :: As) V o V') (hY : YV y bytes maxL rt n) (hlk : Cond.methodLink own index y ∈ lw_tbl) (hn : As.length = n) (hqy : y.cls = RX9) (hl : ls.size = nL) (hR : d + 1 ≤ R.frames ∧ 60 + 60 * d ≤ R.locals) (hf : cells + k ≤ R.cells ∧ slots + 6 * k ≤ R.slots) (hL : maxL ≤ 41) (hst : st = As.reverse ++ .ref (G.2.2 0) :: rest) (hcat : (rest.map fun v => v.category).sum ≤ 8) (hdg : decode cc pc = .ok (.invokevirtual index, 3)) (htab : c.exceptionTable.toList = tableOf hh)
    (hca : ∀ Ec, o = .inl Ec → ct_at own hh pc Ec (hp Ec))
    (kk : ∀ (r : Int32) (H : Heap) (locs : List Loc), o = .inr r → HO G oa s.heap V' ov H locs → W p l e R s m args below meth c H locs (cells + k) (slots + 6 * k) Q (F0 m (pc + 3) ls (.int r :: rest)))
    (kx : ∀ (Ec : String) (q : Nat) (H : Heap) (locs : List Loc), o = .inl Ec → HO G oa s.heap V' ov H locs → W p l e R s m args below meth c H locs (cells + k) (slots + 6 * k) Q (F0 m (hp Ec) ls [.ref q])) : W p l e R s m args below meth c H locs cells slots Q (F0 m pc ls st) := by
  obtain ⟨y1, y2, y3, y4, y5, y6⟩ := hY
  have he : (wl G V)[0]? = some (G.2.2 0, .inr (sh_C 0, (List.range (sh_N 0)).map (sh_f G V 0))) := by rw [wl_get G V (by decide)]; rfl
  have hrv := va_recv (q := (RX9, TX9, 11)) E.2.2.2.2.2.1 (wo_P1 hw.1) rfl he
  have hrv : ∃ cell : Cell, H[G.2.2 0]? = some cell ∧ cell.vm.isStatics = false ∧ s.vm.findClass y.cls = some cell.cls := by rw [hqy]; exact hrv
  refine vx_calli (post := fun r (u : VT) => o = .inr r ∧ u = V') (B := fun u t => va_P G.1 vwCl (wl G u) t.heap) (A1 := gA G H.size) (A0 := gO G oa s.heap.size) (vx_runV (C := y.cls) (b := G.2.2 0) (As := As) (rest := rest) (Ts := []) ⟨E.1, E.2.1, E.2.2.1, E.2.2.2.1, fun _ h => nomatch h⟩ (hC H.size) ⟨eo_cb (rm := rmX d k) E y1 y2 y5 y6 hlk hR hL, eo_w E y3 rfl, eo_w E y4 rfl⟩ ⟨pre_blind (SG_ok Z), hrv, fun U hU hW => ⟨rfl, eo_pre E hw hU hW⟩⟩ rfl hn hl hst (lv_room hcat) hdg hf) hw.2.2 (fun q _ h => gA_gO hw q h) (gA_gO hw) (fun q _ h => gA_gO hw q h) (fun E1 ce q9 u t H1 locs1 ht hvm hp1 hb hz hk hS h1 h2 h3 => ?_) (fun r u t H1 locs1 ht hvm hp1 hb hz hk hS => ?_)
  · obtain ⟨hb1, hb2⟩ := hb
    subst hp1
    obtain ⟨pre, x, suf, t1, t2, t3, t4, ⟨nm, t5, t6⟩, t7, t8⟩ := hca E1 hb1
    subst t6
    refine ct_catch (own := own) (name := nm) E.2.2.2.1 pre x suf (htab.trans t1) (fun z hz => ?_) t3 t4 (eo_w E t5 rfl) (va_Nw.use rfl (E.2.2.2.2.2.2.2.1.1.2.2.2.2.2.2.1 nm nm t8)) h1 h2 h3 ?_
    · rcases t2 z hz with h | ⟨hz0, nm', hm1, hm2⟩
      · exact Or.inl h
      · exact Or.inr ⟨hz0, nm', eo_w E hm1 rfl, E.2.2.2.2.2.2.2.1.2 (nm, nm') hm2⟩
    · rw [t7]
      exact kx nm q9 H1 locs1 hb1 (ho_back hw ht hb2 hk hS)
  · obtain ⟨ho, rfl⟩ := hp1
    exact kk r H1 locs1 ho (ho_back hw ht hb hk hS)
theorem h_ls {i : Int32} {x : Int64} {ov' : Nat → Int64} (E : EO p s m args c meth cc nL own ret G B oa) (hw : HO G oa s.heap V ov H locs) (hi : vp_in i 1) (ho : ov' = vp_updL ov i.toNatClampNeg x) (hdg : decode cc pc = .ok (.lastore, 1))
    (kk : ∀ (H : Heap) (locs : List Loc), HO G oa s.heap V ov' H locs → W p l e R s m args below meth c H locs cells slots Q (F0 m (pc + 1) ls rest)) : W p l e R s m args below meth c H locs cells slots Q (F0 m pc ls (.long x :: .int i :: .ref oa :: rest)) := by
  refine va_last E.1 E.2.1 E.2.2.2.2.2.1 hw.1 hw.2.1 hw.2.2 88 4 wo_hi rfl hi hdg (fun H1 locs1 a1 a2 a3 => ?_)
  have hs : (wo G V oa ov).set 88 (oa, .inl (G.2.1 4, 1, .inr (.inl (vp_updL ov i.toNatClampNeg x)))) = wo G V oa ov' := by
    unfold wo
    rw [List.set_append_right _ _ (by rw [wl_len]; exact Nat.le_refl _), wl_len, ho]
    rfl
  rw [hs] at a1 a2
  exact kk H1 locs1 ⟨a1, a2, a3⟩
theorem h_ri {r : Int32} {mc ms : Nat} (E : EO p s m args c meth cc nL own (some .int) G B oa) (hw : HO G oa s.heap V ov H locs) (hc : cells ≤ mc) (hs : slots ≤ ms) (hdg : decode cc pc = .ok (.ireturn, 1)) : W p l e R s m args below meth c H locs cells slots (MQ below (QO G oa s.heap.size r V ov) args s mc ms (gO G oa s.heap.size)) (F0 m pc ls [.int r]) :=
  W.widen hc hs (W.iret (v := r) E.1 E.2.1 E.2.2.2.2.2.2.2.2.2 (fun t ht hW => ⟨⟨r, (V, ov), rfl, ⟨rfl, rfl⟩, by show va_P _ _ _ t.heap; rw [ht]; exact hw.1⟩, hw.2.2.F ht⟩) hw.2.2.2.2 hdg E.2.2.2.2.2.2.1)
end OW
/-- a contract of a method of the law with a table of its own, out of the walk of its body -/
theorem hmet_of {l : Launch} {G : GT} {B : BGt} {y : MethodName} {cc : ByteArray} {maxL : Nat} {ret : Option FieldType} {hh : List (Nat × Nat × Nat × Nat)} {d k oa : Nat} {av : List Value} {V : VT} {ov : Nat → Int64} {Qs : Nat → Array Value → State → Outcome → State → Prop} (hB : BGok B) (hy : plainName y.cls = true) (hlen : (lg_sl av).length ≤ maxL)
    (body : ∀ (p : Program) (e : Env) (s : State) (m : MethodId) (args : Array Value) (below : List Frame) (meth : Method) (c : Code) (ls : Array Slot), EO p s m args c meth cc maxL y.cls ret G B oa → c.exceptionTable.toList = tableOf hh → HO G oa s.heap V ov s.heap [] → lv_has ls maxL (lv_args 0 av) →
      W p l e (rmX d k) s m args below meth c s.heap [] 0 0 (MQ below (Qs s.heap.size) args s k (6 * k) (gO G oa s.heap.size)) (F0 m 0 ls [])) (sz : Nat) : Met l y [.codeWith y cc maxL ret hh] (rmX d k) (va_Pc av (PreO G B V oa ov sz)) (Qs sz) k (6 * k) (gO G oa sz) := by
  refine MetFree.of_bodyS (code := cc) (maxLocals := maxL) (ret := ret) hy ?_ ?_
  · intro args s m h hn
    obtain ⟨m9, meth, c, hn9, h1, h2, h3, h4, -, h5, h6, -⟩ := Cond.codeWith_spec (atoms_spec (ws := [.codeWith y cc maxL ret hh]) h _ List.mem_cons_self)
    cases hn.symm.trans hn9
    exact ⟨meth, c, h1, h2, h3, h4, h5, h6⟩
  · intro p e s m args below meth c s₁ Bd hml hv _
    have hh0 : s₁.heap = s.heap := by rw [Bd.state]; rfl
    have hts := atoms_spec (ws := [.codeWith y cc maxL ret hh]) Bd.pre
    have htab : c.exceptionTable.toList = tableOf hh := vx_table (l := l) (x := y) Bd (hts _ List.mem_cons_self)
    obtain ⟨rfl, hsz, hP, hK, hD0, hT, hBG⟩ := hv
    subst hsz
    have hl := lv_entry av (n := maxL) hlen
    have hbd : W p l e (rmX d k) s m av.toArray below meth c s₁.heap [] 0 0 (MQ below (Qs s.heap.size) av.toArray s k (6 * k) (gO G oa s.heap.size)) (entryFrame m av.toArray maxL) := by
      rw [hh0, lg_entry_eq]
      generalize (lg_sl av ++ List.replicate (maxL - (lg_sl av).length) Slot.unset).toArray = ls at hl ⊢
      exact body p e s m _ below meth c ls ⟨Bd.exec, Bd.bytes, hml, findClass_of_methodNamed Bd.named, hT, hK, Bd.notSynchronized, hBG, hB, Bd.returns⟩ htab ⟨hP, wo_Dg hD0, va_S.rf⟩ hl
    obtain ⟨t, a1, o, b1, b2, b3⟩ := hbd s₁ rfl (Stand.of_body Bd)
    exact ⟨t, o, a1, b1, b2, b3⟩
