/-! ===== contracts over the static heap, and a row for each kind of step ===== -/
abbrev BGt : Type := (Nat → Prop) → State → Heap → Prop
/-- what holds beside the static heap, and stays -/
def BGok (B : BGt) : Prop := (∀ (A : Nat → Prop) (u U : State) (H : Heap), u.WarmedH U.vm → B A u H → B A U H) ∧ (∀ (A : Nat → Prop) (U : State) (H H1 : Heap), B A U H → (∀ a : Nat, a < H.size → ¬ A a → H1[a]? = H[a]?) → B A U H1) ∧ (∀ (A A' : Nat → Prop) (U : State) (H : Heap), B A U H → (∀ q, A' q → A q) → B A' U H)
def TB (U : State) : Prop := (∀ w ∈ lw_tbl, goodWord w = true → w.before #[] U = true) ∧ ∀ (a : String) (i : Nat) (b n d h : String), Cond.fieldLinkNest a i b n d h ∈ lw_tbl → va_Nw (.fieldLinkNest a i b n d h) U
theorem TB.at {U : State} (h : TB U) {w : Cond} (h1 : w ∈ lw_tbl) (h2 : goodWord w = true) (a : Array Value) : w.before a U = true := word_at (State.WarmedH.refl U) (good_of_word h2) (h.1 w h1 h2)
theorem TB.nest {U : State} (h : TB U) {x : String} {i : Nat} {b n d k : String} (h1 : Cond.fieldLinkNest x i b n d k ∈ lw_tbl) (a : Array Value) : (Cond.fieldLinkNest x i b n d k).before a U = true := va_Nw.use rfl (h.2 x i b n d k h1)
theorem TB.warm {s U : State} (hW : s.WarmedH U.vm) (h : TB s) : TB U := ⟨fun w h1 h2 => word_at hW (good_of_word h2) (h.1 w h1 h2), fun a i b n d k h1 => va_Nw.warmF hW (h.2 a i b n d k h1)⟩
def Pre (G : GT) (B : BGt) (V : VT) (sz : Nat) (U : State) : Prop := U.heap.size = sz ∧ va_P G.1 vwCl (wl G V) U.heap ∧ va_K G.1 vwCl (sh_T G) U ∧ va_D (fun _ => True) (wl G V) ∧ TB U ∧ B (gA G sz) U U.heap
def QI (G : GT) (sz : Nat) (r : Int32) (V' : VT) : Array Value → State → Outcome → State → Prop := va_Qi (fun r2 (u : VT) => r2 = r ∧ u = V') (fun u t => va_P G.1 vwCl (wl G u) t.heap) (gA G sz)
def QL (G : GT) (sz : Nat) (r : Int64) (V' : VT) : Array Value → State → Outcome → State → Prop := va_Ql (fun r2 (u : VT) => r2 = r ∧ u = V') (fun u t => va_P G.1 vwCl (wl G u) t.heap) (gA G sz)
def QV (G : GT) (sz : Nat) (V' : VT) : Array Value → State → Outcome → State → Prop := va_Qv (fun (u : VT) => u = V') (fun u t => va_P G.1 vwCl (wl G u) t.heap) (gA G sz)
def rmD (d : Nat) : Room := { frames := d, cells := 0, slots := 0, locals := 60 * d }
/-- the method y, called with av where the heap holds V, answers r, and then it holds V' -/
def CI (l : Launch) (G : GT) (B : BGt) (y : MethodName) (w : Cond) (d : Nat) (av : List Value) (V : VT) (r : Int32) (V' : VT) : Prop := ∀ sz : Nat, Met l y [w] (rmD d) (va_Pc av (Pre G B V sz)) (QI G sz r V') 0 0 (gA G sz)
def CL (l : Launch) (G : GT) (B : BGt) (y : MethodName) (w : Cond) (d : Nat) (av : List Value) (V : VT) (r : Int64) (V' : VT) : Prop := ∀ sz : Nat, Met l y [w] (rmD d) (va_Pc av (Pre G B V sz)) (QL G sz r V') 0 0 (gA G sz)
def CV (l : Launch) (G : GT) (B : BGt) (y : MethodName) (w : Cond) (d : Nat) (av : List Value) (V : VT) (V' : VT) : Prop := ∀ sz : Nat, Met l y [w] (rmD d) (va_Pc av (Pre G B V sz)) (QV G sz V') 0 0 (gA G sz)
def HW (G : GT) (H0 : Heap) (V : VT) (H : Heap) (locs : List Loc) : Prop := va_P G.1 vwCl (wl G V) H ∧ va_D (gA G H0.size) (wl G V) ∧ va_S (gA G H0.size) H0 H locs
def En (p : Program) (s : State) (m : MethodId) (args : Array Value) (c : Code) (meth : Method) (cc : ByteArray) (nL : Nat) (own : String) (ret : Option FieldType) (G : GT) (B : BGt) : Prop :=
  p.tables.exec = Jvm.exec ∧ c.code = cc ∧ c.maxLocals = nL ∧ s.vm.findClass own = some m.cls ∧ TB s ∧ va_K G.1 vwCl (sh_T G) s ∧ meth.locks = false ∧ B (gA G s.heap.size) s s.heap ∧ BGok B ∧ meth.sig.returnType = ret
theorem pre_blind {G : GT} {B : BGt} {V : VT} {sz : Nat} {av : List Value} (hB : BGok B) : FrameBlind (va_Pc av (Pre G B V sz)) := by
  intro a U g mk h
  obtain ⟨h1, h2, h3, h4, h5, h6, h7⟩ := h
  have hW : U.WarmedH (U.calling g mk a).vm := State.WarmedH.refl U
  exact ⟨h1, h2, h3, va_K.moved (u := U) (U := U.calling g mk a) (Vm.Alike.refl U.vm) h4, h5, TB.warm (U := U.calling g mk a) hW h6, hB.1 _ U _ _ hW h7⟩
section RW
variable {p : Program} {l : Launch} {e : Env} {R : Room} {s : State} {m : MethodId} {args : Array Value} {below : List Frame} {meth : Method} {c : Code} {H : Heap} {locs : List Loc} {cells slots : Nat} {Q : State → Prop}
variable {cc : ByteArray} {pc nL : Nat} {ls : Array Slot} {rest : List Value} {own : String} {ret : Option FieldType} {G : GT} {B : BGt} {V V' : VT}
theorem en_x (E : En p s m args c meth cc nL own ret G B) : p.tables.exec = Jvm.exec := E.1
theorem en_b (E : En p s m args c meth cc nL own ret G B) : c.code = cc := E.2.1
theorem en_w (E : En p s m args c meth cc nL own ret G B) {w : Cond} (h1 : w ∈ lw_tbl) (h2 : goodWord w = true) : w.before args s = true := E.2.2.2.2.1.at h1 h2 args
/-- getfield of a whole number -/
theorem r_gi (E : En p s m args c meth cc nL own ret G B) (hw : HW G s.heap V H locs) (i k : Nat) {index N : Nat} {C : String} {T : u_T} (hi : i < 23) (hc : vwCl[sh_C i]? = some (C, T, N)) (hN : sh_N i = N) (hk : k < N) (hrf : sh_R i k = none) (hin : ∀ w ∈ u_ws C T N, w ∈ lw_tbl ∧ goodWord w = true) (hC : (T k).1 = C) (hlink : Cond.fieldLink own index C (T k).2.1 (T k).2.2.1 ∈ lw_tbl) (hdg : decode cc pc = .ok (.getfield index, 3))
    (kk : W p l e R s m args below meth c H locs cells slots Q (F0 m (pc + 3) ls (.int (V i k) :: rest))) : W p l e R s m args below meth c H locs cells slots Q (F0 m pc ls (.ref (G.2.2 i) :: rest)) := by
  have he : (wl G V)[i]? = some (G.2.2 i, .inr (sh_C i, (List.range (sh_N i)).map (sh_f G V i))) := by rw [wl_get G V (by omega)]; unfold sh_e; rw [if_pos hi]
  refine va_get (D := G.1) (ref := C) (v := .int (V i k)) (C := C) (T := T) (N := N) (Ts := u_ws C T N) (en_x E) (en_b E) (fun w h => en_w E (hin w h).1 (hin w h).2) (fun _ h => h) E.2.2.2.1 E.2.2.2.2.2.1 hw.1 i he hc k hk (en_w E hlink rfl) (fun x h9 => by rw [hC] at h9; exact h9) ?_ hdg kk
  rw [List.getElem?_map, List.getElem?_range (by omega)]
  simp [sh_f, hrf]
theorem r_giN (E : En p s m args c meth cc nL own ret G B) (hw : HW G s.heap V H locs) (i k : Nat) {index N : Nat} {C host : String} {T : u_T} (hi : i < 23) (hc : vwCl[sh_C i]? = some (C, T, N)) (hN : sh_N i = N) (hk : k < N) (hrf : sh_R i k = none) (hin : ∀ w ∈ u_ws C T N, w ∈ lw_tbl ∧ goodWord w = true) (hC : (T k).1 = C) (hlink : Cond.fieldLinkNest own index C (T k).2.1 (T k).2.2.1 host ∈ lw_tbl) (hdg : decode cc pc = .ok (.getfield index, 3))
    (kk : W p l e R s m args below meth c H locs cells slots Q (F0 m (pc + 3) ls (.int (V i k) :: rest))) : W p l e R s m args below meth c H locs cells slots Q (F0 m pc ls (.ref (G.2.2 i) :: rest)) := by
  have he : (wl G V)[i]? = some (G.2.2 i, .inr (sh_C i, (List.range (sh_N i)).map (sh_f G V i))) := by rw [wl_get G V (by omega)]; unfold sh_e; rw [if_pos hi]
  refine va_getN (D := G.1) (ref := C) (v := .int (V i k)) (C := C) (T := T) (N := N) (Ts := u_ws C T N) (host := host) (en_x E) (en_b E) (fun w h => en_w E (hin w h).1 (hin w h).2) (fun _ h => h) E.2.2.2.1 E.2.2.2.2.2.1 hw.1 i he hc k hk (E.2.2.2.2.1.nest hlink args) (fun x h9 => by rw [hC] at h9; exact h9) ?_ hdg kk
  rw [List.getElem?_map, List.getElem?_range (by omega)]
  simp [sh_f, hrf]
/-- getfield of a reference -/
theorem r_gr (E : En p s m args c meth cc nL own ret G B) (hw : HW G s.heap V H locs) (i k t : Nat) {index N : Nat} {C : String} {T : u_T} (hi : i < 23) (hc : vwCl[sh_C i]? = some (C, T, N)) (hN : sh_N i = N) (hk : k < N) (hrf : sh_R i k = some t) (hin : ∀ w ∈ u_ws C T N, w ∈ lw_tbl ∧ goodWord w = true) (hC : (T k).1 = C) (hlink : Cond.fieldLink own index C (T k).2.1 (T k).2.2.1 ∈ lw_tbl) (hdg : decode cc pc = .ok (.getfield index, 3))
    (kk : W p l e R s m args below meth c H locs cells slots Q (F0 m (pc + 3) ls (.ref (G.2.2 t) :: rest))) : W p l e R s m args below meth c H locs cells slots Q (F0 m pc ls (.ref (G.2.2 i) :: rest)) := by
  have he : (wl G V)[i]? = some (G.2.2 i, .inr (sh_C i, (List.range (sh_N i)).map (sh_f G V i))) := by rw [wl_get G V (by omega)]; unfold sh_e; rw [if_pos hi]
  refine va_get (D := G.1) (ref := C) (v := .ref (G.2.2 t)) (C := C) (T := T) (N := N) (Ts := u_ws C T N) (en_x E) (en_b E) (fun w h => en_w E (hin w h).1 (hin w h).2) (fun _ h => h) E.2.2.2.1 E.2.2.2.2.2.1 hw.1 i he hc k hk (en_w E hlink rfl) (fun x h9 => by rw [hC] at h9; exact h9) ?_ hdg kk
  rw [List.getElem?_map, List.getElem?_range (by omega)]
  simp [sh_f, hrf]
/-- putfield of a whole number or a truth -/
theorem r_pi (E : En p s m args c meth cc nL own ret G B) (hw : HW G s.heap V H locs) (i k : Nat) {index N : Nat} {C : String} {T : u_T} {ty0 : Nat → FieldType} {ty : FieldType} {v : Int32} (hi : i < 23) (hc : vwCl[sh_C i]? = some (C, T, N)) (hN : sh_N i = N) (hk : k < N) (hrf : sh_R i k = none) (hin : ∀ w ∈ u_ws C T N, w ∈ lw_tbl ∧ goodWord w = true) (hC : (T k).1 = C) (hty : ∀ k, k < N → parseFieldDescriptor (T k).2.2.1 = some (ty0 k)) (hnm : ∀ a, a < N → ∀ b, b < N → a ≠ b → (T a).2.1 ≠ (T b).2.1) (hfin : (T k).2.2.2 = false) (htk : ty0 k = ty) (hn : narrow ty (.int v) = .int v) (hfit : fits ty (.int v) = true) (hlink : Cond.fieldLink own index C (T k).2.1 (T k).2.2.1 ∈ lw_tbl) (hV : V' = va_up V i (upd (V i) k v)) (hdg : decode cc pc = .ok (.putfield index, 3))
    (kk : ∀ (H : Heap) (locs : List Loc), HW G s.heap V' H locs → W p l e R s m args below meth c H locs cells slots Q (F0 m (pc + 3) ls rest)) : W p l e R s m args below meth c H locs cells slots Q (F0 m pc ls (.int v :: .ref (G.2.2 i) :: rest)) := by
  have he : (wl G V)[i]? = some (G.2.2 i, .inr (sh_C i, (List.range (sh_N i)).map (sh_f G V i))) := by rw [wl_get G V (by omega)]; unfold sh_e; rw [if_pos hi]
  refine va_put (D := G.1) (ref := C) (v := .int v) (ty := ty) (C := C) (T := T) (N := N) (Ts := u_ws C T N) (en_x E) (en_b E) (fun w h => en_w E (hin w h).1 (hin w h).2) (fun _ h => h) ty0 hty hnm E.2.2.2.1 E.2.2.2.2.2.1 hw.1 hw.2.1 hw.2.2 i he hc k hk (en_w E hlink rfl) (fun x h9 => by rw [hC] at h9; exact h9) hfin (by rw [hty k hk, htk]) hn hfit (by simp; omega) hdg (fun H1 locs1 a1 a2 a3 => ?_)
  have hs : (wl G V).set i (G.2.2 i, .inr (sh_C i, ((List.range (sh_N i)).map (sh_f G V i)).set k (.int v))) = wl G V' := by rw [hV, ← sh_put hi hrf, wl_set]
  rw [hs] at a1 a2
  exact kk H1 locs1 ⟨a1, a2, a3⟩
theorem r_piN (E : En p s m args c meth cc nL own ret G B) (hw : HW G s.heap V H locs) (i k : Nat) {index N : Nat} {C host : String} {T : u_T} {ty0 : Nat → FieldType} {ty : FieldType} {v : Int32} (hi : i < 23) (hc : vwCl[sh_C i]? = some (C, T, N)) (hN : sh_N i = N) (hk : k < N) (hrf : sh_R i k = none) (hin : ∀ w ∈ u_ws C T N, w ∈ lw_tbl ∧ goodWord w = true) (hC : (T k).1 = C) (hty : ∀ k, k < N → parseFieldDescriptor (T k).2.2.1 = some (ty0 k)) (hnm : ∀ a, a < N → ∀ b, b < N → a ≠ b → (T a).2.1 ≠ (T b).2.1) (hfin : (T k).2.2.2 = false) (htk : ty0 k = ty) (hn : narrow ty (.int v) = .int v) (hfit : fits ty (.int v) = true) (hlink : Cond.fieldLinkNest own index C (T k).2.1 (T k).2.2.1 host ∈ lw_tbl) (hV : V' = va_up V i (upd (V i) k v)) (hdg : decode cc pc = .ok (.putfield index, 3))
    (kk : ∀ (H : Heap) (locs : List Loc), HW G s.heap V' H locs → W p l e R s m args below meth c H locs cells slots Q (F0 m (pc + 3) ls rest)) : W p l e R s m args below meth c H locs cells slots Q (F0 m pc ls (.int v :: .ref (G.2.2 i) :: rest)) := by
  have he : (wl G V)[i]? = some (G.2.2 i, .inr (sh_C i, (List.range (sh_N i)).map (sh_f G V i))) := by rw [wl_get G V (by omega)]; unfold sh_e; rw [if_pos hi]
  refine va_putN (D := G.1) (ref := C) (v := .int v) (ty := ty) (C := C) (T := T) (N := N) (Ts := u_ws C T N) (host := host) (en_x E) (en_b E) (fun w h => en_w E (hin w h).1 (hin w h).2) (fun _ h => h) ty0 hty hnm E.2.2.2.1 E.2.2.2.2.2.1 hw.1 hw.2.1 hw.2.2 i he hc k hk (E.2.2.2.2.1.nest hlink args) (fun x h9 => by rw [hC] at h9; exact h9) hfin (by rw [hty k hk, htk]) hn hfit (by simp; omega) hdg (fun H1 locs1 a1 a2 a3 => ?_)
  have hs : (wl G V).set i (G.2.2 i, .inr (sh_C i, ((List.range (sh_N i)).map (sh_f G V i)).set k (.int v))) = wl G V' := by rw [hV, ← sh_put hi hrf, wl_set]
  rw [hs] at a1 a2
  exact kk H1 locs1 ⟨a1, a2, a3⟩
/-- a place of an array of ints, of bytes, of truths -/
theorem r_ia (E : En p s m args c meth cc nL own ret G B) (hw : HW G s.heap V H locs) (i n : Nat) {k : Int32} (hi : 23 ≤ i) (hi2 : i < 88) (h72 : i ≠ 72) (hy : sh_Y i = 1) (hL : sh_L i = n) (hin : vp_in k n) (hdg : decode cc pc = .ok (.iaload, 1))
    (kk : W p l e R s m args below meth c H locs cells slots Q (F0 m (pc + 1) ls (.int (V i k.toNatClampNeg) :: rest))) : W p l e R s m args below meth c H locs cells slots Q (F0 m pc ls (.int k :: .ref (G.2.2 i) :: rest)) := by
  have he : (wl G V)[i]? = some (G.2.2 i, .inl (G.2.1 1, n, .inl (V i))) := by rw [wl_get G V hi2, sh_arr hi h72, hy, hL]
  exact va_iald (en_x E) (en_b E) E.2.2.2.2.2.1 hw.1 i 1 he rfl hin hdg kk
theorem r_ba (E : En p s m args c meth cc nL own ret G B) (hw : HW G s.heap V H locs) (i n : Nat) {k : Int32} (hi : 23 ≤ i) (hi2 : i < 88) (h72 : i ≠ 72) (hy : sh_Y i = 0) (hL : sh_L i = n) (hin : vp_in k n) (hdg : decode cc pc = .ok (.baload, 1))
    (kk : W p l e R s m args below meth c H locs cells slots Q (F0 m (pc + 1) ls (.int (V i k.toNatClampNeg) :: rest))) : W p l e R s m args below meth c H locs cells slots Q (F0 m pc ls (.int k :: .ref (G.2.2 i) :: rest)) := by
  have he : (wl G V)[i]? = some (G.2.2 i, .inl (G.2.1 0, n, .inl (V i))) := by rw [wl_get G V hi2, sh_arr hi h72, hy, hL]
  exact va_bald (en_x E) (en_b E) E.2.2.2.2.2.1 hw.1 i 0 he rfl hin hdg kk
theorem r_za (E : En p s m args c meth cc nL own ret G B) (hw : HW G s.heap V H locs) (i n : Nat) {k : Int32} (hi : 23 ≤ i) (hi2 : i < 88) (h72 : i ≠ 72) (hy : sh_Y i = 2) (hL : sh_L i = n) (hin : vp_in k n) (hdg : decode cc pc = .ok (.baload, 1))
    (kk : W p l e R s m args below meth c H locs cells slots Q (F0 m (pc + 1) ls (.int (V i k.toNatClampNeg) :: rest))) : W p l e R s m args below meth c H locs cells slots Q (F0 m pc ls (.int k :: .ref (G.2.2 i) :: rest)) := by
  have he : (wl G V)[i]? = some (G.2.2 i, .inl (G.2.1 2, n, .inl (V i))) := by rw [wl_get G V hi2, sh_arr hi h72, hy, hL]
  exact va_zald (en_x E) (en_b E) E.2.2.2.2.2.1 hw.1 i 2 he rfl hin hdg kk
theorem r_al (E : En p s m args c meth cc nL own ret G B) (hw : HW G s.heap V H locs) (i n : Nat) (hi : 23 ≤ i) (hi2 : i < 88) (h72 : i ≠ 72) (hL : sh_L i = n) (hdg : decode cc pc = .ok (.arraylength, 1))
    (kk : W p l e R s m args below meth c H locs cells slots Q (F0 m (pc + 1) ls (.int (nI n) :: rest))) : W p l e R s m args below meth c H locs cells slots Q (F0 m pc ls (.ref (G.2.2 i) :: rest)) := by
  have he : (wl G V)[i]? = some (G.2.2 i, .inl (G.2.1 (sh_Y i), n, .inl (V i))) := by rw [wl_get G V hi2, sh_arr hi h72, hL]
  have ht : ∃ (t0 : Nat) (ty : FieldType), (sh_T G)[t0]? = some (G.2.1 (sh_Y i), ty) := by
    unfold sh_Y
    split
    · exact ⟨0, _, rfl⟩
    · split
      · exact ⟨0, _, rfl⟩
      · split
        · exact ⟨2, _, rfl⟩
        · exact ⟨1, _, rfl⟩
  obtain ⟨t0, ty, ht⟩ := ht
  exact va_alen (en_x E) (en_b E) E.2.2.2.2.2.1 hw.1 i t0 he ht rfl hdg kk
theorem r_is (E : En p s m args c meth cc nL own ret G B) (hw : HW G s.heap V H locs) (i n : Nat) {k v : Int32} (hi : 23 ≤ i) (hi2 : i < 88) (h72 : i ≠ 72) (hy : sh_Y i = 1) (hL : sh_L i = n) (hin : vp_in k n) (hV : V' = va_up V i (upd (V i) k.toNatClampNeg v)) (hdg : decode cc pc = .ok (.iastore, 1))
    (kk : ∀ (H : Heap) (locs : List Loc), HW G s.heap V' H locs → W p l e R s m args below meth c H locs cells slots Q (F0 m (pc + 1) ls rest)) : W p l e R s m args below meth c H locs cells slots Q (F0 m pc ls (.int v :: .int k :: .ref (G.2.2 i) :: rest)) := by
  have he : (wl G V)[i]? = some (G.2.2 i, .inl (G.2.1 1, n, .inl (V i))) := by rw [wl_get G V hi2, sh_arr hi h72, hy, hL]
  refine va_iast (en_x E) (en_b E) E.2.2.2.2.2.1 hw.1 hw.2.1 hw.2.2 i 1 he rfl hin hdg (fun H1 locs1 a1 a2 a3 => ?_)
  have hs : (wl G V).set i (G.2.2 i, .inl (G.2.1 1, n, .inl (upd (V i) k.toNatClampNeg v))) = wl G V' := by
    rw [hV, ← wl_set, sh_arr hi h72, hy, hL]
    simp [va_up]
  rw [hs] at a1 a2
  exact kk H1 locs1 ⟨a1, a2, a3⟩
theorem r_bs (E : En p s m args c meth cc nL own ret G B) (hw : HW G s.heap V H locs) (i n : Nat) {k v : Int32} (hi : 23 ≤ i) (hi2 : i < 88) (h72 : i ≠ 72) (hy : sh_Y i = 0) (hL : sh_L i = n) (hin : vp_in k n) (hV : V' = va_up V i (upd (V i) k.toNatClampNeg (vp_nar .byte v))) (hdg : decode cc pc = .ok (.bastore, 1))
    (kk : ∀ (H : Heap) (locs : List Loc), HW G s.heap V' H locs → W p l e R s m args below meth c H locs cells slots Q (F0 m (pc + 1) ls rest)) : W p l e R s m args below meth c H locs cells slots Q (F0 m pc ls (.int v :: .int k :: .ref (G.2.2 i) :: rest)) := by
  have he : (wl G V)[i]? = some (G.2.2 i, .inl (G.2.1 0, n, .inl (V i))) := by rw [wl_get G V hi2, sh_arr hi h72, hy, hL]
  refine va_bast (en_x E) (en_b E) E.2.2.2.2.2.1 hw.1 hw.2.1 hw.2.2 i 0 he rfl hin hdg (fun H1 locs1 a1 a2 a3 => ?_)
  have hs : (wl G V).set i (G.2.2 i, .inl (G.2.1 0, n, .inl (upd (V i) k.toNatClampNeg (vp_nar .byte v)))) = wl G V' := by
    rw [hV, ← wl_set, sh_arr hi h72, hy, hL]
    simp [va_up]
  rw [hs] at a1 a2
  exact kk H1 locs1 ⟨a1, a2, a3⟩
theorem r_zs (E : En p s m args c meth cc nL own ret G B) (hw : HW G s.heap V H locs) (i n : Nat) {k v : Int32} (hi : 23 ≤ i) (hi2 : i < 88) (h72 : i ≠ 72) (hy : sh_Y i = 2) (hL : sh_L i = n) (hin : vp_in k n) (hV : V' = va_up V i (upd (V i) k.toNatClampNeg (vp_nar .boolean v))) (hdg : decode cc pc = .ok (.bastore, 1))
    (kk : ∀ (H : Heap) (locs : List Loc), HW G s.heap V' H locs → W p l e R s m args below meth c H locs cells slots Q (F0 m (pc + 1) ls rest)) : W p l e R s m args below meth c H locs cells slots Q (F0 m pc ls (.int v :: .int k :: .ref (G.2.2 i) :: rest)) := by
  have he : (wl G V)[i]? = some (G.2.2 i, .inl (G.2.1 2, n, .inl (V i))) := by rw [wl_get G V hi2, sh_arr hi h72, hy, hL]
  refine va_zast (en_x E) (en_b E) E.2.2.2.2.2.1 hw.1 hw.2.1 hw.2.2 i 2 he rfl hin hdg (fun H1 locs1 a1 a2 a3 => ?_)
  have hs : (wl G V).set i (G.2.2 i, .inl (G.2.1 2, n, .inl (upd (V i) k.toNatClampNeg (vp_nar .boolean v)))) = wl G V' := by
    rw [hV, ← wl_set, sh_arr hi h72, hy, hL]
    simp [va_up]
  rw [hs] at a1 a2
  exact kk H1 locs1 ⟨a1, a2, a3⟩
/-- the ends -/
theorem r_ri {r : Int32} (E : En p s m args c meth cc nL own (some .int) G B) (hw : HW G s.heap V H locs) (hdg : decode cc pc = .ok (.ireturn, 1)) : W p l e R s m args below meth c H locs 0 0 (MQ below (QI G s.heap.size r V) args s 0 0 (gA G s.heap.size)) (F0 m pc ls [.int r]) :=
  W.iret (v := r) (en_x E) (en_b E) E.2.2.2.2.2.2.2.2.2 (fun t ht hW => ⟨⟨r, V, rfl, ⟨rfl, rfl⟩, by show va_P _ _ _ t.heap; rw [ht]; exact hw.1⟩, hw.2.2.F ht⟩) hw.2.2.2.2 hdg E.2.2.2.2.2.2.1
theorem nar_z {r : Int32} (h : r = 0 ∨ r = 1) : narrow .boolean (.int r) = .int r := by rcases h with rfl | rfl <;> rfl
theorem fit_z {r : Int32} (h : r = 0 ∨ r = 1) : fits .boolean (.int r) = true := by rcases h with rfl | rfl <;> rfl
theorem r_rz {r : Int32} (E : En p s m args c meth cc nL own (some .boolean) G B) (hw : HW G s.heap V H locs) (h01 : r = 0 ∨ r = 1) (hdg : decode cc pc = .ok (.ireturn, 1)) : W p l e R s m args below meth c H locs 0 0 (MQ below (QI G s.heap.size r V) args s 0 0 (gA G s.heap.size)) (F0 m pc ls [.int r]) :=
  W.zret (v := r) (en_x E) (en_b E) E.2.2.2.2.2.2.2.2.2 (nar_z h01) (fun t ht hW => ⟨⟨r, V, rfl, ⟨rfl, rfl⟩, by show va_P _ _ _ t.heap; rw [ht]; exact hw.1⟩, hw.2.2.F ht⟩) hw.2.2.2.2 hdg E.2.2.2.2.2.2.1
theorem r_rl {r : Int64} (E : En p s m args c meth cc nL own (some .long) G B) (hw : HW G s.heap V H locs) (hdg : decode cc pc = .ok (.lreturn, 1)) : W p l e R s m args below meth c H locs 0 0 (MQ below (QL G s.heap.size r V) args s 0 0 (gA G s.heap.size)) (F0 m pc ls [.long r]) :=
  W.lret (v := r) (en_x E) (en_b E) E.2.2.2.2.2.2.2.2.2 (fun t ht hW => ⟨⟨r, V, rfl, ⟨rfl, rfl⟩, by show va_P _ _ _ t.heap; rw [ht]; exact hw.1⟩, hw.2.2.F ht⟩) hw.2.2.2.2 hdg E.2.2.2.2.2.2.1
theorem r_rv (E : En p s m args c meth cc nL own none G B) (hw : HW G s.heap V H locs) (hdg : decode cc pc = .ok (.return_, 1)) : W p l e R s m args below meth c H locs 0 0 (MQ below (QV G s.heap.size V) args s 0 0 (gA G s.heap.size)) (F0 m pc ls []) :=
  W.vret (en_x E) (en_b E) E.2.2.2.2.2.2.2.2.2 (fun t ht hW => ⟨⟨V, rfl, rfl, by show va_P _ _ _ t.heap; rw [ht]; exact hw.1⟩, hw.2.2.F ht⟩) hw.2.2.2.2 hdg E.2.2.2.2.2.2.1
end RW
/-- a contract out of the walk of the body -/
theorem met_of {l : Launch} {G : GT} {B : BGt} {y : MethodName} {cc : ByteArray} {maxL : Nat} {ret : Option FieldType} {d : Nat} {av : List Value} {V : VT} {Qs : Nat → Array Value → State → Outcome → State → Prop} (hB : BGok B) (hy : plainName y.cls = true) (hlen : (lg_sl av).length ≤ maxL)
    (body : ∀ (p : Program) (e : Env) (s : State) (m : MethodId) (args : Array Value) (below : List Frame) (meth : Method) (c : Code) (ls : Array Slot), En p s m args c meth cc maxL y.cls ret G B → HW G s.heap V s.heap [] → lv_has ls maxL (lv_args 0 av) →
      W p l e (rmD d) s m args below meth c s.heap [] 0 0 (MQ below (Qs s.heap.size) args s 0 0 (gA G s.heap.size)) (F0 m 0 ls [])) (sz : Nat) : Met l y [.code y cc maxL ret] (rmD d) (va_Pc av (Pre G B V sz)) (Qs sz) 0 0 (gA G sz) := by
  refine Met.ofW (cc := cc) (maxL := maxL) (ret := ret) hy rfl ?_
  intro p e s m args below meth c s₁ Bd hml hv
  obtain ⟨rfl, hsz, hP, hK, hD0, hT, hBG⟩ := hv
  subst hsz
  have hl := lv_entry av (n := maxL) hlen
  rw [lg_entry_eq]
  generalize (lg_sl av ++ List.replicate (maxL - (lg_sl av).length) Slot.unset).toArray = ls at hl ⊢
  exact body p e s m _ below meth c ls ⟨Bd.exec, Bd.bytes, hml, findClass_of_methodNamed Bd.named, hT, hK, Bd.notSynchronized, hBG, hB, Bd.returns⟩ ⟨hP, wl_Dg hD0, va_S.rf⟩ hl
/-- a method that can be called: its words -/
def YV (y : MethodName) (bytes : ByteArray) (maxL : Nat) (ret : Option FieldType) (n : Nat) : Prop := Cond.code y bytes maxL ret ∈ lw_tbl ∧ Cond.initialized y.cls ∈ lw_tbl ∧ Cond.instanceMethod y ∈ lw_tbl ∧ Cond.selects y.cls y y ∈ lw_tbl ∧ (y.cls ≠ "java/lang/invoke/MethodHandle" ∧ y.cls ≠ "java/lang/invoke/VarHandle") ∧ (parseMethodDescriptor y.desc).map (fun d => d.parameters.length) = some n
def YS (y : MethodName) (bytes : ByteArray) (maxL : Nat) (ret : Option FieldType) (n : Nat) : Prop := Cond.code y bytes maxL ret ∈ lw_tbl ∧ Cond.initialized y.cls ∈ lw_tbl ∧ Cond.static y ∈ lw_tbl ∧ (y.cls ≠ "java/lang/invoke/MethodHandle" ∧ y.cls ≠ "java/lang/invoke/VarHandle") ∧ (parseMethodDescriptor y.desc).map (fun d => d.parameters.length) = some n
section CW
variable {p : Program} {l : Launch} {e : Env} {s : State} {m : MethodId} {args : Array Value} {below : List Frame} {meth : Method} {c : Code} {H : Heap} {locs : List Loc} {Q : State → Prop}
variable {cc : ByteArray} {pc nL : Nat} {ls : Array Slot} {rest : List Value} {own : String} {ret : Option FieldType} {G : GT} {B : BGt} {V V' : VT}
variable {y : MethodName} {bytes : ByteArray} {maxL : Nat} {rt : Option FieldType} {n d D index : Nat} {As st : List Value}
theorem cb_of (E : En p s m args c meth cc nL own ret G B) (h1 : Cond.code y bytes maxL rt ∈ lw_tbl) (h2 : Cond.initialized y.cls ∈ lw_tbl) (h3 : y.cls ≠ "java/lang/invoke/MethodHandle" ∧ y.cls ≠ "java/lang/invoke/VarHandle") (h4 : (parseMethodDescriptor y.desc).map (fun d => d.parameters.length) = some n) (hlk : Cond.methodLink own index y ∈ lw_tbl) (hd : d + 1 ≤ D) (hL : maxL ≤ 41) : CallB (rmD D) s args own index y bytes maxL rt [Cond.code y bytes maxL rt] (rmD d) 0 0 n := by
  refine ⟨rfl, rfl, hd, ?_, fun w hw a' U hW => ?_, List.mem_cons_self, en_w E h1 rfl, en_w E h2 rfl, h3, fun sig h => ?_, en_w E hlk rfl⟩
  · show 8 + (maxL + 11) + 60 * d ≤ 60 * D
    omega
  · have e : w = Cond.code y bytes maxL rt := by simpa using hw
    subst e
    exact word_at hW (good_of_word rfl) (en_w E h1 rfl)
  · rw [h] at h4
    exact (Option.some.inj h4).symm
theorem pre_at (E : En p s m args c meth cc nL own ret G B) (hw : HW G s.heap V H locs) {U : State} (hU : U.heap = H) (hW : s.WarmedH U.vm) : Pre G B V H.size U := by
  obtain ⟨-, -, -, -, hT, hK, -, hBG, hB, -⟩ := E
  refine ⟨by rw [hU], by rw [hU]; exact hw.1, va_K.moved hW.alike hK, hw.2.1.weaken (fun _ _ _ _ => trivial), hT.warm hW, ?_⟩
  rw [hU]
  refine hB.1 _ s _ _ hW (hB.2.2 (gA G s.heap.size) _ _ _ (hB.2.1 _ _ _ _ hBG hw.2.2.2.1) (fun q h => ?_))
  rcases h with h | h
  · exact Or.inl h
  · exact Or.inr (Nat.le_trans hw.2.2.1 h)
theorem hw_back (hw : HW G s.heap V H locs) {V' : VT} {t : State} {H1 : Heap} {locs1 : List Loc} (ht : t.heap = H1) (hb : va_P G.1 vwCl (wl G V') t.heap) (hS : va_S (gA G s.heap.size) s.heap H1 locs1) : HW G s.heap V' H1 locs1 := ⟨by rw [ht] at hb; exact hb, wl_D hw.2.1, hS⟩
theorem gA_in (hw : HW G s.heap V H locs) : ∀ q, gA G H.size q → gA G s.heap.size q := fun q h => h.elim Or.inl (fun h => Or.inr (Nat.le_trans hw.2.2.1 h))
theorem c_VI {r : Int32} {i : Nat} {q : vw_C} (E : En p s m args c meth cc nL own ret G B) (hw : HW G s.heap V H locs) (hC : CI l G B y (.code y bytes maxL rt) d (.ref (G.2.2 i) :: As) V r V') (hY : YV y bytes maxL rt n) (hlk : Cond.methodLink own index y ∈ lw_tbl) (hn : As.length = n) (hi : i < 23) (hq : vwCl[sh_C i]? = some q) (hqy : q.1 = y.cls) (hl : ls.size = nL) (hd : d + 1 ≤ D) (hL : maxL ≤ 41) (hst : st = As.reverse ++ .ref (G.2.2 i) :: rest) (hcat : (rest.map fun v => v.category).sum ≤ 8) (hdg : decode cc pc = .ok (.invokevirtual index, 3))
    (kk : ∀ (H : Heap) (locs : List Loc), HW G s.heap V' H locs → W p l e (rmD D) s m args below meth c H locs 0 0 Q (F0 m (pc + 3) ls (.int r :: rest))) : W p l e (rmD D) s m args below meth c H locs 0 0 Q (F0 m pc ls st) := by
  obtain ⟨y1, y2, y3, y4, y5, y6⟩ := hY
  have he : (wl G V)[i]? = some (G.2.2 i, .inr (sh_C i, (List.range (sh_N i)).map (sh_f G V i))) := by rw [wl_get G V (by omega)]; unfold sh_e; rw [if_pos hi]
  have hrv := va_recv E.2.2.2.2.2.1 hw.1 hq he
  rw [hqy] at hrv
  refine va_calli (post := fun r2 (u : VT) => r2 = r ∧ u = V') (B := fun u t => va_P G.1 vwCl (wl G u) t.heap) (A1 := gA G H.size) (va_runV (C := y.cls) (b := G.2.2 i) (As := As) (rest := rest) (Ts := []) ⟨E.1, E.2.1, E.2.2.1, E.2.2.2.1, fun _ h => nomatch h⟩ (hC H.size) ⟨cb_of E y1 y2 y5 y6 hlk hd hL, en_w E y3 rfl, en_w E y4 rfl⟩ ⟨pre_blind E.2.2.2.2.2.2.2.2.1, hrv, fun U hU hW => ⟨rfl, pre_at E hw hU hW⟩⟩ rfl hn hl hst (lv_room hcat) hdg ⟨Nat.zero_le _, Nat.zero_le _⟩) hw.2.2 (fun q _ h => gA_in hw q h) (gA_in hw) (fun r1 u t H1 locs1 ht hvm hp hb hz hk hS => ?_)
  obtain ⟨rfl, rfl⟩ := hp
  exact kk H1 locs1 (hw_back hw ht hb hS)
theorem c_VV {i : Nat} {q : vw_C} (E : En p s m args c meth cc nL own ret G B) (hw : HW G s.heap V H locs) (hC : CV l G B y (.code y bytes maxL rt) d (.ref (G.2.2 i) :: As) V V') (hY : YV y bytes maxL rt n) (hlk : Cond.methodLink own index y ∈ lw_tbl) (hn : As.length = n) (hi : i < 23) (hq : vwCl[sh_C i]? = some q) (hqy : q.1 = y.cls) (hl : ls.size = nL) (hd : d + 1 ≤ D) (hL : maxL ≤ 41) (hst : st = As.reverse ++ .ref (G.2.2 i) :: rest) (hcat : (rest.map fun v => v.category).sum ≤ 8) (hdg : decode cc pc = .ok (.invokevirtual index, 3))
    (kk : ∀ (H : Heap) (locs : List Loc), HW G s.heap V' H locs → W p l e (rmD D) s m args below meth c H locs 0 0 Q (F0 m (pc + 3) ls rest)) : W p l e (rmD D) s m args below meth c H locs 0 0 Q (F0 m pc ls st) := by
  obtain ⟨y1, y2, y3, y4, y5, y6⟩ := hY
  have he : (wl G V)[i]? = some (G.2.2 i, .inr (sh_C i, (List.range (sh_N i)).map (sh_f G V i))) := by rw [wl_get G V (by omega)]; unfold sh_e; rw [if_pos hi]
  have hrv := va_recv E.2.2.2.2.2.1 hw.1 hq he
  rw [hqy] at hrv
  refine va_callv (post := fun (u : VT) => u = V') (B := fun u t => va_P G.1 vwCl (wl G u) t.heap) (A1 := gA G H.size) (va_runV (C := y.cls) (b := G.2.2 i) (As := As) (rest := rest) (Ts := []) ⟨E.1, E.2.1, E.2.2.1, E.2.2.2.1, fun _ h => nomatch h⟩ (hC H.size) ⟨cb_of E y1 y2 y5 y6 hlk hd hL, en_w E y3 rfl, en_w E y4 rfl⟩ ⟨pre_blind E.2.2.2.2.2.2.2.2.1, hrv, fun U hU hW => ⟨rfl, pre_at E hw hU hW⟩⟩ rfl hn hl hst (lv_room hcat) hdg ⟨Nat.zero_le _, Nat.zero_le _⟩) hw.2.2 (fun q _ h => gA_in hw q h) (gA_in hw) (fun u t H1 locs1 ht hvm hp hb hz hk hS => ?_)
  subst hp
  exact kk H1 locs1 (hw_back hw ht hb hS)
theorem c_VL {r : Int64} {i : Nat} {q : vw_C} (E : En p s m args c meth cc nL own ret G B) (hw : HW G s.heap V H locs) (hC : CL l G B y (.code y bytes maxL rt) d (.ref (G.2.2 i) :: As) V r V') (hY : YV y bytes maxL rt n) (hlk : Cond.methodLink own index y ∈ lw_tbl) (hn : As.length = n) (hi : i < 23) (hq : vwCl[sh_C i]? = some q) (hqy : q.1 = y.cls) (hl : ls.size = nL) (hd : d + 1 ≤ D) (hL : maxL ≤ 41) (hst : st = As.reverse ++ .ref (G.2.2 i) :: rest) (hcat : (rest.map fun v => v.category).sum ≤ 8) (hdg : decode cc pc = .ok (.invokevirtual index, 3))
    (kk : ∀ (H : Heap) (locs : List Loc), HW G s.heap V' H locs → W p l e (rmD D) s m args below meth c H locs 0 0 Q (F0 m (pc + 3) ls (.long r :: rest))) : W p l e (rmD D) s m args below meth c H locs 0 0 Q (F0 m pc ls st) := by
  obtain ⟨y1, y2, y3, y4, y5, y6⟩ := hY
  have he : (wl G V)[i]? = some (G.2.2 i, .inr (sh_C i, (List.range (sh_N i)).map (sh_f G V i))) := by rw [wl_get G V (by omega)]; unfold sh_e; rw [if_pos hi]
  have hrv := va_recv E.2.2.2.2.2.1 hw.1 hq he
  rw [hqy] at hrv
  refine va_calll (post := fun r2 (u : VT) => r2 = r ∧ u = V') (B := fun u t => va_P G.1 vwCl (wl G u) t.heap) (A1 := gA G H.size) (va_runV (C := y.cls) (b := G.2.2 i) (As := As) (rest := rest) (Ts := []) ⟨E.1, E.2.1, E.2.2.1, E.2.2.2.1, fun _ h => nomatch h⟩ (hC H.size) ⟨cb_of E y1 y2 y5 y6 hlk hd hL, en_w E y3 rfl, en_w E y4 rfl⟩ ⟨pre_blind E.2.2.2.2.2.2.2.2.1, hrv, fun U hU hW => ⟨rfl, pre_at E hw hU hW⟩⟩ rfl hn hl hst (lv_room hcat) hdg ⟨Nat.zero_le _, Nat.zero_le _⟩) hw.2.2 (fun q _ h => gA_in hw q h) (gA_in hw) (fun r1 u t H1 locs1 ht hvm hp hb hz hk hS => ?_)
  obtain ⟨rfl, rfl⟩ := hp
  exact kk H1 locs1 (hw_back hw ht hb hS)
theorem c_SI {r : Int32} (E : En p s m args c meth cc nL own ret G B) (hw : HW G s.heap V H locs) (hC : CI l G B y (.code y bytes maxL rt) d As V r V') (hY : YS y bytes maxL rt n) (hlk : Cond.methodLink own index y ∈ lw_tbl) (hn : As.length = n) (hl : ls.size = nL) (hd : d + 1 ≤ D) (hL : maxL ≤ 41) (hst : st = As.reverse ++ rest) (hcat : (rest.map fun v => v.category).sum ≤ 8) (hdg : decode cc pc = .ok (.invokestatic index, 3))
    (kk : ∀ (H : Heap) (locs : List Loc), HW G s.heap V' H locs → W p l e (rmD D) s m args below meth c H locs 0 0 Q (F0 m (pc + 3) ls (.int r :: rest))) : W p l e (rmD D) s m args below meth c H locs 0 0 Q (F0 m pc ls st) := by
  obtain ⟨y1, y2, y3, y5, y6⟩ := hY
  refine va_calli (post := fun r2 (u : VT) => r2 = r ∧ u = V') (B := fun u t => va_P G.1 vwCl (wl G u) t.heap) (A1 := gA G H.size) (va_runS (As := As) (rest := rest) (Ts := []) ⟨E.1, E.2.1, E.2.2.1, E.2.2.2.1, fun _ h => nomatch h⟩ (hC H.size) ⟨cb_of E y1 y2 y5 y6 hlk hd hL, en_w E y3 rfl⟩ ⟨pre_blind E.2.2.2.2.2.2.2.2.1, fun U hU hW => ⟨rfl, pre_at E hw hU hW⟩⟩ rfl hn hl hst (lv_room hcat) hdg ⟨Nat.zero_le _, Nat.zero_le _⟩) hw.2.2 (fun q _ h => gA_in hw q h) (gA_in hw) (fun r1 u t H1 locs1 ht hvm hp hb hz hk hS => ?_)
  obtain ⟨rfl, rfl⟩ := hp
  exact kk H1 locs1 (hw_back hw ht hb hS)
theorem c_SV (E : En p s m args c meth cc nL own ret G B) (hw : HW G s.heap V H locs) (hC : CV l G B y (.code y bytes maxL rt) d As V V') (hY : YS y bytes maxL rt n) (hlk : Cond.methodLink own index y ∈ lw_tbl) (hn : As.length = n) (hl : ls.size = nL) (hd : d + 1 ≤ D) (hL : maxL ≤ 41) (hst : st = As.reverse ++ rest) (hcat : (rest.map fun v => v.category).sum ≤ 8) (hdg : decode cc pc = .ok (.invokestatic index, 3))
    (kk : ∀ (H : Heap) (locs : List Loc), HW G s.heap V' H locs → W p l e (rmD D) s m args below meth c H locs 0 0 Q (F0 m (pc + 3) ls rest)) : W p l e (rmD D) s m args below meth c H locs 0 0 Q (F0 m pc ls st) := by
  obtain ⟨y1, y2, y3, y5, y6⟩ := hY
  refine va_callv (post := fun (u : VT) => u = V') (B := fun u t => va_P G.1 vwCl (wl G u) t.heap) (A1 := gA G H.size) (va_runS (As := As) (rest := rest) (Ts := []) ⟨E.1, E.2.1, E.2.2.1, E.2.2.2.1, fun _ h => nomatch h⟩ (hC H.size) ⟨cb_of E y1 y2 y5 y6 hlk hd hL, en_w E y3 rfl⟩ ⟨pre_blind E.2.2.2.2.2.2.2.2.1, fun U hU hW => ⟨rfl, pre_at E hw hU hW⟩⟩ rfl hn hl hst (lv_room hcat) hdg ⟨Nat.zero_le _, Nat.zero_le _⟩) hw.2.2 (fun q _ h => gA_in hw q h) (gA_in hw) (fun u t H1 locs1 ht hvm hp hb hz hk hS => ?_)
  subst hp
  exact kk H1 locs1 (hw_back hw ht hb hS)
end CW
