/-! ===== methods that may throw ===== -/
def rmX (d k : Nat) : Room := { frames := d, cells := k, slots := 6 * k, locals := 60 * d }
/-- a call that answers nothing, or throws -/
def ob_N {β : Type} (o : Option (String ⊕ Unit)) (kx : String → Option β) (k : Option β) : Option β := match o with
  | none => none
  | some (.inl E) => kx E
  | some (.inr _) => k
theorem ob_N_some {β : Type} {o : Option (String ⊕ Unit)} {kx : String → Option β} {k : Option β} {r : β} (h : ob_N o kx k = some r) : (∃ E, o = some (.inl E) ∧ kx E = some r) ∨ (o = some (.inr ()) ∧ k = some r) := by
  cases o with
  | none => cases h
  | some x =>
    cases x with
    | inl E => exact Or.inl ⟨E, rfl, h⟩
    | inr u => exact Or.inr ⟨rfl, h⟩
def XE {α : Type} (G : GT) (sz : Nat) (o : String ⊕ α) (V' : VT) : String → State → State → Prop := vx_X (fun (u : VT) => u = V') (fun E u t => o = .inl E ∧ va_P G.1 vwCl (wl G u) t.heap) (gA G sz)
def XQ (G : GT) (sz : Nat) (o : String ⊕ Int32) (V' : VT) : Array Value → State → Outcome → State → Prop := va_Qi (fun r (u : VT) => o = .inr r ∧ u = V') (fun u t => va_P G.1 vwCl (wl G u) t.heap) (gA G sz)
def XW (G : GT) (sz : Nat) (o : String ⊕ Unit) (V' : VT) : Array Value → State → Outcome → State → Prop := va_Qv (fun (u : VT) => o = .inr () ∧ u = V') (fun u t => va_P G.1 vwCl (wl G u) t.heap) (gA G sz)
def XI (l : Launch) (G : GT) (B : BGt) (y : MethodName) (w : Cond) (d k : Nat) (av : List Value) (V : VT) (o : String ⊕ Int32) (V' : VT) : Prop := ∀ sz : Nat, vx_Met l y [w] (rmX d k) (va_Pc av (Pre G B V sz)) (XQ G sz o V') (XE G sz o V') k (6 * k) (gA G sz)
def XN (l : Launch) (G : GT) (B : BGt) (y : MethodName) (w : Cond) (d k : Nat) (av : List Value) (V : VT) (o : String ⊕ Unit) : Prop := ∀ sz : Nat, vx_Met l y [w] (rmX d k) (va_Pc av (Pre G B V sz)) (XW G sz o V) (XE G sz o V) k (6 * k) (gA G sz)
section XR
variable {p : Program} {l : Launch} {e : Env} {R : Room} {s : State} {m : MethodId} {args : Array Value} {below : List Frame} {meth : Method} {c : Code} {H : Heap} {locs : List Loc} {cells slots mc ms : Nat} {Q : State → Prop}
variable {cc : ByteArray} {pc nL : Nat} {ls : Array Slot} {rest : List Value} {own : String} {ret : Option FieldType} {G : GT} {B : BGt} {V V' : VT} {Z : Nat → Nat × Nat}
variable {y : MethodName} {bytes : ByteArray} {maxL : Nat} {rt : Option FieldType} {n d k index : Nat} {As st : List Value}
theorem cg_of (E : En p s m args c meth cc nL own ret G B) (h1 : Cond.code y bytes maxL rt ∈ lw_tbl) (h2 : Cond.initialized y.cls ∈ lw_tbl) (h3 : y.cls ≠ "java/lang/invoke/MethodHandle" ∧ y.cls ≠ "java/lang/invoke/VarHandle") (h4 : (parseMethodDescriptor y.desc).map (fun d => d.parameters.length) = some n) (hlk : Cond.methodLink own index y ∈ lw_tbl) {rm : Room} (hR : rm.frames + 1 ≤ R.frames ∧ 60 + rm.locals ≤ R.locals) (hL : maxL ≤ 41) : CallB R s args own index y bytes maxL rt [Cond.code y bytes maxL rt] rm rm.cells rm.slots n := by
  refine ⟨rfl, rfl, hR.1, ?_, fun w hw a' U hW => ?_, List.mem_cons_self, en_w E h1 rfl, en_w E h2 rfl, h3, fun sig h => ?_, en_w E hlk rfl⟩
  · have := hR.2
    omega
  · have e : w = Cond.code y bytes maxL rt := by simpa using hw
    subst e
    exact word_at hW (good_of_word rfl) (en_w E h1 rfl)
  · rw [h] at h4
    exact (Option.some.inj h4).symm
theorem g_VI {r : Int32} {i : Nat} {q : vw_C} (E : En p s m args c meth cc nL own ret G B) (hw : HW G s.heap V H locs) (hC : CI l G B y (.code y bytes maxL rt) d (.ref (G.2.2 i) :: As) V r V') (hY : YV y bytes maxL rt n) (hlk : Cond.methodLink own index y ∈ lw_tbl) (hn : As.length = n) (hi : i < 23) (hq : vwCl[sh_C i]? = some q) (hqy : q.1 = y.cls) (hl : ls.size = nL) (hR : d + 1 ≤ R.frames ∧ 60 + 60 * d ≤ R.locals) (hf : cells ≤ R.cells ∧ slots ≤ R.slots) (hL : maxL ≤ 41) (hst : st = As.reverse ++ .ref (G.2.2 i) :: rest) (hcat : (rest.map fun v => v.category).sum ≤ 8) (hdg : decode cc pc = .ok (.invokevirtual index, 3))
    (kk : ∀ (H : Heap) (locs : List Loc), HW G s.heap V' H locs → W p l e R s m args below meth c H locs cells slots Q (F0 m (pc + 3) ls (.int r :: rest))) : W p l e R s m args below meth c H locs cells slots Q (F0 m pc ls st) := by
  obtain ⟨y1, y2, y3, y4, y5, y6⟩ := hY
  have he : (wl G V)[i]? = some (G.2.2 i, .inr (sh_C i, (List.range (sh_N i)).map (sh_f G V i))) := by rw [wl_get G V (by omega)]; unfold sh_e; rw [if_pos hi]
  have hrv := va_recv E.2.2.2.2.2.1 hw.1 hq he
  rw [hqy] at hrv
  refine va_calli (post := fun r2 (u : VT) => r2 = r ∧ u = V') (B := fun u t => va_P G.1 vwCl (wl G u) t.heap) (A1 := gA G H.size) (va_runV (C := y.cls) (b := G.2.2 i) (As := As) (rest := rest) (Ts := []) ⟨E.1, E.2.1, E.2.2.1, E.2.2.2.1, fun _ h => nomatch h⟩ (hC H.size) ⟨cg_of (rm := rmD d) E y1 y2 y5 y6 hlk hR hL, en_w E y3 rfl, en_w E y4 rfl⟩ ⟨pre_blind E.2.2.2.2.2.2.2.2.1, hrv, fun U hU hW => ⟨rfl, pre_at E hw hU hW⟩⟩ rfl hn hl hst (lv_room hcat) hdg hf) hw.2.2 (fun q _ h => gA_in hw q h) (gA_in hw) (fun r1 u t H1 locs1 ht hvm hp hb hz hk hS => ?_)
  obtain ⟨rfl, rfl⟩ := hp
  exact kk H1 locs1 (hw_back hw ht hb hS)
theorem g_VV {i : Nat} {q : vw_C} (E : En p s m args c meth cc nL own ret G B) (hw : HW G s.heap V H locs) (hC : CV l G B y (.code y bytes maxL rt) d (.ref (G.2.2 i) :: As) V V') (hY : YV y bytes maxL rt n) (hlk : Cond.methodLink own index y ∈ lw_tbl) (hn : As.length = n) (hi : i < 23) (hq : vwCl[sh_C i]? = some q) (hqy : q.1 = y.cls) (hl : ls.size = nL) (hR : d + 1 ≤ R.frames ∧ 60 + 60 * d ≤ R.locals) (hf : cells ≤ R.cells ∧ slots ≤ R.slots) (hL : maxL ≤ 41) (hst : st = As.reverse ++ .ref (G.2.2 i) :: rest) (hcat : (rest.map fun v => v.category).sum ≤ 8) (hdg : decode cc pc = .ok (.invokevirtual index, 3))
    (kk : ∀ (H : Heap) (locs : List Loc), HW G s.heap V' H locs → W p l e R s m args below meth c H locs cells slots Q (F0 m (pc + 3) ls rest)) : W p l e R s m args below meth c H locs cells slots Q (F0 m pc ls st) := by
  obtain ⟨y1, y2, y3, y4, y5, y6⟩ := hY
  have he : (wl G V)[i]? = some (G.2.2 i, .inr (sh_C i, (List.range (sh_N i)).map (sh_f G V i))) := by rw [wl_get G V (by omega)]; unfold sh_e; rw [if_pos hi]
  have hrv := va_recv E.2.2.2.2.2.1 hw.1 hq he
  rw [hqy] at hrv
  refine va_callv (post := fun (u : VT) => u = V') (B := fun u t => va_P G.1 vwCl (wl G u) t.heap) (A1 := gA G H.size) (va_runV (C := y.cls) (b := G.2.2 i) (As := As) (rest := rest) (Ts := []) ⟨E.1, E.2.1, E.2.2.1, E.2.2.2.1, fun _ h => nomatch h⟩ (hC H.size) ⟨cg_of (rm := rmD d) E y1 y2 y5 y6 hlk hR hL, en_w E y3 rfl, en_w E y4 rfl⟩ ⟨pre_blind E.2.2.2.2.2.2.2.2.1, hrv, fun U hU hW => ⟨rfl, pre_at E hw hU hW⟩⟩ rfl hn hl hst (lv_room hcat) hdg hf) hw.2.2 (fun q _ h => gA_in hw q h) (gA_in hw) (fun u t H1 locs1 ht hvm hp hb hz hk hS => ?_)
  subst hp
  exact kk H1 locs1 (hw_back hw ht hb hS)
theorem g_VL {r : Int64} {i : Nat} {q : vw_C} (E : En p s m args c meth cc nL own ret G B) (hw : HW G s.heap V H locs) (hC : CL l G B y (.code y bytes maxL rt) d (.ref (G.2.2 i) :: As) V r V') (hY : YV y bytes maxL rt n) (hlk : Cond.methodLink own index y ∈ lw_tbl) (hn : As.length = n) (hi : i < 23) (hq : vwCl[sh_C i]? = some q) (hqy : q.1 = y.cls) (hl : ls.size = nL) (hR : d + 1 ≤ R.frames ∧ 60 + 60 * d ≤ R.locals) (hf : cells ≤ R.cells ∧ slots ≤ R.slots) (hL : maxL ≤ 41) (hst : st = As.reverse ++ .ref (G.2.2 i) :: rest) (hcat : (rest.map fun v => v.category).sum ≤ 8) (hdg : decode cc pc = .ok (.invokevirtual index, 3))
    (kk : ∀ (H : Heap) (locs : List Loc), HW G s.heap V' H locs → W p l e R s m args below meth c H locs cells slots Q (F0 m (pc + 3) ls (.long r :: rest))) : W p l e R s m args below meth c H locs cells slots Q (F0 m pc ls st) := by
  obtain ⟨y1, y2, y3, y4, y5, y6⟩ := hY
  have he : (wl G V)[i]? = some (G.2.2 i, .inr (sh_C i, (List.range (sh_N i)).map (sh_f G V i))) := by rw [wl_get G V (by omega)]; unfold sh_e; rw [if_pos hi]
  have hrv := va_recv E.2.2.2.2.2.1 hw.1 hq he
  rw [hqy] at hrv
  refine va_calll (post := fun r2 (u : VT) => r2 = r ∧ u = V') (B := fun u t => va_P G.1 vwCl (wl G u) t.heap) (A1 := gA G H.size) (va_runV (C := y.cls) (b := G.2.2 i) (As := As) (rest := rest) (Ts := []) ⟨E.1, E.2.1, E.2.2.1, E.2.2.2.1, fun _ h => nomatch h⟩ (hC H.size) ⟨cg_of (rm := rmD d) E y1 y2 y5 y6 hlk hR hL, en_w E y3 rfl, en_w E y4 rfl⟩ ⟨pre_blind E.2.2.2.2.2.2.2.2.1, hrv, fun U hU hW => ⟨rfl, pre_at E hw hU hW⟩⟩ rfl hn hl hst (lv_room hcat) hdg hf) hw.2.2 (fun q _ h => gA_in hw q h) (gA_in hw) (fun r1 u t H1 locs1 ht hvm hp hb hz hk hS => ?_)
  obtain ⟨rfl, rfl⟩ := hp
  exact kk H1 locs1 (hw_back hw ht hb hS)
theorem g_SI {r : Int32} (E : En p s m args c meth cc nL own ret G B) (hw : HW G s.heap V H locs) (hC : CI l G B y (.code y bytes maxL rt) d As V r V') (hY : YS y bytes maxL rt n) (hlk : Cond.methodLink own index y ∈ lw_tbl) (hn : As.length = n) (hl : ls.size = nL) (hR : d + 1 ≤ R.frames ∧ 60 + 60 * d ≤ R.locals) (hf : cells ≤ R.cells ∧ slots ≤ R.slots) (hL : maxL ≤ 41) (hst : st = As.reverse ++ rest) (hcat : (rest.map fun v => v.category).sum ≤ 8) (hdg : decode cc pc = .ok (.invokestatic index, 3))
    (kk : ∀ (H : Heap) (locs : List Loc), HW G s.heap V' H locs → W p l e R s m args below meth c H locs cells slots Q (F0 m (pc + 3) ls (.int r :: rest))) : W p l e R s m args below meth c H locs cells slots Q (F0 m pc ls st) := by
  obtain ⟨y1, y2, y3, y5, y6⟩ := hY
  refine va_calli (post := fun r2 (u : VT) => r2 = r ∧ u = V') (B := fun u t => va_P G.1 vwCl (wl G u) t.heap) (A1 := gA G H.size) (va_runS (As := As) (rest := rest) (Ts := []) ⟨E.1, E.2.1, E.2.2.1, E.2.2.2.1, fun _ h => nomatch h⟩ (hC H.size) ⟨cg_of (rm := rmD d) E y1 y2 y5 y6 hlk hR hL, en_w E y3 rfl⟩ ⟨pre_blind E.2.2.2.2.2.2.2.2.1, fun U hU hW => ⟨rfl, pre_at E hw hU hW⟩⟩ rfl hn hl hst (lv_room hcat) hdg hf) hw.2.2 (fun q _ h => gA_in hw q h) (gA_in hw) (fun r1 u t H1 locs1 ht hvm hp hb hz hk hS => ?_)
  obtain ⟨rfl, rfl⟩ := hp
  exact kk H1 locs1 (hw_back hw ht hb hS)
theorem g_SV (E : En p s m args c meth cc nL own ret G B) (hw : HW G s.heap V H locs) (hC : CV l G B y (.code y bytes maxL rt) d As V V') (hY : YS y bytes maxL rt n) (hlk : Cond.methodLink own index y ∈ lw_tbl) (hn : As.length = n) (hl : ls.size = nL) (hR : d + 1 ≤ R.frames ∧ 60 + 60 * d ≤ R.locals) (hf : cells ≤ R.cells ∧ slots ≤ R.slots) (hL : maxL ≤ 41) (hst : st = As.reverse ++ rest) (hcat : (rest.map fun v => v.category).sum ≤ 8) (hdg : decode cc pc = .ok (.invokestatic index, 3))
    (kk : ∀ (H : Heap) (locs : List Loc), HW G s.heap V' H locs → W p l e R s m args below meth c H locs cells slots Q (F0 m (pc + 3) ls rest)) : W p l e R s m args below meth c H locs cells slots Q (F0 m pc ls st) := by
  obtain ⟨y1, y2, y3, y5, y6⟩ := hY
  refine va_callv (post := fun (u : VT) => u = V') (B := fun u t => va_P G.1 vwCl (wl G u) t.heap) (A1 := gA G H.size) (va_runS (As := As) (rest := rest) (Ts := []) ⟨E.1, E.2.1, E.2.2.1, E.2.2.2.1, fun _ h => nomatch h⟩ (hC H.size) ⟨cg_of (rm := rmD d) E y1 y2 y5 y6 hlk hR hL, en_w E y3 rfl⟩ ⟨pre_blind E.2.2.2.2.2.2.2.2.1, fun U hU hW => ⟨rfl, pre_at E hw hU hW⟩⟩ rfl hn hl hst (lv_room hcat) hdg hf) hw.2.2 (fun q _ h => gA_in hw q h) (gA_in hw) (fun u t H1 locs1 ht hvm hp hb hz hk hS => ?_)
  subst hp
  exact kk H1 locs1 (hw_back hw ht hb hS)
theorem rg_min {x y : Int32} {index : Nat} (E : En p s m args c meth cc nL own ret G B) (hl : ls.size = nL) (hlk : Cond.methodLink own index Lib.Math.min.name ∈ lw_tbl) (hD : 1 ≤ R.frames ∧ 60 ≤ R.locals) (hf : cells ≤ R.cells ∧ slots ≤ R.slots) (hcat : (rest.map fun v => v.category).sum ≤ 8) (hdg : decode cc pc = .ok (.invokestatic index, 3))
    (kk : W p l e R s m args below meth c H locs cells slots Q (F0 m (pc + 3) ls (.int (if y < x then y else x) :: rest))) : W p l e R s m args below meth c H locs cells slots Q (F0 m pc ls (.int y :: .int x :: rest)) :=
  va_mmin (en_x E) (en_b E) (E.2.2.1.trans hl.symm) E.2.2.2.1 (en_w E hlk rfl) (en_w E mt_min.1 rfl) (en_w E mt_ini rfl) (en_w E mt_min.2 rfl) hD.1 (by have := hD.2; omega) hf.1 hf.2 hdg kk
theorem rg_max {x y : Int32} {index : Nat} (E : En p s m args c meth cc nL own ret G B) (hl : ls.size = nL) (hlk : Cond.methodLink own index Lib.Math.max.name ∈ lw_tbl) (hD : 1 ≤ R.frames ∧ 60 ≤ R.locals) (hf : cells ≤ R.cells ∧ slots ≤ R.slots) (hcat : (rest.map fun v => v.category).sum ≤ 8) (hdg : decode cc pc = .ok (.invokestatic index, 3))
    (kk : W p l e R s m args below meth c H locs cells slots Q (F0 m (pc + 3) ls (.int (if x < y then y else x) :: rest))) : W p l e R s m args below meth c H locs cells slots Q (F0 m pc ls (.int y :: .int x :: rest)) :=
  va_mmax (en_x E) (en_b E) (E.2.2.1.trans hl.symm) E.2.2.2.1 (en_w E hlk rfl) (en_w E mt_max.1 rfl) (en_w E mt_ini rfl) (en_w E mt_max.2 rfl) hD.1 (by have := hD.2; omega) hf.1 hf.2 hdg kk
theorem rg_abs {x : Int32} {index : Nat} (E : En p s m args c meth cc nL own ret G B) (hl : ls.size = nL) (hlk : Cond.methodLink own index Lib.Math.abs.name ∈ lw_tbl) (hD : 1 ≤ R.frames ∧ 60 ≤ R.locals) (hf : cells ≤ R.cells ∧ slots ≤ R.slots) (hcat : (rest.map fun v => v.category).sum ≤ 8) (hdg : decode cc pc = .ok (.invokestatic index, 3))
    (kk : W p l e R s m args below meth c H locs cells slots Q (F0 m (pc + 3) ls (.int (if 0 ≤ x then x else 0 - x) :: rest))) : W p l e R s m args below meth c H locs cells slots Q (F0 m pc ls (.int x :: rest)) :=
  va_mabs (en_x E) (en_b E) (E.2.2.1.trans hl.symm) E.2.2.2.1 (en_w E hlk rfl) (en_w E mt_abs.1 rfl) (en_w E mt_ini rfl) (en_w E mt_abs.2 rfl) hD.1 (by have := hD.2; omega) hf.1 hf.2 hdg kk
theorem x_ri {r : Int32} {XC : String → State → State → Prop} (E : En p s m args c meth cc nL own (some .int) G B) (hw : HW G s.heap V H locs) (hc : cells ≤ mc) (hs : slots ≤ ms) (hdg : decode cc pc = .ok (.ireturn, 1)) : W p l e R s m args below meth c H locs cells slots (vx_MQ below (XQ G s.heap.size (.inr r) V) XC args s mc ms (gA G s.heap.size)) (F0 m pc ls [.int r]) :=
  W.widen hc hs (vx_ret (W.iret (v := r) (en_x E) (en_b E) E.2.2.2.2.2.2.2.2.2 (fun t ht hW => ⟨⟨r, V, rfl, ⟨rfl, rfl⟩, by show va_P _ _ _ t.heap; rw [ht]; exact hw.1⟩, hw.2.2.F ht⟩) hw.2.2.2.2 hdg E.2.2.2.2.2.2.1))
theorem x_rz {r : Int32} {XC : String → State → State → Prop} (E : En p s m args c meth cc nL own (some .boolean) G B) (hw : HW G s.heap V H locs) (hc : cells ≤ mc) (hs : slots ≤ ms) (h01 : r = 0 ∨ r = 1) (hdg : decode cc pc = .ok (.ireturn, 1)) : W p l e R s m args below meth c H locs cells slots (vx_MQ below (XQ G s.heap.size (.inr r) V) XC args s mc ms (gA G s.heap.size)) (F0 m pc ls [.int r]) :=
  W.widen hc hs (vx_ret (W.zret (v := r) (en_x E) (en_b E) E.2.2.2.2.2.2.2.2.2 (nar_z h01) (fun t ht hW => ⟨⟨r, V, rfl, ⟨rfl, rfl⟩, by show va_P _ _ _ t.heap; rw [ht]; exact hw.1⟩, hw.2.2.F ht⟩) hw.2.2.2.2 hdg E.2.2.2.2.2.2.1))
theorem x_rv {XC : String → State → State → Prop} (E : En p s m args c meth cc nL own none G B) (hw : HW G s.heap V H locs) (hc : cells ≤ mc) (hs : slots ≤ ms) (hdg : decode cc pc = .ok (.return_, 1)) : W p l e R s m args below meth c H locs cells slots (vx_MQ below (XW G s.heap.size (.inr ()) V) XC args s mc ms (gA G s.heap.size)) (F0 m pc ls []) :=
  W.widen hc hs (vx_ret (W.vret (en_x E) (en_b E) E.2.2.2.2.2.2.2.2.2 (fun t ht hW => ⟨⟨V, rfl, ⟨rfl, rfl⟩, by show va_P _ _ _ t.heap; rw [ht]; exact hw.1⟩, hw.2.2.F ht⟩) hw.2.2.2.2 hdg E.2.2.2.2.2.2.1))
/-- what a throw leaves -/
theorem xe_of {α : Type} {Ec : String} (hw : HW G s.heap V H locs) {t : State} (h1 : H.size ≤ t.heap.size) (h2 : ∀ q : Nat, q < H.size → t.heap[q]? = H[q]?) : XE (α := α) G s.heap.size (.inl Ec) V Ec s t := by
  refine ⟨V, rfl, ⟨rfl, hw.1.kept (fun k q hk => h2 q.1 (vx_lt hw.1 hk))⟩, Nat.le_trans hw.2.2.1 h1, fun q h3 h4 => ?_⟩
  rw [h2 q (Nat.lt_of_lt_of_le h3 hw.2.2.1)]
  exact hw.2.2.2.1 q h3 h4
/-- a callee that may throw, and does not -/
theorem x_VVn {i : Nat} {q : vw_C} (E : En p s m args c meth cc nL own ret G B) (hw : HW G s.heap V H locs) (hC : XN l G B y (.code y bytes maxL rt) d k (.ref (G.2.2 i) :: As) V (.inr ())) (hY : YV y bytes maxL rt n) (hlk : Cond.methodLink own index y ∈ lw_tbl) (hn : As.length = n) (hi : i < 23) (hq : vwCl[sh_C i]? = some q) (hqy : q.1 = y.cls) (hl : ls.size = nL) (hR : d + 1 ≤ R.frames ∧ 60 + 60 * d ≤ R.locals) (hf : cells + k ≤ R.cells ∧ slots + 6 * k ≤ R.slots) (hL : maxL ≤ 41) (hst : st = As.reverse ++ .ref (G.2.2 i) :: rest) (hcat : (rest.map fun v => v.category).sum ≤ 8) (hdg : decode cc pc = .ok (.invokevirtual index, 3))
    (kk : ∀ (H : Heap) (locs : List Loc), HW G s.heap V H locs → W p l e R s m args below meth c H locs (cells + k) (slots + 6 * k) Q (F0 m (pc + 3) ls rest)) : W p l e R s m args below meth c H locs cells slots Q (F0 m pc ls st) := by
  obtain ⟨y1, y2, y3, y4, y5, y6⟩ := hY
  have he : (wl G V)[i]? = some (G.2.2 i, .inr (sh_C i, (List.range (sh_N i)).map (sh_f G V i))) := by rw [wl_get G V (by omega)]; unfold sh_e; rw [if_pos hi]
  have hrv := va_recv E.2.2.2.2.2.1 hw.1 hq he
  rw [hqy] at hrv
  refine vx_callv (post := fun (u : VT) => (.inr () : String ⊕ Unit) = .inr () ∧ u = V) (B := fun u t => va_P G.1 vwCl (wl G u) t.heap) (A1 := gA G H.size) (vx_runV (C := y.cls) (b := G.2.2 i) (As := As) (rest := rest) (Ts := []) ⟨E.1, E.2.1, E.2.2.1, E.2.2.2.1, fun _ h => nomatch h⟩ (hC H.size) ⟨cg_of (rm := rmX d k) E y1 y2 y5 y6 hlk hR hL, en_w E y3 rfl, en_w E y4 rfl⟩ ⟨pre_blind E.2.2.2.2.2.2.2.2.1, hrv, fun U hU hW => ⟨rfl, pre_at E hw hU hW⟩⟩ rfl hn hl hst (lv_room hcat) hdg hf) hw.2.2 (fun q _ h => gA_in hw q h) (gA_in hw) (fun q _ h => gA_in hw q h) (fun E1 ce q9 u t H1 locs1 ht hvm hp hb hz hk hS h1 h2 h3 => by cases hb.1) (fun u t H1 locs1 ht hvm hp hb hz hk hS => ?_)
  obtain ⟨-, rfl⟩ := hp
  exact kk H1 locs1 (hw_back hw ht hb hS)
theorem x_VVe {α : Type} {Qc : Array Value → State → Outcome → State → Prop} {Ec : String} {i : Nat} {q : vw_C} (E : En p s m args c meth cc nL own ret G B) (hw : HW G s.heap V H locs) (hC : XN l G B y (.code y bytes maxL rt) d k (.ref (G.2.2 i) :: As) V (.inl Ec)) (hY : YV y bytes maxL rt n) (hlk : Cond.methodLink own index y ∈ lw_tbl) (hn : As.length = n) (hi : i < 23) (hq : vwCl[sh_C i]? = some q) (hqy : q.1 = y.cls) (hl : ls.size = nL) (hR : d + 1 ≤ R.frames ∧ 60 + 60 * d ≤ R.locals) (hf : cells + k ≤ R.cells ∧ slots + 6 * k ≤ R.slots) (hL : maxL ≤ 41) (hst : st = As.reverse ++ .ref (G.2.2 i) :: rest) (hcat : (rest.map fun v => v.category).sum ≤ 8) (hdg : decode cc pc = .ok (.invokevirtual index, 3)) (hnt : ∀ x ∈ c.exceptionTable.toList, False) (hm : cells + k ≤ mc ∧ slots + 6 * k ≤ ms) : W p l e R s m args below meth c H locs cells slots (vx_MQ below Qc (XE (α := α) G s.heap.size (.inl Ec) V) args s mc ms (gA G s.heap.size)) (F0 m pc ls st) := by
  obtain ⟨y1, y2, y3, y4, y5, y6⟩ := hY
  have he : (wl G V)[i]? = some (G.2.2 i, .inr (sh_C i, (List.range (sh_N i)).map (sh_f G V i))) := by rw [wl_get G V (by omega)]; unfold sh_e; rw [if_pos hi]
  have hrv := va_recv E.2.2.2.2.2.1 hw.1 hq he
  rw [hqy] at hrv
  refine vx_callv (post := fun (u : VT) => (.inl Ec : String ⊕ Unit) = .inr () ∧ u = V) (B := fun u t => va_P G.1 vwCl (wl G u) t.heap) (A1 := gA G H.size) (vx_runV (C := y.cls) (b := G.2.2 i) (As := As) (rest := rest) (Ts := []) ⟨E.1, E.2.1, E.2.2.1, E.2.2.2.1, fun _ h => nomatch h⟩ (hC H.size) ⟨cg_of (rm := rmX d k) E y1 y2 y5 y6 hlk hR hL, en_w E y3 rfl, en_w E y4 rfl⟩ ⟨pre_blind E.2.2.2.2.2.2.2.2.1, hrv, fun U hU hW => ⟨rfl, pre_at E hw hU hW⟩⟩ rfl hn hl hst (lv_room hcat) hdg hf) hw.2.2 (fun q _ h => gA_in hw q h) (gA_in hw) (fun q _ h => gA_in hw q h) (fun E1 ce q9 u t H1 locs1 ht hvm hp hb hz hk hS h1 h2 h3 => ?_) (fun u t H1 locs1 ht hvm hp hb hz hk hS => by cases hp.1)
  obtain ⟨hb1, hb2⟩ := hb
  cases hb1
  subst hp
  have hw1 := hw_back hw ht hb2 hS
  exact vx_out (E := Ec) (fun x hx => (hnt x hx).elim) E.2.2.2.2.2.2.1 h1 h2 h3 (fun t2 e2 _ => xe_of hw1 (by rw [e2]; exact Nat.le_refl _) (fun q _ => by rw [e2])) hS.2.2 hm.1 hm.2
theorem x_SVn (E : En p s m args c meth cc nL own ret G B) (hw : HW G s.heap V H locs) (hC : XN l G B y (.code y bytes maxL rt) d k As V (.inr ())) (hY : YS y bytes maxL rt n) (hlk : Cond.methodLink own index y ∈ lw_tbl) (hn : As.length = n) (hl : ls.size = nL) (hR : d + 1 ≤ R.frames ∧ 60 + 60 * d ≤ R.locals) (hf : cells + k ≤ R.cells ∧ slots + 6 * k ≤ R.slots) (hL : maxL ≤ 41) (hst : st = As.reverse ++ rest) (hcat : (rest.map fun v => v.category).sum ≤ 8) (hdg : decode cc pc = .ok (.invokestatic index, 3))
    (kk : ∀ (H : Heap) (locs : List Loc), HW G s.heap V H locs → W p l e R s m args below meth c H locs (cells + k) (slots + 6 * k) Q (F0 m (pc + 3) ls rest)) : W p l e R s m args below meth c H locs cells slots Q (F0 m pc ls st) := by
  obtain ⟨y1, y2, y3, y5, y6⟩ := hY
  refine vx_callv (post := fun (u : VT) => (.inr () : String ⊕ Unit) = .inr () ∧ u = V) (B := fun u t => va_P G.1 vwCl (wl G u) t.heap) (A1 := gA G H.size) (vx_runS (As := As) (rest := rest) (Ts := []) ⟨E.1, E.2.1, E.2.2.1, E.2.2.2.1, fun _ h => nomatch h⟩ (hC H.size) ⟨cg_of (rm := rmX d k) E y1 y2 y5 y6 hlk hR hL, en_w E y3 rfl⟩ ⟨pre_blind E.2.2.2.2.2.2.2.2.1, fun U hU hW => ⟨rfl, pre_at E hw hU hW⟩⟩ rfl hn hl hst (lv_room hcat) hdg hf) hw.2.2 (fun q _ h => gA_in hw q h) (gA_in hw) (fun q _ h => gA_in hw q h) (fun E1 ce q9 u t H1 locs1 ht hvm hp hb hz hk hS h1 h2 h3 => by cases hb.1) (fun u t H1 locs1 ht hvm hp hb hz hk hS => ?_)
  obtain ⟨-, rfl⟩ := hp
  exact kk H1 locs1 (hw_back hw ht hb hS)
theorem x_SVe {α : Type} {Qc : Array Value → State → Outcome → State → Prop} {Ec : String} (E : En p s m args c meth cc nL own ret G B) (hw : HW G s.heap V H locs) (hC : XN l G B y (.code y bytes maxL rt) d k As V (.inl Ec)) (hY : YS y bytes maxL rt n) (hlk : Cond.methodLink own index y ∈ lw_tbl) (hn : As.length = n) (hl : ls.size = nL) (hR : d + 1 ≤ R.frames ∧ 60 + 60 * d ≤ R.locals) (hf : cells + k ≤ R.cells ∧ slots + 6 * k ≤ R.slots) (hL : maxL ≤ 41) (hst : st = As.reverse ++ rest) (hcat : (rest.map fun v => v.category).sum ≤ 8) (hdg : decode cc pc = .ok (.invokestatic index, 3)) (hnt : ∀ x ∈ c.exceptionTable.toList, False) (hm : cells + k ≤ mc ∧ slots + 6 * k ≤ ms) : W p l e R s m args below meth c H locs cells slots (vx_MQ below Qc (XE (α := α) G s.heap.size (.inl Ec) V) args s mc ms (gA G s.heap.size)) (F0 m pc ls st) := by
  obtain ⟨y1, y2, y3, y5, y6⟩ := hY
  refine vx_callv (post := fun (u : VT) => (.inl Ec : String ⊕ Unit) = .inr () ∧ u = V) (B := fun u t => va_P G.1 vwCl (wl G u) t.heap) (A1 := gA G H.size) (vx_runS (As := As) (rest := rest) (Ts := []) ⟨E.1, E.2.1, E.2.2.1, E.2.2.2.1, fun _ h => nomatch h⟩ (hC H.size) ⟨cg_of (rm := rmX d k) E y1 y2 y5 y6 hlk hR hL, en_w E y3 rfl⟩ ⟨pre_blind E.2.2.2.2.2.2.2.2.1, fun U hU hW => ⟨rfl, pre_at E hw hU hW⟩⟩ rfl hn hl hst (lv_room hcat) hdg hf) hw.2.2 (fun q _ h => gA_in hw q h) (gA_in hw) (fun q _ h => gA_in hw q h) (fun E1 ce q9 u t H1 locs1 ht hvm hp hb hz hk hS h1 h2 h3 => ?_) (fun u t H1 locs1 ht hvm hp hb hz hk hS => by cases hp.1)
  obtain ⟨hb1, hb2⟩ := hb
  cases hb1
  subst hp
  have hw1 := hw_back hw ht hb2 hS
  exact vx_out (E := Ec) (fun x hx => (hnt x hx).elim) E.2.2.2.2.2.2.1 h1 h2 h3 (fun t2 e2 _ => xe_of hw1 (by rw [e2]; exact Nat.le_refl _) (fun q _ => by rw [e2])) hS.2.2 hm.1 hm.2
/-- throw new E("text") -/
theorem x_th {α : Type} {Qc : Array Value → State → Outcome → State → Prop} {w ik is ic : Nat} {cls : String} (E : En p s m args c meth cc nL own ret G (SG Z)) (hw : HW G s.heap V H locs) (ht : l.stackTraces = false) (hz : w < 65) (hO : sO w = own) (hI : sK w = is) (hcls : Bundle.fit cls = true) (hk : Cond.classLink own ik cls ∈ lw_tbl) (hini : Cond.initialized cls ∈ lw_tbl) (hat : ∀ w ∈ (vx_atS own ic cls ["java/lang/RuntimeException", "java/lang/Exception"]).filter goodWord, w ∈ lw_tbl) (hat2 : ∀ w ∈ (vx_atS own ic cls ["java/lang/RuntimeException", "java/lang/Exception"]).filter (fun w => !goodWord w), w ∈ lw_tbl ∧ (w ∈ [Cond.castable cls cls] ∨ w ∈ [Cond.declares (Bundle.initS "java/lang/RuntimeException"), Cond.declares (Bundle.initS "java/lang/Exception"), Cond.declares (Bundle.initS "java/lang/Throwable")]))
    (hgood : ∀ w ∈ Cond.classLink own ik cls :: Cond.initialized cls :: vx_atS own ic cls ["java/lang/RuntimeException", "java/lang/Exception"], vx_ot w = true) (hl : ls.size = nL)
    (d0 : decode cc pc = .ok (.new ik, 3)) (d3 : decode cc (pc + 3) = .ok (.dup, 1)) (dd : (decode cc (pc + 4) = .ok (.ldc is, 2) ∧ decode cc (pc + 6) = .ok (.invokespecial ic, 3) ∧ decode cc (pc + 9) = .ok (.athrow, 1)) ∨ (decode cc (pc + 4) = .ok (.ldc_w is, 3) ∧ decode cc (pc + 7) = .ok (.invokespecial ic, 3) ∧ decode cc (pc + 10) = .ok (.athrow, 1)))
    (hnt : ∀ x ∈ c.exceptionTable.toList, False) (hR : 6 ≤ R.frames ∧ 360 ≤ R.locals) (hf : cells + 1 ≤ R.cells ∧ slots + 6 ≤ R.slots) (hcat : (rest.map fun v => v.category).sum ≤ 8) (hm : cells + 1 ≤ mc ∧ slots + 6 ≤ ms) : W p l e R s m args below meth c H locs cells slots (vx_MQ below Qc (XE (α := α) G s.heap.size (.inl cls) V) args s mc ms (gA G s.heap.size)) (F0 m pc ls rest) := by
  have hG := en_G E
  have hz2 := hG.2.1 w hz
  rw [hO, hI] at hz2
  have hw8 : ∀ w ∈ vx_atS own ic cls ["java/lang/RuntimeException", "java/lang/Exception"], w.before args s = true := by
    intro w h
    by_cases hg : goodWord w = true
    · exact en_w E (hat w (List.mem_filter.mpr ⟨h, hg⟩)) hg
    · obtain ⟨hm1, hm2⟩ := hat2 w (List.mem_filter.mpr ⟨h, by simpa using hg⟩)
      rcases hm2 with hm2 | hm2
      · have e1 := List.mem_singleton.mp hm2
        subst e1
        exact va_Nw.use rfl (hG.2.2.2.2.2.2.1 cls cls hm1)
      · simp only [List.mem_cons, List.not_mem_nil, or_false] at hm2
        rcases hm2 with rfl | rfl | rfl <;> exact va_Nw.use rfl (hG.2.2.2.2.2.2.2 _ hm1)
  have hsz : ls.size = c.maxLocals := hl.trans E.2.2.1.symm
  have hx : ∀ t : State, s.vm.Alike t.vm → H.size ≤ t.heap.size → (∀ q : Nat, q < H.size → t.heap[q]? = H[q]?) → XE (α := α) G s.heap.size (.inl cls) V cls s t := fun t _ h1 h2 => xe_of hw h1 h2
  have hnm : ∀ n ∈ ["java/lang/RuntimeException", "java/lang/Exception"], Bundle.fit n = true := by decide
  rcases dd with ⟨d4, d6, d9⟩ | ⟨d4, d7, d10⟩
  · exact vx_throwS (names := ["java/lang/RuntimeException", "java/lang/Exception"]) (en_x E) (en_b E) ht E.2.2.2.1 hcls hnm (en_w E hk rfl) (en_w E hini rfl) hz2 hw8 hgood hG.2.2.2.2.1 hG.2.2.2.2.2.1 hw.2.2 hsz d0 d3 d4 d6 d9 (fun x hx => (hnt x hx).elim) (by show 2 + 3 < R.frames; omega) (by show _ + (13 * (2 + 1) + 43) ≤ R.locals; omega) hf.1 hf.2 E.2.2.2.2.2.2.1 hx hw.2.2.2.2 hm.1 hm.2
  · exact vx_throwSW (names := ["java/lang/RuntimeException", "java/lang/Exception"]) (en_x E) (en_b E) ht E.2.2.2.1 hcls hnm (en_w E hk rfl) (en_w E hini rfl) hz2 hw8 hgood hG.2.2.2.2.1 hG.2.2.2.2.2.1 hw.2.2 hsz d0 d3 d4 d7 d10 (fun x hx => (hnt x hx).elim) (by show 2 + 3 < R.frames; omega) (by show _ + (13 * (2 + 1) + 43) ≤ R.locals; omega) hf.1 hf.2 E.2.2.2.2.2.2.1 hx hw.2.2.2.2 hm.1 hm.2
end XR
/-- a contract of a method that may throw, out of the walk of its body -/
theorem xmet_of {l : Launch} {G : GT} {B : BGt} {y : MethodName} {cc : ByteArray} {maxL : Nat} {ret : Option FieldType} {d k : Nat} {av : List Value} {V : VT} {Qs : Nat → Array Value → State → Outcome → State → Prop} {Xs : Nat → String → State → State → Prop} (hB : BGok B) (hy : plainName y.cls = true) (hlen : (lg_sl av).length ≤ maxL)
    (body : ∀ (p : Program) (e : Env) (s : State) (m : MethodId) (args : Array Value) (below : List Frame) (meth : Method) (c : Code) (ls : Array Slot), En p s m args c meth cc maxL y.cls ret G B → (∀ x ∈ c.exceptionTable.toList, False) → HW G s.heap V s.heap [] → lv_has ls maxL (lv_args 0 av) →
      W p l e (rmX d k) s m args below meth c s.heap [] 0 0 (vx_MQ below (Qs s.heap.size) (Xs s.heap.size) args s k (6 * k) (gA G s.heap.size)) (F0 m 0 ls [])) (sz : Nat) : vx_Met l y [.code y cc maxL ret] (rmX d k) (va_Pc av (Pre G B V sz)) (Qs sz) (Xs sz) k (6 * k) (gA G sz) := by
  refine vx_ofW (cc := cc) (maxL := maxL) (ret := ret) hy rfl ?_
  intro p e s m args below meth c s₁ Bd hml hnt hv
  obtain ⟨rfl, hsz, hP, hK, hD0, hT, hBG⟩ := hv
  subst hsz
  have hl := lv_entry av (n := maxL) hlen
  rw [lg_entry_eq]
  generalize (lg_sl av ++ List.replicate (maxL - (lg_sl av).length) Slot.unset).toArray = ls at hl ⊢
  exact body p e s m _ below meth c ls ⟨Bd.exec, Bd.bytes, hml, findClass_of_methodNamed Bd.named, hT, hK, Bd.notSynchronized, hBG, hB, Bd.returns⟩ hnt ⟨hP, wl_Dg hD0, va_S.rf⟩ hl
theorem tw1_85 : Cond.classLink RX9 85 "java/lang/IllegalArgumentException" ∈ lw_tbl := (tb_3 (List.mem_of_getElem? (i := 99) (by decide +kernel)))
theorem tw2_85 : Cond.initialized "java/lang/IllegalArgumentException" ∈ lw_tbl := (tb_1 (List.mem_of_getElem? (i := 18) (by decide +kernel)))
theorem tw3_85 : ∀ w ∈ (vx_atS RX9 89 "java/lang/IllegalArgumentException" ["java/lang/RuntimeException", "java/lang/Exception"]).filter goodWord, w ∈ lw_tbl := by decide +kernel
theorem tw4_85 : ∀ w ∈ (vx_atS RX9 89 "java/lang/IllegalArgumentException" ["java/lang/RuntimeException", "java/lang/Exception"]).filter (fun w => !goodWord w), w ∈ lw_tbl ∧ (w ∈ [Cond.castable "java/lang/IllegalArgumentException" "java/lang/IllegalArgumentException"] ∨ w ∈ [Cond.declares (Bundle.initS "java/lang/RuntimeException"), Cond.declares (Bundle.initS "java/lang/Exception"), Cond.declares (Bundle.initS "java/lang/Throwable")]) := by decide +kernel
theorem tw6_85 : ∀ w ∈ Cond.classLink RX9 85 "java/lang/IllegalArgumentException" :: Cond.initialized "java/lang/IllegalArgumentException" :: vx_atS RX9 89 "java/lang/IllegalArgumentException" ["java/lang/RuntimeException", "java/lang/Exception"], vx_ot w = true := by decide +kernel
theorem tw1_95 : Cond.classLink RX9 95 "java/lang/UnsupportedOperationException" ∈ lw_tbl := (tb_3 (List.mem_of_getElem? (i := 168) (by decide +kernel)))
theorem tw2_95 : Cond.initialized "java/lang/UnsupportedOperationException" ∈ lw_tbl := (tb_1 (List.mem_of_getElem? (i := 19) (by decide +kernel)))
theorem tw3_95 : ∀ w ∈ (vx_atS RX9 99 "java/lang/UnsupportedOperationException" ["java/lang/RuntimeException", "java/lang/Exception"]).filter goodWord, w ∈ lw_tbl := by decide +kernel
theorem tw4_95 : ∀ w ∈ (vx_atS RX9 99 "java/lang/UnsupportedOperationException" ["java/lang/RuntimeException", "java/lang/Exception"]).filter (fun w => !goodWord w), w ∈ lw_tbl ∧ (w ∈ [Cond.castable "java/lang/UnsupportedOperationException" "java/lang/UnsupportedOperationException"] ∨ w ∈ [Cond.declares (Bundle.initS "java/lang/RuntimeException"), Cond.declares (Bundle.initS "java/lang/Exception"), Cond.declares (Bundle.initS "java/lang/Throwable")]) := by decide +kernel
theorem tw6_95 : ∀ w ∈ Cond.classLink RX9 95 "java/lang/UnsupportedOperationException" :: Cond.initialized "java/lang/UnsupportedOperationException" :: vx_atS RX9 99 "java/lang/UnsupportedOperationException" ["java/lang/RuntimeException", "java/lang/Exception"], vx_ot w = true := by decide +kernel
theorem tw1_367 : Cond.classLink RX9 367 "java/lang/IndexOutOfBoundsException" ∈ lw_tbl := (tb_4 (List.mem_of_getElem? (i := 22) (by decide +kernel)))
theorem tw2_367 : Cond.initialized "java/lang/IndexOutOfBoundsException" ∈ lw_tbl := (tb_1 (List.mem_of_getElem? (i := 21) (by decide +kernel)))
theorem tw3_367 : ∀ w ∈ (vx_atS RX9 371 "java/lang/IndexOutOfBoundsException" ["java/lang/RuntimeException", "java/lang/Exception"]).filter goodWord, w ∈ lw_tbl := by decide +kernel
theorem tw4_367 : ∀ w ∈ (vx_atS RX9 371 "java/lang/IndexOutOfBoundsException" ["java/lang/RuntimeException", "java/lang/Exception"]).filter (fun w => !goodWord w), w ∈ lw_tbl ∧ (w ∈ [Cond.castable "java/lang/IndexOutOfBoundsException" "java/lang/IndexOutOfBoundsException"] ∨ w ∈ [Cond.declares (Bundle.initS "java/lang/RuntimeException"), Cond.declares (Bundle.initS "java/lang/Exception"), Cond.declares (Bundle.initS "java/lang/Throwable")]) := by decide +kernel
theorem tw6_367 : ∀ w ∈ Cond.classLink RX9 367 "java/lang/IndexOutOfBoundsException" :: Cond.initialized "java/lang/IndexOutOfBoundsException" :: vx_atS RX9 371 "java/lang/IndexOutOfBoundsException" ["java/lang/RuntimeException", "java/lang/Exception"], vx_ot w = true := by decide +kernel
theorem tw1_182 : Cond.classLink RX9 182 "java/lang/IllegalStateException" ∈ lw_tbl := (tb_4 (List.mem_of_getElem? (i := 133) (by decide +kernel)))
theorem tw2_182 : Cond.initialized "java/lang/IllegalStateException" ∈ lw_tbl := (tb_1 (List.mem_of_getElem? (i := 24) (by decide +kernel)))
theorem tw3_182 : ∀ w ∈ (vx_atS RX9 186 "java/lang/IllegalStateException" ["java/lang/RuntimeException", "java/lang/Exception"]).filter goodWord, w ∈ lw_tbl := by decide +kernel
theorem tw4_182 : ∀ w ∈ (vx_atS RX9 186 "java/lang/IllegalStateException" ["java/lang/RuntimeException", "java/lang/Exception"]).filter (fun w => !goodWord w), w ∈ lw_tbl ∧ (w ∈ [Cond.castable "java/lang/IllegalStateException" "java/lang/IllegalStateException"] ∨ w ∈ [Cond.declares (Bundle.initS "java/lang/RuntimeException"), Cond.declares (Bundle.initS "java/lang/Exception"), Cond.declares (Bundle.initS "java/lang/Throwable")]) := by decide +kernel
theorem tw6_182 : ∀ w ∈ Cond.classLink RX9 182 "java/lang/IllegalStateException" :: Cond.initialized "java/lang/IllegalStateException" :: vx_atS RX9 186 "java/lang/IllegalStateException" ["java/lang/RuntimeException", "java/lang/Exception"], vx_ot w = true := by decide +kernel
