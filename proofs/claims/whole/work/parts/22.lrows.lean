/-! ===== rows for the law's own loop ===== -/
theorem gH_gO {G : GT} {oa : Nat} {H0 : Heap} {V : VT} {ov : Nat → Int64} {H : Heap} {locs : List Loc} (hw : HO G oa H0 V ov H locs) : ∀ q, gO G oa H.size q → gO G oa H0.size q := fun q h => h.elim (gA_gO hw q) Or.inr
theorem preO_blind {G : GT} {B : BGt} {V : VT} {oa : Nat} {ov : Nat → Int64} {sz : Nat} {av : List Value} (hB : BGok B) : FrameBlind (va_Pc av (PreO G B V oa ov sz)) := by
  intro a U g mk h
  obtain ⟨h1, h2, h3, h4, h5, h6, h7⟩ := h
  have hW : U.WarmedH (U.calling g mk a).vm := State.WarmedH.refl U
  exact ⟨h1, h2, h3, va_K.moved (u := U) (U := U.calling g mk a) (Vm.Alike.refl U.vm) h4, h5, TB.warm (U := U.calling g mk a) hW h6, hB.1 _ U _ _ hW h7⟩
section LO
variable {p : Program} {l : Launch} {e : Env} {R : Room} {s : State} {m : MethodId} {args : Array Value} {below : List Frame} {meth : Method} {c : Code} {H : Heap} {locs : List Loc} {cells slots : Nat} {Q : State → Prop}
variable {cc : ByteArray} {pc nL : Nat} {ls : Array Slot} {rest : List Value} {own : String} {ret : Option FieldType} {G : GT} {V V' : VT} {Z : Nat → Nat × Nat} {oa : Nat} {ov ov' : Nat → Int64}
variable {y : MethodName} {bytes : ByteArray} {maxL : Nat} {rt : Option FieldType} {n d k index : Nat} {As st : List Value}
theorem eo_preO (E : EO p s m args c meth cc nL own ret G (SH Z) oa) (hw : HO G oa s.heap V ov H locs) {U : State} (hU : U.heap = H) (hW : s.WarmedH U.vm) : PreO G (SH Z) V oa ov H.size U := by
  obtain ⟨-, -, -, -, hT, hK, -, hBG, -, -⟩ := E
  refine ⟨by rw [hU], by rw [hU]; exact hw.1, va_K.moved hW.alike hK, hw.2.1.weaken (fun _ _ _ _ => trivial), hT.warm hW, ?_⟩
  rw [hU]
  exact (SH_ok Z).1 _ s _ _ hW ((SH_ok Z).2.2 (gO G oa s.heap.size) _ _ _ ((SH_ok Z).2.1 _ _ _ _ hBG hw.2.2.2.1) (gH_gO hw))
theorem o_VI {r : Int32} {i : Nat} {q : vw_C} (E : EO p s m args c meth cc nL own ret G (SH Z) oa) (hw : HO G oa s.heap V ov H locs) (hC : CI l G (SG Z) y (.code y bytes maxL rt) d (.ref (G.2.2 i) :: As) V r V') (hY : YV y bytes maxL rt n) (hlk : Cond.methodLink own index y ∈ lw_tbl) (hn : As.length = n) (hi : i < 23) (hq : vwCl[sh_C i]? = some q) (hqy : q.1 = y.cls) (hl : ls.size = nL) (hR : d + 1 ≤ R.frames ∧ 60 + 60 * d ≤ R.locals) (hf : cells ≤ R.cells ∧ slots ≤ R.slots) (hL : maxL ≤ 41) (hst : st = As.reverse ++ .ref (G.2.2 i) :: rest) (hcat : (rest.map fun v => v.category).sum ≤ 8) (hdg : decode cc pc = .ok (.invokevirtual index, 3))
    (kk : ∀ (H : Heap) (locs : List Loc), HO G oa s.heap V' ov H locs → W p l e R s m args below meth c H locs cells slots Q (F0 m (pc + 3) ls (.int r :: rest))) : W p l e R s m args below meth c H locs cells slots Q (F0 m pc ls st) := by
  obtain ⟨y1, y2, y3, y4, y5, y6⟩ := hY
  have he : (wl G V)[i]? = some (G.2.2 i, .inr (sh_C i, (List.range (sh_N i)).map (sh_f G V i))) := by rw [wl_get G V (by omega)]; unfold sh_e; rw [if_pos hi]
  have hrv := va_recv E.2.2.2.2.2.1 (wo_P1 hw.1) hq he
  rw [hqy] at hrv
  refine va_calli (post := fun r2 (u : VT) => r2 = r ∧ u = V') (B := fun u t => va_P G.1 vwCl (wl G u) t.heap) (A1 := gA G H.size) (A0 := gO G oa s.heap.size) (va_runV (C := y.cls) (b := G.2.2 i) (As := As) (rest := rest) (Ts := []) ⟨E.1, E.2.1, E.2.2.1, E.2.2.2.1, fun _ h => nomatch h⟩ (hC H.size) ⟨eo_cb (rm := rmD d) E y1 y2 y5 y6 hlk hR hL, eo_w E y3 rfl, eo_w E y4 rfl⟩ ⟨pre_blind (SG_ok Z), hrv, fun U hU hW => ⟨rfl, eo_pre E hw hU hW⟩⟩ rfl hn hl hst (lv_room hcat) hdg hf) hw.2.2 (fun q _ h => gA_gO hw q h) (gA_gO hw) (fun r1 u t H1 locs1 ht hvm hp hb hz hk hS => ?_)
  obtain ⟨rfl, rfl⟩ := hp
  exact kk H1 locs1 (ho_back hw ht hb hk hS)
theorem o_VV {i : Nat} {q : vw_C} (E : EO p s m args c meth cc nL own ret G (SH Z) oa) (hw : HO G oa s.heap V ov H locs) (hC : CV l G (SG Z) y (.code y bytes maxL rt) d (.ref (G.2.2 i) :: As) V V') (hY : YV y bytes maxL rt n) (hlk : Cond.methodLink own index y ∈ lw_tbl) (hn : As.length = n) (hi : i < 23) (hq : vwCl[sh_C i]? = some q) (hqy : q.1 = y.cls) (hl : ls.size = nL) (hR : d + 1 ≤ R.frames ∧ 60 + 60 * d ≤ R.locals) (hf : cells ≤ R.cells ∧ slots ≤ R.slots) (hL : maxL ≤ 41) (hst : st = As.reverse ++ .ref (G.2.2 i) :: rest) (hcat : (rest.map fun v => v.category).sum ≤ 8) (hdg : decode cc pc = .ok (.invokevirtual index, 3))
    (kk : ∀ (H : Heap) (locs : List Loc), HO G oa s.heap V' ov H locs → W p l e R s m args below meth c H locs cells slots Q (F0 m (pc + 3) ls rest)) : W p l e R s m args below meth c H locs cells slots Q (F0 m pc ls st) := by
  obtain ⟨y1, y2, y3, y4, y5, y6⟩ := hY
  have he : (wl G V)[i]? = some (G.2.2 i, .inr (sh_C i, (List.range (sh_N i)).map (sh_f G V i))) := by rw [wl_get G V (by omega)]; unfold sh_e; rw [if_pos hi]
  have hrv := va_recv E.2.2.2.2.2.1 (wo_P1 hw.1) hq he
  rw [hqy] at hrv
  refine va_callv (post := fun (u : VT) => u = V') (B := fun u t => va_P G.1 vwCl (wl G u) t.heap) (A1 := gA G H.size) (A0 := gO G oa s.heap.size) (va_runV (C := y.cls) (b := G.2.2 i) (As := As) (rest := rest) (Ts := []) ⟨E.1, E.2.1, E.2.2.1, E.2.2.2.1, fun _ h => nomatch h⟩ (hC H.size) ⟨eo_cb (rm := rmD d) E y1 y2 y5 y6 hlk hR hL, eo_w E y3 rfl, eo_w E y4 rfl⟩ ⟨pre_blind (SG_ok Z), hrv, fun U hU hW => ⟨rfl, eo_pre E hw hU hW⟩⟩ rfl hn hl hst (lv_room hcat) hdg hf) hw.2.2 (fun q _ h => gA_gO hw q h) (gA_gO hw) (fun u t H1 locs1 ht hvm hp hb hz hk hS => ?_)
  subst hp
  exact kk H1 locs1 (ho_back hw ht hb hk hS)
/-- one of the law's helpers -/
theorem o_SH {r : Int32} {hh : List (Nat × Nat × Nat × Nat)} (E : EO p s m args c meth cc nL own ret G (SH Z) oa) (hw : HO G oa s.heap V ov H locs) (hC : HI l G (SH Z) y (.codeWith y bytes maxL rt hh) d k As V oa ov r V' ov') (hY : Cond.codeWith y bytes maxL rt hh ∈ lw_tbl ∧ Cond.static y ∈ lw_tbl) (hini : Cond.initialized y.cls ∈ lw_tbl) (hlk : Cond.methodLink own index y ∈ lw_tbl) (hd : y.cls ≠ "java/lang/invoke/MethodHandle" ∧ y.cls ≠ "java/lang/invoke/VarHandle" ∧ (parseMethodDescriptor y.desc).map (fun d => d.parameters.length) = some n) (hn : As.length = n) (hl : ls.size = nL) (hR : d + 1 ≤ R.frames ∧ 60 + 60 * d ≤ R.locals) (hf : cells + k ≤ R.cells ∧ slots + 6 * k ≤ R.slots) (hL : maxL ≤ 41) (hst : st = As.reverse ++ rest) (hcat : (rest.map fun v => v.category).sum ≤ 8) (hdg : decode cc pc = .ok (.invokestatic index, 3))
    (kk : ∀ (H : Heap) (locs : List Loc), HO G oa s.heap V' ov' H locs → W p l e R s m args below meth c H locs (cells + k) (slots + 6 * k) Q (F0 m (pc + 3) ls (.int r :: rest))) : W p l e R s m args below meth c H locs cells slots Q (F0 m pc ls st) := by
  have hts : ∀ w ∈ va_wsS own index y [Cond.codeWith y bytes maxL rt hh], w.before args s = true := by
    intro w h
    simp only [va_wsS, List.cons_append, List.nil_append, List.mem_cons, List.not_mem_nil, or_false] at h
    rcases h with rfl | rfl | rfl | rfl
    · exact eo_w E hlk rfl
    · exact eo_w E hY.2 rfl
    · exact eo_w E hini rfl
    · exact eo_w E hY.1 rfl
  have hgd : GoodIn (va_wsS own index y [Cond.codeWith y bytes maxL rt hh]) (va_wsS own index y [Cond.codeWith y bytes maxL rt hh]) := by
    intro w h
    refine ⟨h, good_of_word ?_⟩
    simp only [va_wsS, List.cons_append, List.nil_append, List.mem_cons, List.not_mem_nil, or_false] at h
    rcases h with rfl | rfl | rfl | rfl <;> rfl
  refine va_calli (post := fun r2 (u : VT × (Nat → Int64)) => r2 = r ∧ u = (V', ov')) (B := fun u t => va_P G.1 vwCl (wo G u.1 oa u.2) t.heap) (A1 := gO G oa H.size) (A0 := gO G oa s.heap.size) (vx_runSW (As := As) (rest := rest) (Ts := va_wsS own index y [Cond.codeWith y bytes maxL rt hh]) (rm := rmX d k) ⟨E.1, E.2.1, E.2.2.1, E.2.2.2.1, hts⟩ (hC H.size) (vx_cwSW n hts hgd rfl rfl rfl hd ⟨hR.1, by have := hR.2; show 8 + (maxL + 11) + 60 * d ≤ R.locals; omega⟩) ⟨preO_blind (SH_ok Z), fun U hU hW => ⟨rfl, eo_preO E hw hU hW⟩⟩ rfl hn hl hst (lv_room hcat) hdg hf) hw.2.2 (fun q _ h => gH_gO hw q h) (gH_gO hw) (fun r1 u t H1 locs1 ht hvm hp hb hz hk hS => ?_)
  obtain ⟨rfl, rfl⟩ := hp
  exact kk H1 locs1 ⟨by rw [ht] at hb; exact hb, wo_D hw.2.1, hS⟩
theorem o_ll {i : Int32} (E : EO p s m args c meth cc nL own ret G (SH Z) oa) (hw : HO G oa s.heap V ov H locs) (hi : vp_in i 1) (hdg : decode cc pc = .ok (.laload, 1))
    (kk : W p l e R s m args below meth c H locs cells slots Q (F0 m (pc + 1) ls (.long (ov i.toNatClampNeg) :: rest))) : W p l e R s m args below meth c H locs cells slots Q (F0 m pc ls (.int i :: .ref oa :: rest)) :=
  va_lald E.1 E.2.1 E.2.2.2.2.2.1 hw.1 88 4 wo_hi rfl hi hdg kk
end LO
