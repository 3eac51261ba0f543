/-! ===== the law's loop, by program ===== -/
theorem lw_ini : Cond.initialized "AllSawItLaw" ∈ lw_tbl := (tb_1 (List.mem_of_getElem? (i := 0) (by decide +kernel)))
theorem dL_law__2599 : decode cL_law_ 2599 = .ok (.iinc 4 6, 3) := by decide +kernel
theorem dL_law__2602 : decode cL_law_ 2602 = .ok (.goto (-2579), 3) := by decide +kernel
theorem dL_law__2605 : decode cL_law_ 2605 = .ok (.iconst 1, 1) := by decide +kernel
theorem dL_law__2606 : decode cL_law_ 2606 = .ok (.ireturn, 1) := by decide +kernel
theorem dL_law__228 : decode cL_law_ 228 = .ok (.aload_n 1, 1) := by decide +kernel
theorem dL_law__229 : decode cL_law_ 229 = .ok (.aload_n 0, 1) := by decide +kernel
theorem dL_law__230 : decode cL_law_ 230 = .ok (.iload 4, 2) := by decide +kernel
theorem dL_law__232 : decode cL_law_ 232 = .ok (.iconst 1, 1) := by decide +kernel
theorem dL_law__233 : decode cL_law_ 233 = .ok (.iadd, 1) := by decide +kernel
theorem dL_law__234 : decode cL_law_ 234 = .ok (.iaload, 1) := by decide +kernel
theorem dL_law__235 : decode cL_law_ 235 = .ok (.aload_n 0, 1) := by decide +kernel
theorem dL_law__236 : decode cL_law_ 236 = .ok (.iload 4, 2) := by decide +kernel
theorem dL_law__238 : decode cL_law_ 238 = .ok (.iconst 2, 1) := by decide +kernel
theorem dL_law__239 : decode cL_law_ 239 = .ok (.iadd, 1) := by decide +kernel
theorem dL_law__240 : decode cL_law_ 240 = .ok (.iaload, 1) := by decide +kernel
theorem dL_law__241 : decode cL_law_ 241 = .ok (.aload_n 0, 1) := by decide +kernel
theorem dL_law__242 : decode cL_law_ 242 = .ok (.iload 4, 2) := by decide +kernel
theorem dL_law__244 : decode cL_law_ 244 = .ok (.iconst 3, 1) := by decide +kernel
theorem dL_law__245 : decode cL_law_ 245 = .ok (.iadd, 1) := by decide +kernel
theorem dL_law__246 : decode cL_law_ 246 = .ok (.iaload, 1) := by decide +kernel
theorem dL_law__247 : decode cL_law_ 247 = .ok (.aload_n 0, 1) := by decide +kernel
theorem dL_law__248 : decode cL_law_ 248 = .ok (.iload 4, 2) := by decide +kernel
theorem dL_law__250 : decode cL_law_ 250 = .ok (.iconst 4, 1) := by decide +kernel
theorem dL_law__251 : decode cL_law_ 251 = .ok (.iadd, 1) := by decide +kernel
theorem dL_law__252 : decode cL_law_ 252 = .ok (.iaload, 1) := by decide +kernel
theorem dL_law__253 : decode cL_law_ 253 = .ok (.aload_n 0, 1) := by decide +kernel
theorem dL_law__254 : decode cL_law_ 254 = .ok (.iload 4, 2) := by decide +kernel
theorem dL_law__256 : decode cL_law_ 256 = .ok (.iconst 5, 1) := by decide +kernel
theorem dL_law__257 : decode cL_law_ 257 = .ok (.iadd, 1) := by decide +kernel
theorem dL_law__258 : decode cL_law_ 258 = .ok (.iaload, 1) := by decide +kernel
theorem dL_law__259 : decode cL_law_ 259 = .ok (.invokevirtual 125, 3) := by decide +kernel
theorem dL_law__262 : decode cL_law_ 262 = .ok (.aload_n 2, 1) := by decide +kernel
theorem dL_law__263 : decode cL_law_ 263 = .ok (.aload_n 0, 1) := by decide +kernel
theorem dL_law__264 : decode cL_law_ 264 = .ok (.iload 4, 2) := by decide +kernel
theorem dL_law__266 : decode cL_law_ 266 = .ok (.iconst 1, 1) := by decide +kernel
theorem dL_law__267 : decode cL_law_ 267 = .ok (.iadd, 1) := by decide +kernel
theorem dL_law__268 : decode cL_law_ 268 = .ok (.iaload, 1) := by decide +kernel
theorem dL_law__269 : decode cL_law_ 269 = .ok (.aload_n 0, 1) := by decide +kernel
theorem dL_law__270 : decode cL_law_ 270 = .ok (.iload 4, 2) := by decide +kernel
theorem dL_law__272 : decode cL_law_ 272 = .ok (.iconst 2, 1) := by decide +kernel
theorem dL_law__273 : decode cL_law_ 273 = .ok (.iadd, 1) := by decide +kernel
theorem dL_law__274 : decode cL_law_ 274 = .ok (.iaload, 1) := by decide +kernel
theorem dL_law__275 : decode cL_law_ 275 = .ok (.aload_n 0, 1) := by decide +kernel
theorem dL_law__276 : decode cL_law_ 276 = .ok (.iload 4, 2) := by decide +kernel
theorem dL_law__278 : decode cL_law_ 278 = .ok (.iconst 3, 1) := by decide +kernel
theorem dL_law__279 : decode cL_law_ 279 = .ok (.iadd, 1) := by decide +kernel
theorem dL_law__280 : decode cL_law_ 280 = .ok (.iaload, 1) := by decide +kernel
theorem dL_law__281 : decode cL_law_ 281 = .ok (.aload_n 0, 1) := by decide +kernel
theorem dL_law__282 : decode cL_law_ 282 = .ok (.iload 4, 2) := by decide +kernel
theorem dL_law__284 : decode cL_law_ 284 = .ok (.iconst 4, 1) := by decide +kernel
theorem dL_law__285 : decode cL_law_ 285 = .ok (.iadd, 1) := by decide +kernel
theorem dL_law__286 : decode cL_law_ 286 = .ok (.iaload, 1) := by decide +kernel
theorem dL_law__287 : decode cL_law_ 287 = .ok (.aload_n 0, 1) := by decide +kernel
theorem dL_law__288 : decode cL_law_ 288 = .ok (.iload 4, 2) := by decide +kernel
theorem dL_law__290 : decode cL_law_ 290 = .ok (.iconst 5, 1) := by decide +kernel
theorem dL_law__291 : decode cL_law_ 291 = .ok (.iadd, 1) := by decide +kernel
theorem dL_law__292 : decode cL_law_ 292 = .ok (.iaload, 1) := by decide +kernel
theorem dL_law__293 : decode cL_law_ 293 = .ok (.invokevirtual 129, 3) := by decide +kernel
theorem dL_law__296 : decode cL_law_ 296 = .ok (.if_icmp .eq 2303, 3) := by decide +kernel
theorem dL_law__299 : decode cL_law_ 299 = .ok (.iconst 0, 1) := by decide +kernel
theorem dL_law__300 : decode cL_law_ 300 = .ok (.ireturn, 1) := by decide +kernel
/-! opcode 0 -/
noncomputable def fL_c0 (xs : Nat → Int32) (L : Nat) (V : VT) (ov : Nat → Int64) (u4 : Int32) : Option ((VT × (Nat → Int64) × Int32) ⊕ Int32) := rd_ (u4 + (1 : Int32)) L (lt_ (xs (u4 + (1 : Int32)).toNatClampNeg) fun z2 => rd_ (u4 + (2 : Int32)) L (lt_ (xs (u4 + (2 : Int32)).toNatClampNeg) fun z4 => rd_ (u4 + (3 : Int32)) L (lt_ (xs (u4 + (3 : Int32)).toNatClampNeg) fun z6 => rd_ (u4 + (4 : Int32)) L (lt_ (xs (u4 + (4 : Int32)).toNatClampNeg) fun z8 => rd_ (u4 + (5 : Int32)) L (lt_ (xs (u4 + (5 : Int32)).toNatClampNeg) fun z10 => ob_I (fX9_feed V z2 z4 z6 z8 z10) fun y12 V13 => rd_ (u4 + (1 : Int32)) L (lt_ (xs (u4 + (1 : Int32)).toNatClampNeg) fun z15 => rd_ (u4 + (2 : Int32)) L (lt_ (xs (u4 + (2 : Int32)).toNatClampNeg) fun z17 => rd_ (u4 + (3 : Int32)) L (lt_ (xs (u4 + (3 : Int32)).toNatClampNeg) fun z19 => rd_ (u4 + (4 : Int32)) L (lt_ (xs (u4 + (4 : Int32)).toNatClampNeg) fun z21 => rd_ (u4 + (5 : Int32)) L (lt_ (xs (u4 + (5 : Int32)).toNatClampNeg) fun z23 => ob_I (fX10_feed V13 z15 z17 z19 z21 z23) fun y25 V26 => if y12 = y25 then (lt_ (u4 + (6 : Int32)) fun y27 => some (.inl (V26, ov, y27))) else (some (.inr (0 : Int32)))))))))))))
set_option maxHeartbeats 4000000 in
set_option maxRecDepth 100000 in
theorem wL_c0 {p : Program} {l : Launch} {e : Env} {s : State} {m : MethodId} {args : Array Value} {below : List Frame} {meth : Method} {c : Code} {G : GT} {Z : Nat → Nat × Nat} {oa b L : Nat} {xs : Nat → Int32} {Q : State → Prop} (E : EO p s m args c meth cL_law_ 7 RL (some .boolean) G (SH Z) oa) (ht : l.stackTraces = false) (hX : va_X b L xs s s.heap) (hbl : b < s.heap.size) (hbA : ¬ gO G oa s.heap.size b) (hL : L ≤ 3072) {C0 S0 : Nat} (hC0 : C0 ≤ 100000) (hS0 : S0 ≤ 1000000) {V : VT} {ov : Nat → Int64} {u4 : Int32} {r : ((VT × (Nat → Int64) × Int32) ⊕ Int32)} (h : fL_c0 xs L V ov u4 = some r) (k1 : ∀ y, r = .inr y → y = 1) (kc : ∀ (V2 : VT) (ov2 : Nat → Int64), r = .inl (V2, ov2, u4 + 6) → ∀ (H : Heap) (locs : List Loc) (ls : Array Slot) (cells slots : Nat), HO G oa s.heap (V2) (ov2) H locs → lv_has ls 7 [(0, .ref b), (1, .ref (G.2.2 0)), (2, .ref (G.2.2 22)), (3, .ref oa), (4, .int (u4 + 6))] → cells ≤ C0 + 3 → slots ≤ S0 + 18 → W p l e room_1 s m args below meth c H locs cells slots Q (F0 m 23 ls [])) {H : Heap} {locs : List Loc} {ls : Array Slot} {cells slots : Nat} (hw : HO G oa s.heap V ov H locs) (hl : lv_has ls 7 [(0, .ref b), (1, .ref (G.2.2 0)), (2, .ref (G.2.2 22)), (3, .ref oa), (4, .int u4)]) (hce : cells ≤ C0) (hsl : slots ≤ S0) : W p l e room_1 s m args below meth c H locs cells slots Q (F0 m 228 ls []) := by
  have hx := E.1
  have hb := E.2.1
  have hfc : ∀ K : Nat, K ≤ 3 → cells + K ≤ room_1.cells ∧ slots + 6 * K ≤ room_1.slots := fun K hK => ⟨by show cells + K ≤ 601024; omega, by show slots + 6 * K ≤ 7293034; omega⟩
  have hf0 : ∀ {c9 s9 : Nat}, c9 ≤ C0 + 3 → s9 ≤ S0 + 18 → c9 ≤ room_1.cells ∧ s9 ≤ room_1.slots := fun h1 h2 => ⟨by show _ ≤ 601024; omega, by show _ ≤ 7293034; omega⟩
  unfold fL_c0 at h
  refine lv_aload_n hx hb dL_law__228 rfl (lv_at hl 1 rfl) ?_
  refine lv_aload_n hx hb dL_law__229 rfl (lv_at hl 0 rfl) ?_
  refine lv_iload hx hb dL_law__230 (lv_at hl 4 rfl) ?_
  refine lv_iconst (v := (1 : Int32)) hx hb dL_law__232 (by decide) ?_
  refine lv_iadd hx hb dL_law__233 ?_
  obtain ⟨b1, h⟩ := rd_some h
  obtain ⟨z2, ez2, h⟩ := lt_some h
  refine va_sld hx hb hX hbl hbA hw.2.2 b1 dL_law__234 ?_
  refine lv_eqi ez2 ?_
  refine lv_aload_n hx hb dL_law__235 rfl (lv_at hl 0 rfl) ?_
  refine lv_iload hx hb dL_law__236 (lv_at hl 4 rfl) ?_
  refine lv_iconst (v := (2 : Int32)) hx hb dL_law__238 (by decide) ?_
  refine lv_iadd hx hb dL_law__239 ?_
  obtain ⟨b3, h⟩ := rd_some h
  obtain ⟨z4, ez4, h⟩ := lt_some h
  refine va_sld hx hb hX hbl hbA hw.2.2 b3 dL_law__240 ?_
  refine lv_eqi ez4 ?_
  refine lv_aload_n hx hb dL_law__241 rfl (lv_at hl 0 rfl) ?_
  refine lv_iload hx hb dL_law__242 (lv_at hl 4 rfl) ?_
  refine lv_iconst (v := (3 : Int32)) hx hb dL_law__244 (by decide) ?_
  refine lv_iadd hx hb dL_law__245 ?_
  obtain ⟨b5, h⟩ := rd_some h
  obtain ⟨z6, ez6, h⟩ := lt_some h
  refine va_sld hx hb hX hbl hbA hw.2.2 b5 dL_law__246 ?_
  refine lv_eqi ez6 ?_
  refine lv_aload_n hx hb dL_law__247 rfl (lv_at hl 0 rfl) ?_
  refine lv_iload hx hb dL_law__248 (lv_at hl 4 rfl) ?_
  refine lv_iconst (v := (4 : Int32)) hx hb dL_law__250 (by decide) ?_
  refine lv_iadd hx hb dL_law__251 ?_
  obtain ⟨b7, h⟩ := rd_some h
  obtain ⟨z8, ez8, h⟩ := lt_some h
  refine va_sld hx hb hX hbl hbA hw.2.2 b7 dL_law__252 ?_
  refine lv_eqi ez8 ?_
  refine lv_aload_n hx hb dL_law__253 rfl (lv_at hl 0 rfl) ?_
  refine lv_iload hx hb dL_law__254 (lv_at hl 4 rfl) ?_
  refine lv_iconst (v := (5 : Int32)) hx hb dL_law__256 (by decide) ?_
  refine lv_iadd hx hb dL_law__257 ?_
  obtain ⟨b9, h⟩ := rd_some h
  obtain ⟨z10, ez10, h⟩ := lt_some h
  refine va_sld hx hb hX hbl hbA hw.2.2 b9 dL_law__258 ?_
  refine lv_eqi ez10 ?_
  obtain ⟨y12, V13, h11, h⟩ := ob_I_some h
  refine o_VI (As := [.int z2, .int z4, .int z6, .int z8, .int z10]) E hw (kX9_feed (l := l) (G := G) (SG_ok Z) h11) yy_X9_feed lm_RL_125 rfl (by decide) rfl rfl hl.1 (by decide) (hf0 (by omega) (by omega)) (by decide) rfl (Nat.le_of_ble_eq_true rfl) dL_law__259 (fun H locs hw => ?_)
  refine lv_aload_n hx hb dL_law__262 rfl (lv_at hl 2 rfl) ?_
  refine lv_aload_n hx hb dL_law__263 rfl (lv_at hl 0 rfl) ?_
  refine lv_iload hx hb dL_law__264 (lv_at hl 4 rfl) ?_
  refine lv_iconst (v := (1 : Int32)) hx hb dL_law__266 (by decide) ?_
  refine lv_iadd hx hb dL_law__267 ?_
  obtain ⟨b14, h⟩ := rd_some h
  obtain ⟨z15, ez15, h⟩ := lt_some h
  refine va_sld hx hb hX hbl hbA hw.2.2 b14 dL_law__268 ?_
  refine lv_eqi ez15 ?_
  refine lv_aload_n hx hb dL_law__269 rfl (lv_at hl 0 rfl) ?_
  refine lv_iload hx hb dL_law__270 (lv_at hl 4 rfl) ?_
  refine lv_iconst (v := (2 : Int32)) hx hb dL_law__272 (by decide) ?_
  refine lv_iadd hx hb dL_law__273 ?_
  obtain ⟨b16, h⟩ := rd_some h
  obtain ⟨z17, ez17, h⟩ := lt_some h
  refine va_sld hx hb hX hbl hbA hw.2.2 b16 dL_law__274 ?_
  refine lv_eqi ez17 ?_
  refine lv_aload_n hx hb dL_law__275 rfl (lv_at hl 0 rfl) ?_
  refine lv_iload hx hb dL_law__276 (lv_at hl 4 rfl) ?_
  refine lv_iconst (v := (3 : Int32)) hx hb dL_law__278 (by decide) ?_
  refine lv_iadd hx hb dL_law__279 ?_
  obtain ⟨b18, h⟩ := rd_some h
  obtain ⟨z19, ez19, h⟩ := lt_some h
  refine va_sld hx hb hX hbl hbA hw.2.2 b18 dL_law__280 ?_
  refine lv_eqi ez19 ?_
  refine lv_aload_n hx hb dL_law__281 rfl (lv_at hl 0 rfl) ?_
  refine lv_iload hx hb dL_law__282 (lv_at hl 4 rfl) ?_
  refine lv_iconst (v := (4 : Int32)) hx hb dL_law__284 (by decide) ?_
  refine lv_iadd hx hb dL_law__285 ?_
  obtain ⟨b20, h⟩ := rd_some h
  obtain ⟨z21, ez21, h⟩ := lt_some h
  refine va_sld hx hb hX hbl hbA hw.2.2 b20 dL_law__286 ?_
  refine lv_eqi ez21 ?_
  refine lv_aload_n hx hb dL_law__287 rfl (lv_at hl 0 rfl) ?_
  refine lv_iload hx hb dL_law__288 (lv_at hl 4 rfl) ?_
  refine lv_iconst (v := (5 : Int32)) hx hb dL_law__290 (by decide) ?_
  refine lv_iadd hx hb dL_law__291 ?_
  obtain ⟨b22, h⟩ := rd_some h
  obtain ⟨z23, ez23, h⟩ := lt_some h
  refine va_sld hx hb hX hbl hbA hw.2.2 b22 dL_law__292 ?_
  refine lv_eqi ez23 ?_
  obtain ⟨y25, V26, h24, h⟩ := ob_I_some h
  refine o_VI (As := [.int z15, .int z17, .int z19, .int z21, .int z23]) E hw (kX10_feed (l := l) (G := G) (SG_ok Z) h24) yy_X10_feed lm_RL_129 rfl (by decide) rfl rfl hl.1 (by decide) (hf0 (by omega) (by omega)) (by decide) rfl (Nat.le_of_ble_eq_true rfl) dL_law__293 (fun H locs hw => ?_)
  refine lv_icmp_eq (tgt := 2599) hx hb dL_law__296 (by decide) (fun c28 => ?_) (fun c28 => ?_)
  · rw [if_pos c28] at h
    obtain ⟨y27, ey27, h⟩ := lt_some h
    refine lv_iinc (v := y27) (lv' := [(4, .int y27), (0, .ref b), (1, .ref (G.2.2 0)), (2, .ref (G.2.2 22)), (3, .ref oa)]) hx hb dL_law__2599 hl (k := 4) rfl (by rw [ey27]; rfl) (by decide) rfl (fun ls hl => ?_)
    refine lv_goto (tgt := 23) hx hb dL_law__2602 (by decide) ?_
    subst ey27
    exact kc V26 ov (Option.some.inj h).symm H locs ls _ _ hw (lv_sub hl [1, 2, 3, 4, 0] rfl) (by omega) (by omega)
  · rw [if_neg c28] at h
    refine lv_iconst (v := (0 : Int32)) hx hb dL_law__299 (by decide) ?_
    exact absurd (k1 _ (Option.some.inj h).symm) (by decide)
theorem dL_law__301 : decode cL_law_ 301 = .ok (.aload_n 1, 1) := by decide +kernel
theorem dL_law__302 : decode cL_law_ 302 = .ok (.aload_n 0, 1) := by decide +kernel
theorem dL_law__303 : decode cL_law_ 303 = .ok (.iload 4, 2) := by decide +kernel
theorem dL_law__305 : decode cL_law_ 305 = .ok (.iconst 1, 1) := by decide +kernel
theorem dL_law__306 : decode cL_law_ 306 = .ok (.iadd, 1) := by decide +kernel
theorem dL_law__307 : decode cL_law_ 307 = .ok (.iaload, 1) := by decide +kernel
theorem dL_law__308 : decode cL_law_ 308 = .ok (.invokevirtual 130, 3) := by decide +kernel
theorem dL_law__311 : decode cL_law_ 311 = .ok (.aload_n 2, 1) := by decide +kernel
theorem dL_law__312 : decode cL_law_ 312 = .ok (.aload_n 0, 1) := by decide +kernel
theorem dL_law__313 : decode cL_law_ 313 = .ok (.iload 4, 2) := by decide +kernel
theorem dL_law__315 : decode cL_law_ 315 = .ok (.iconst 1, 1) := by decide +kernel
theorem dL_law__316 : decode cL_law_ 316 = .ok (.iadd, 1) := by decide +kernel
theorem dL_law__317 : decode cL_law_ 317 = .ok (.iaload, 1) := by decide +kernel
theorem dL_law__318 : decode cL_law_ 318 = .ok (.invokevirtual 134, 3) := by decide +kernel
theorem dL_law__321 : decode cL_law_ 321 = .ok (.if_icmp .eq 2278, 3) := by decide +kernel
theorem dL_law__324 : decode cL_law_ 324 = .ok (.iconst 0, 1) := by decide +kernel
theorem dL_law__325 : decode cL_law_ 325 = .ok (.ireturn, 1) := by decide +kernel
/-! opcode 1 -/
noncomputable def fL_c1 (xs : Nat → Int32) (L : Nat) (V : VT) (ov : Nat → Int64) (u4 : Int32) : Option ((VT × (Nat → Int64) × Int32) ⊕ Int32) := rd_ (u4 + (1 : Int32)) L (lt_ (xs (u4 + (1 : Int32)).toNatClampNeg) fun z2 => ob_I (fX9_end V z2) fun y4 V5 => rd_ (u4 + (1 : Int32)) L (lt_ (xs (u4 + (1 : Int32)).toNatClampNeg) fun z7 => ob_I (fX10_end V5 z7) fun y9 V10 => if y4 = y9 then (lt_ (u4 + (6 : Int32)) fun y11 => some (.inl (V10, ov, y11))) else (some (.inr (0 : Int32)))))
set_option maxHeartbeats 4000000 in
set_option maxRecDepth 100000 in
theorem wL_c1 {p : Program} {l : Launch} {e : Env} {s : State} {m : MethodId} {args : Array Value} {below : List Frame} {meth : Method} {c : Code} {G : GT} {Z : Nat → Nat × Nat} {oa b L : Nat} {xs : Nat → Int32} {Q : State → Prop} (E : EO p s m args c meth cL_law_ 7 RL (some .boolean) G (SH Z) oa) (ht : l.stackTraces = false) (hX : va_X b L xs s s.heap) (hbl : b < s.heap.size) (hbA : ¬ gO G oa s.heap.size b) (hL : L ≤ 3072) {C0 S0 : Nat} (hC0 : C0 ≤ 100000) (hS0 : S0 ≤ 1000000) {V : VT} {ov : Nat → Int64} {u4 : Int32} {r : ((VT × (Nat → Int64) × Int32) ⊕ Int32)} (h : fL_c1 xs L V ov u4 = some r) (k1 : ∀ y, r = .inr y → y = 1) (kc : ∀ (V2 : VT) (ov2 : Nat → Int64), r = .inl (V2, ov2, u4 + 6) → ∀ (H : Heap) (locs : List Loc) (ls : Array Slot) (cells slots : Nat), HO G oa s.heap (V2) (ov2) H locs → lv_has ls 7 [(0, .ref b), (1, .ref (G.2.2 0)), (2, .ref (G.2.2 22)), (3, .ref oa), (4, .int (u4 + 6))] → cells ≤ C0 + 3 → slots ≤ S0 + 18 → W p l e room_1 s m args below meth c H locs cells slots Q (F0 m 23 ls [])) {H : Heap} {locs : List Loc} {ls : Array Slot} {cells slots : Nat} (hw : HO G oa s.heap V ov H locs) (hl : lv_has ls 7 [(0, .ref b), (1, .ref (G.2.2 0)), (2, .ref (G.2.2 22)), (3, .ref oa), (4, .int u4)]) (hce : cells ≤ C0) (hsl : slots ≤ S0) : W p l e room_1 s m args below meth c H locs cells slots Q (F0 m 301 ls []) := by
  have hx := E.1
  have hb := E.2.1
  have hfc : ∀ K : Nat, K ≤ 3 → cells + K ≤ room_1.cells ∧ slots + 6 * K ≤ room_1.slots := fun K hK => ⟨by show cells + K ≤ 601024; omega, by show slots + 6 * K ≤ 7293034; omega⟩
  have hf0 : ∀ {c9 s9 : Nat}, c9 ≤ C0 + 3 → s9 ≤ S0 + 18 → c9 ≤ room_1.cells ∧ s9 ≤ room_1.slots := fun h1 h2 => ⟨by show _ ≤ 601024; omega, by show _ ≤ 7293034; omega⟩
  unfold fL_c1 at h
  refine lv_aload_n hx hb dL_law__301 rfl (lv_at hl 1 rfl) ?_
  refine lv_aload_n hx hb dL_law__302 rfl (lv_at hl 0 rfl) ?_
  refine lv_iload hx hb dL_law__303 (lv_at hl 4 rfl) ?_
  refine lv_iconst (v := (1 : Int32)) hx hb dL_law__305 (by decide) ?_
  refine lv_iadd hx hb dL_law__306 ?_
  obtain ⟨b1, h⟩ := rd_some h
  obtain ⟨z2, ez2, h⟩ := lt_some h
  refine va_sld hx hb hX hbl hbA hw.2.2 b1 dL_law__307 ?_
  refine lv_eqi ez2 ?_
  obtain ⟨y4, V5, h3, h⟩ := ob_I_some h
  refine o_VI (As := [.int z2]) E hw (kX9_end (l := l) (G := G) (SG_ok Z) h3) yy_X9_end lm_RL_130 rfl (by decide) rfl rfl hl.1 (by decide) (hf0 (by omega) (by omega)) (by decide) rfl (Nat.le_of_ble_eq_true rfl) dL_law__308 (fun H locs hw => ?_)
  refine lv_aload_n hx hb dL_law__311 rfl (lv_at hl 2 rfl) ?_
  refine lv_aload_n hx hb dL_law__312 rfl (lv_at hl 0 rfl) ?_
  refine lv_iload hx hb dL_law__313 (lv_at hl 4 rfl) ?_
  refine lv_iconst (v := (1 : Int32)) hx hb dL_law__315 (by decide) ?_
  refine lv_iadd hx hb dL_law__316 ?_
  obtain ⟨b6, h⟩ := rd_some h
  obtain ⟨z7, ez7, h⟩ := lt_some h
  refine va_sld hx hb hX hbl hbA hw.2.2 b6 dL_law__317 ?_
  refine lv_eqi ez7 ?_
  obtain ⟨y9, V10, h8, h⟩ := ob_I_some h
  refine o_VI (As := [.int z7]) E hw (kX10_end (l := l) (G := G) (SG_ok Z) h8) yy_X10_end lm_RL_134 rfl (by decide) rfl rfl hl.1 (by decide) (hf0 (by omega) (by omega)) (by decide) rfl (Nat.le_of_ble_eq_true rfl) dL_law__318 (fun H locs hw => ?_)
  refine lv_icmp_eq (tgt := 2599) hx hb dL_law__321 (by decide) (fun c12 => ?_) (fun c12 => ?_)
  · rw [if_pos c12] at h
    obtain ⟨y11, ey11, h⟩ := lt_some h
    refine lv_iinc (v := y11) (lv' := [(4, .int y11), (0, .ref b), (1, .ref (G.2.2 0)), (2, .ref (G.2.2 22)), (3, .ref oa)]) hx hb dL_law__2599 hl (k := 4) rfl (by rw [ey11]; rfl) (by decide) rfl (fun ls hl => ?_)
    refine lv_goto (tgt := 23) hx hb dL_law__2602 (by decide) ?_
    subst ey11
    exact kc V10 ov (Option.some.inj h).symm H locs ls _ _ hw (lv_sub hl [1, 2, 3, 4, 0] rfl) (by omega) (by omega)
  · rw [if_neg c12] at h
    refine lv_iconst (v := (0 : Int32)) hx hb dL_law__324 (by decide) ?_
    exact absurd (k1 _ (Option.some.inj h).symm) (by decide)
theorem dL_law__326 : decode cL_law_ 326 = .ok (.aload_n 1, 1) := by decide +kernel
theorem dL_law__327 : decode cL_law_ 327 = .ok (.aload_n 3, 1) := by decide +kernel
theorem dL_law__328 : decode cL_law_ 328 = .ok (.invokestatic 135, 3) := by decide +kernel
theorem dL_law__331 : decode cL_law_ 331 = .ok (.istore 5, 2) := by decide +kernel
theorem dL_law__333 : decode cL_law_ 333 = .ok (.aload_n 2, 1) := by decide +kernel
theorem dL_law__334 : decode cL_law_ 334 = .ok (.invokevirtual 140, 3) := by decide +kernel
theorem dL_law__337 : decode cL_law_ 337 = .ok (.istore 6, 2) := by decide +kernel
theorem dL_law__339 : decode cL_law_ 339 = .ok (.aload_n 2, 1) := by decide +kernel
theorem dL_law__340 : decode cL_law_ 340 = .ok (.invokevirtual 141, 3) := by decide +kernel
theorem dL_law__343 : decode cL_law_ 343 = .ok (.iload 5, 2) := by decide +kernel
theorem dL_law__345 : decode cL_law_ 345 = .ok (.if_icmp .eq 5, 3) := by decide +kernel
theorem dL_law__348 : decode cL_law_ 348 = .ok (.iconst 0, 1) := by decide +kernel
theorem dL_law__349 : decode cL_law_ 349 = .ok (.ireturn, 1) := by decide +kernel
theorem dL_law__350 : decode cL_law_ 350 = .ok (.iload 5, 2) := by decide +kernel
theorem dL_law__352 : decode cL_law_ 352 = .ok (.ifCond .ne 15, 3) := by decide +kernel
theorem dL_law__355 : decode cL_law_ 355 = .ok (.aload_n 3, 1) := by decide +kernel
theorem dL_law__356 : decode cL_law_ 356 = .ok (.iconst 0, 1) := by decide +kernel
theorem dL_law__357 : decode cL_law_ 357 = .ok (.laload, 1) := by decide +kernel
theorem dL_law__358 : decode cL_law_ 358 = .ok (.iload 6, 2) := by decide +kernel
theorem dL_law__360 : decode cL_law_ 360 = .ok (.i2l, 1) := by decide +kernel
theorem dL_law__361 : decode cL_law_ 361 = .ok (.lcmp, 1) := by decide +kernel
theorem dL_law__362 : decode cL_law_ 362 = .ok (.ifCond .eq 5, 3) := by decide +kernel
theorem dL_law__365 : decode cL_law_ 365 = .ok (.iconst 0, 1) := by decide +kernel
theorem dL_law__366 : decode cL_law_ 366 = .ok (.ireturn, 1) := by decide +kernel
theorem dL_law__367 : decode cL_law_ 367 = .ok (.goto 2232, 3) := by decide +kernel
/-! opcode 2 -/
noncomputable def fL_c2 (xs : Nat → Int32) (L : Nat) (V : VT) (ov : Nat → Int64) (u4 : Int32) : Option ((VT × (Nat → Int64) × Int32) ⊕ Int32) := ob_I (fX9_street V ) fun o1 V6 => ob_R (hL_street o1 ov) fun qy3 => dt2_ qy3 fun y3 w2 => ob_I (fX10_street V6 ) fun y8 V9 => ob_R (fX10_thrown V9 ) fun y11 => if y11 = y3 then (if y3 = 0 then (if (lg_cmp (w2 ((0 : Int32).toNatClampNeg)) y8.toInt64) = 0 then (lt_ (u4 + (6 : Int32)) fun y13 => some (.inl (V9, w2, y13))) else (some (.inr (0 : Int32)))) else (lt_ (u4 + (6 : Int32)) fun y12 => some (.inl (V9, w2, y12)))) else (some (.inr (0 : Int32)))
set_option maxHeartbeats 4000000 in
set_option maxRecDepth 100000 in
theorem wL_c2 {p : Program} {l : Launch} {e : Env} {s : State} {m : MethodId} {args : Array Value} {below : List Frame} {meth : Method} {c : Code} {G : GT} {Z : Nat → Nat × Nat} {oa b L : Nat} {xs : Nat → Int32} {Q : State → Prop} (E : EO p s m args c meth cL_law_ 7 RL (some .boolean) G (SH Z) oa) (ht : l.stackTraces = false) (hX : va_X b L xs s s.heap) (hbl : b < s.heap.size) (hbA : ¬ gO G oa s.heap.size b) (hL : L ≤ 3072) {C0 S0 : Nat} (hC0 : C0 ≤ 100000) (hS0 : S0 ≤ 1000000) {V : VT} {ov : Nat → Int64} {u4 : Int32} {r : ((VT × (Nat → Int64) × Int32) ⊕ Int32)} (h : fL_c2 xs L V ov u4 = some r) (k1 : ∀ y, r = .inr y → y = 1) (kc : ∀ (V2 : VT) (ov2 : Nat → Int64), r = .inl (V2, ov2, u4 + 6) → ∀ (H : Heap) (locs : List Loc) (ls : Array Slot) (cells slots : Nat), HO G oa s.heap (V2) (ov2) H locs → lv_has ls 7 [(0, .ref b), (1, .ref (G.2.2 0)), (2, .ref (G.2.2 22)), (3, .ref oa), (4, .int (u4 + 6))] → cells ≤ C0 + 3 → slots ≤ S0 + 18 → W p l e room_1 s m args below meth c H locs cells slots Q (F0 m 23 ls [])) {H : Heap} {locs : List Loc} {ls : Array Slot} {cells slots : Nat} (hw : HO G oa s.heap V ov H locs) (hl : lv_has ls 7 [(0, .ref b), (1, .ref (G.2.2 0)), (2, .ref (G.2.2 22)), (3, .ref oa), (4, .int u4)]) (hce : cells ≤ C0) (hsl : slots ≤ S0) : W p l e room_1 s m args below meth c H locs cells slots Q (F0 m 326 ls []) := by
  have hx := E.1
  have hb := E.2.1
  have hfc : ∀ K : Nat, K ≤ 3 → cells + K ≤ room_1.cells ∧ slots + 6 * K ≤ room_1.slots := fun K hK => ⟨by show cells + K ≤ 601024; omega, by show slots + 6 * K ≤ 7293034; omega⟩
  have hf0 : ∀ {c9 s9 : Nat}, c9 ≤ C0 + 3 → s9 ≤ S0 + 18 → c9 ≤ room_1.cells ∧ s9 ≤ room_1.slots := fun h1 h2 => ⟨by show _ ≤ 601024; omega, by show _ ≤ 7293034; omega⟩
  unfold fL_c2 at h
  refine lv_aload_n hx hb dL_law__326 rfl (lv_at hl 1 rfl) ?_
  refine lv_aload_n hx hb dL_law__327 rfl (lv_at hl 3 rfl) ?_
  obtain ⟨o1, V6, h4, h⟩ := ob_I_some h
  obtain ⟨⟨y3, w2⟩, h5, h⟩ := ob_R_some h
  have h := dt2_eq h
  refine o_SH (n := 2) (As := [.ref (G.2.2 0), .ref oa]) E hw (kL_street (l := l) (G := G) (Z := Z) (oa := oa) ht h4 h5) yw_L_street lw_ini lm_RL_135 ⟨by decide, by decide, by decide +kernel⟩ rfl hl.1 (by decide) (hfc 1 (by decide)) (by decide) rfl (Nat.le_of_ble_eq_true rfl) dL_law__328 (fun H locs hw => ?_)
  refine lv_istore (lv' := [(5, .int y3), (0, .ref b), (1, .ref (G.2.2 0)), (2, .ref (G.2.2 22)), (3, .ref oa), (4, .int u4)]) hx hb dL_law__331 hl (by decide) rfl (fun ls hl => ?_)
  refine lv_aload_n hx hb dL_law__333 rfl (lv_at hl 3 rfl) ?_
  obtain ⟨y8, V9, h7, h⟩ := ob_I_some h
  refine o_VI (As := []) E hw (kX10_street (l := l) (G := G) (Z := Z) h7) yy_X10_street lm_RL_140 rfl (by decide) rfl rfl hl.1 (by decide) (hf0 (by omega) (by omega)) (by decide) rfl (Nat.le_of_ble_eq_true rfl) dL_law__334 (fun H locs hw => ?_)
  refine lv_istore (lv' := [(6, .int y8), (5, .int y3), (0, .ref b), (1, .ref (G.2.2 0)), (2, .ref (G.2.2 22)), (3, .ref oa), (4, .int u4)]) hx hb dL_law__337 hl (by decide) rfl (fun ls hl => ?_)
  refine lv_aload_n hx hb dL_law__339 rfl (lv_at hl 4 rfl) ?_
  obtain ⟨y11, h10, h⟩ := ob_R_some h
  refine o_VI (As := []) E hw (kX10_thrown (l := l) (G := G) (SG_ok Z) h10) yy_X10_thrown lm_RL_141 rfl (by decide) rfl rfl hl.1 (by decide) (hf0 (by omega) (by omega)) (by decide) rfl (Nat.le_of_ble_eq_true rfl) dL_law__340 (fun H locs hw => ?_)
  refine lv_iload hx hb dL_law__343 (lv_at hl 1 rfl) ?_
  refine lv_icmp_eq (tgt := 350) hx hb dL_law__345 (by decide) (fun c16 => ?_) (fun c16 => ?_)
  · rw [if_pos c16] at h
    refine lv_iload hx hb dL_law__350 (lv_at hl 1 rfl) ?_
    refine lv_if_ne (tgt := 367) hx hb dL_law__352 (by decide) (fun c15 => ?_) (fun c15 => ?_)
    · rw [if_neg c15] at h
      refine lv_goto (tgt := 2599) hx hb dL_law__367 (by decide) ?_
      obtain ⟨y12, ey12, h⟩ := lt_some h
      refine lv_iinc (v := y12) (lv' := [(4, .int y12), (6, .int y8), (5, .int y3), (0, .ref b), (1, .ref (G.2.2 0)), (2, .ref (G.2.2 22)), (3, .ref oa)]) hx hb dL_law__2599 hl (k := 6) rfl (by rw [ey12]; rfl) (by decide) rfl (fun ls hl => ?_)
      refine lv_goto (tgt := 23) hx hb dL_law__2602 (by decide) ?_
      subst ey12
      exact kc V9 w2 (Option.some.inj h).symm H locs ls _ _ hw (lv_sub hl [3, 4, 5, 6, 0] rfl) (by omega) (by omega)
    · rw [if_pos c15] at h
      refine lv_aload_n hx hb dL_law__355 rfl (lv_at hl 5 rfl) ?_
      refine lv_iconst (v := (0 : Int32)) hx hb dL_law__356 (by decide) ?_
      refine o_ll E hw vp_0_1 dL_law__357 ?_
      refine lv_iload hx hb dL_law__358 (lv_at hl 0 rfl) ?_
      refine lv_i2l hx hb dL_law__360 rfl ?_
      refine W.lcmp hx hb dL_law__361 ?_
      refine lv_if_eq (tgt := 367) hx hb dL_law__362 (by decide) (fun c14 => ?_) (fun c14 => ?_)
      · rw [if_pos c14] at h
        refine lv_goto (tgt := 2599) hx hb dL_law__367 (by decide) ?_
        obtain ⟨y13, ey13, h⟩ := lt_some h
        refine lv_iinc (v := y13) (lv' := [(4, .int y13), (6, .int y8), (5, .int y3), (0, .ref b), (1, .ref (G.2.2 0)), (2, .ref (G.2.2 22)), (3, .ref oa)]) hx hb dL_law__2599 hl (k := 6) rfl (by rw [ey13]; rfl) (by decide) rfl (fun ls hl => ?_)
        refine lv_goto (tgt := 23) hx hb dL_law__2602 (by decide) ?_
        subst ey13
        exact kc V9 w2 (Option.some.inj h).symm H locs ls _ _ hw (lv_sub hl [3, 4, 5, 6, 0] rfl) (by omega) (by omega)
      · rw [if_neg c14] at h
        refine lv_iconst (v := (0 : Int32)) hx hb dL_law__365 (by decide) ?_
        exact absurd (k1 _ (Option.some.inj h).symm) (by decide)
  · rw [if_neg c16] at h
    refine lv_iconst (v := (0 : Int32)) hx hb dL_law__348 (by decide) ?_
    exact absurd (k1 _ (Option.some.inj h).symm) (by decide)
theorem dL_law__370 : decode cL_law_ 370 = .ok (.aload_n 1, 1) := by decide +kernel
theorem dL_law__371 : decode cL_law_ 371 = .ok (.aload_n 3, 1) := by decide +kernel
theorem dL_law__372 : decode cL_law_ 372 = .ok (.invokestatic 144, 3) := by decide +kernel
theorem dL_law__375 : decode cL_law_ 375 = .ok (.istore 5, 2) := by decide +kernel
theorem dL_law__377 : decode cL_law_ 377 = .ok (.aload_n 2, 1) := by decide +kernel
theorem dL_law__378 : decode cL_law_ 378 = .ok (.invokevirtual 146, 3) := by decide +kernel
theorem dL_law__381 : decode cL_law_ 381 = .ok (.istore 6, 2) := by decide +kernel
theorem dL_law__383 : decode cL_law_ 383 = .ok (.aload_n 2, 1) := by decide +kernel
theorem dL_law__384 : decode cL_law_ 384 = .ok (.invokevirtual 141, 3) := by decide +kernel
theorem dL_law__387 : decode cL_law_ 387 = .ok (.iload 5, 2) := by decide +kernel
theorem dL_law__389 : decode cL_law_ 389 = .ok (.if_icmp .eq 5, 3) := by decide +kernel
theorem dL_law__392 : decode cL_law_ 392 = .ok (.iconst 0, 1) := by decide +kernel
theorem dL_law__393 : decode cL_law_ 393 = .ok (.ireturn, 1) := by decide +kernel
theorem dL_law__394 : decode cL_law_ 394 = .ok (.iload 5, 2) := by decide +kernel
theorem dL_law__396 : decode cL_law_ 396 = .ok (.ifCond .ne 15, 3) := by decide +kernel
theorem dL_law__399 : decode cL_law_ 399 = .ok (.aload_n 3, 1) := by decide +kernel
theorem dL_law__400 : decode cL_law_ 400 = .ok (.iconst 0, 1) := by decide +kernel
theorem dL_law__401 : decode cL_law_ 401 = .ok (.laload, 1) := by decide +kernel
theorem dL_law__402 : decode cL_law_ 402 = .ok (.iload 6, 2) := by decide +kernel
theorem dL_law__404 : decode cL_law_ 404 = .ok (.i2l, 1) := by decide +kernel
theorem dL_law__405 : decode cL_law_ 405 = .ok (.lcmp, 1) := by decide +kernel
theorem dL_law__406 : decode cL_law_ 406 = .ok (.ifCond .eq 5, 3) := by decide +kernel
theorem dL_law__409 : decode cL_law_ 409 = .ok (.iconst 0, 1) := by decide +kernel
theorem dL_law__410 : decode cL_law_ 410 = .ok (.ireturn, 1) := by decide +kernel
theorem dL_law__411 : decode cL_law_ 411 = .ok (.goto 2188, 3) := by decide +kernel
/-! opcode 3 -/
noncomputable def fL_c3 (xs : Nat → Int32) (L : Nat) (V : VT) (ov : Nat → Int64) (u4 : Int32) : Option ((VT × (Nat → Int64) × Int32) ⊕ Int32) := ob_I (fX9_law V ) fun o1 V6 => ob_R (hL_law o1 ov) fun qy3 => dt2_ qy3 fun y3 w2 => ob_I (fX10_law V6 ) fun y8 V9 => ob_R (fX10_thrown V9 ) fun y11 => if y11 = y3 then (if y3 = 0 then (if (lg_cmp (w2 ((0 : Int32).toNatClampNeg)) y8.toInt64) = 0 then (lt_ (u4 + (6 : Int32)) fun y13 => some (.inl (V9, w2, y13))) else (some (.inr (0 : Int32)))) else (lt_ (u4 + (6 : Int32)) fun y12 => some (.inl (V9, w2, y12)))) else (some (.inr (0 : Int32)))
set_option maxHeartbeats 4000000 in
set_option maxRecDepth 100000 in
theorem wL_c3 {p : Program} {l : Launch} {e : Env} {s : State} {m : MethodId} {args : Array Value} {below : List Frame} {meth : Method} {c : Code} {G : GT} {Z : Nat → Nat × Nat} {oa b L : Nat} {xs : Nat → Int32} {Q : State → Prop} (E : EO p s m args c meth cL_law_ 7 RL (some .boolean) G (SH Z) oa) (ht : l.stackTraces = false) (hX : va_X b L xs s s.heap) (hbl : b < s.heap.size) (hbA : ¬ gO G oa s.heap.size b) (hL : L ≤ 3072) {C0 S0 : Nat} (hC0 : C0 ≤ 100000) (hS0 : S0 ≤ 1000000) {V : VT} {ov : Nat → Int64} {u4 : Int32} {r : ((VT × (Nat → Int64) × Int32) ⊕ Int32)} (h : fL_c3 xs L V ov u4 = some r) (k1 : ∀ y, r = .inr y → y = 1) (kc : ∀ (V2 : VT) (ov2 : Nat → Int64), r = .inl (V2, ov2, u4 + 6) → ∀ (H : Heap) (locs : List Loc) (ls : Array Slot) (cells slots : Nat), HO G oa s.heap (V2) (ov2) H locs → lv_has ls 7 [(0, .ref b), (1, .ref (G.2.2 0)), (2, .ref (G.2.2 22)), (3, .ref oa), (4, .int (u4 + 6))] → cells ≤ C0 + 3 → slots ≤ S0 + 18 → W p l e room_1 s m args below meth c H locs cells slots Q (F0 m 23 ls [])) {H : Heap} {locs : List Loc} {ls : Array Slot} {cells slots : Nat} (hw : HO G oa s.heap V ov H locs) (hl : lv_has ls 7 [(0, .ref b), (1, .ref (G.2.2 0)), (2, .ref (G.2.2 22)), (3, .ref oa), (4, .int u4)]) (hce : cells ≤ C0) (hsl : slots ≤ S0) : W p l e room_1 s m args below meth c H locs cells slots Q (F0 m 370 ls []) := by
  have hx := E.1
  have hb := E.2.1
  have hfc : ∀ K : Nat, K ≤ 3 → cells + K ≤ room_1.cells ∧ slots + 6 * K ≤ room_1.slots := fun K hK => ⟨by show cells + K ≤ 601024; omega, by show slots + 6 * K ≤ 7293034; omega⟩
  have hf0 : ∀ {c9 s9 : Nat}, c9 ≤ C0 + 3 → s9 ≤ S0 + 18 → c9 ≤ room_1.cells ∧ s9 ≤ room_1.slots := fun h1 h2 => ⟨by show _ ≤ 601024; omega, by show _ ≤ 7293034; omega⟩
  unfold fL_c3 at h
  refine lv_aload_n hx hb dL_law__370 rfl (lv_at hl 1 rfl) ?_
  refine lv_aload_n hx hb dL_law__371 rfl (lv_at hl 3 rfl) ?_
  obtain ⟨o1, V6, h4, h⟩ := ob_I_some h
  obtain ⟨⟨y3, w2⟩, h5, h⟩ := ob_R_some h
  have h := dt2_eq h
  refine o_SH (n := 2) (As := [.ref (G.2.2 0), .ref oa]) E hw (kL_law (l := l) (G := G) (Z := Z) (oa := oa) ht h4 h5) yw_L_law lw_ini lm_RL_144 ⟨by decide, by decide, by decide +kernel⟩ rfl hl.1 (by decide) (hfc 1 (by decide)) (by decide) rfl (Nat.le_of_ble_eq_true rfl) dL_law__372 (fun H locs hw => ?_)
  refine lv_istore (lv' := [(5, .int y3), (0, .ref b), (1, .ref (G.2.2 0)), (2, .ref (G.2.2 22)), (3, .ref oa), (4, .int u4)]) hx hb dL_law__375 hl (by decide) rfl (fun ls hl => ?_)
  refine lv_aload_n hx hb dL_law__377 rfl (lv_at hl 3 rfl) ?_
  obtain ⟨y8, V9, h7, h⟩ := ob_I_some h
  refine o_VI (As := []) E hw (kX10_law (l := l) (G := G) (Z := Z) h7) yy_X10_law lm_RL_146 rfl (by decide) rfl rfl hl.1 (by decide) (hf0 (by omega) (by omega)) (by decide) rfl (Nat.le_of_ble_eq_true rfl) dL_law__378 (fun H locs hw => ?_)
  refine lv_istore (lv' := [(6, .int y8), (5, .int y3), (0, .ref b), (1, .ref (G.2.2 0)), (2, .ref (G.2.2 22)), (3, .ref oa), (4, .int u4)]) hx hb dL_law__381 hl (by decide) rfl (fun ls hl => ?_)
  refine lv_aload_n hx hb dL_law__383 rfl (lv_at hl 4 rfl) ?_
  obtain ⟨y11, h10, h⟩ := ob_R_some h
  refine o_VI (As := []) E hw (kX10_thrown (l := l) (G := G) (SG_ok Z) h10) yy_X10_thrown lm_RL_141 rfl (by decide) rfl rfl hl.1 (by decide) (hf0 (by omega) (by omega)) (by decide) rfl (Nat.le_of_ble_eq_true rfl) dL_law__384 (fun H locs hw => ?_)
  refine lv_iload hx hb dL_law__387 (lv_at hl 1 rfl) ?_
  refine lv_icmp_eq (tgt := 394) hx hb dL_law__389 (by decide) (fun c16 => ?_) (fun c16 => ?_)
  · rw [if_pos c16] at h
    refine lv_iload hx hb dL_law__394 (lv_at hl 1 rfl) ?_
    refine lv_if_ne (tgt := 411) hx hb dL_law__396 (by decide) (fun c15 => ?_) (fun c15 => ?_)
    · rw [if_neg c15] at h
      refine lv_goto (tgt := 2599) hx hb dL_law__411 (by decide) ?_
      obtain ⟨y12, ey12, h⟩ := lt_some h
      refine lv_iinc (v := y12) (lv' := [(4, .int y12), (6, .int y8), (5, .int y3), (0, .ref b), (1, .ref (G.2.2 0)), (2, .ref (G.2.2 22)), (3, .ref oa)]) hx hb dL_law__2599 hl (k := 6) rfl (by rw [ey12]; rfl) (by decide) rfl (fun ls hl => ?_)
      refine lv_goto (tgt := 23) hx hb dL_law__2602 (by decide) ?_
      subst ey12
      exact kc V9 w2 (Option.some.inj h).symm H locs ls _ _ hw (lv_sub hl [3, 4, 5, 6, 0] rfl) (by omega) (by omega)
    · rw [if_pos c15] at h
      refine lv_aload_n hx hb dL_law__399 rfl (lv_at hl 5 rfl) ?_
      refine lv_iconst (v := (0 : Int32)) hx hb dL_law__400 (by decide) ?_
      refine o_ll E hw vp_0_1 dL_law__401 ?_
      refine lv_iload hx hb dL_law__402 (lv_at hl 0 rfl) ?_
      refine lv_i2l hx hb dL_law__404 rfl ?_
      refine W.lcmp hx hb dL_law__405 ?_
      refine lv_if_eq (tgt := 411) hx hb dL_law__406 (by decide) (fun c14 => ?_) (fun c14 => ?_)
      · rw [if_pos c14] at h
        refine lv_goto (tgt := 2599) hx hb dL_law__411 (by decide) ?_
        obtain ⟨y13, ey13, h⟩ := lt_some h
        refine lv_iinc (v := y13) (lv' := [(4, .int y13), (6, .int y8), (5, .int y3), (0, .ref b), (1, .ref (G.2.2 0)), (2, .ref (G.2.2 22)), (3, .ref oa)]) hx hb dL_law__2599 hl (k := 6) rfl (by rw [ey13]; rfl) (by decide) rfl (fun ls hl => ?_)
        refine lv_goto (tgt := 23) hx hb dL_law__2602 (by decide) ?_
        subst ey13
        exact kc V9 w2 (Option.some.inj h).symm H locs ls _ _ hw (lv_sub hl [3, 4, 5, 6, 0] rfl) (by omega) (by omega)
      · rw [if_neg c14] at h
        refine lv_iconst (v := (0 : Int32)) hx hb dL_law__409 (by decide) ?_
        exact absurd (k1 _ (Option.some.inj h).symm) (by decide)
  · rw [if_neg c16] at h
    refine lv_iconst (v := (0 : Int32)) hx hb dL_law__392 (by decide) ?_
    exact absurd (k1 _ (Option.some.inj h).symm) (by decide)
theorem dL_law__414 : decode cL_law_ 414 = .ok (.aload_n 1, 1) := by decide +kernel
theorem dL_law__415 : decode cL_law_ 415 = .ok (.invokevirtual 147, 3) := by decide +kernel
theorem dL_law__418 : decode cL_law_ 418 = .ok (.aload_n 2, 1) := by decide +kernel
theorem dL_law__419 : decode cL_law_ 419 = .ok (.invokevirtual 150, 3) := by decide +kernel
theorem dL_law__422 : decode cL_law_ 422 = .ok (.if_icmp .eq 2177, 3) := by decide +kernel
theorem dL_law__425 : decode cL_law_ 425 = .ok (.iconst 0, 1) := by decide +kernel
theorem dL_law__426 : decode cL_law_ 426 = .ok (.ireturn, 1) := by decide +kernel
/-! opcode 4 -/
noncomputable def fL_c4 (xs : Nat → Int32) (L : Nat) (V : VT) (ov : Nat → Int64) (u4 : Int32) : Option ((VT × (Nat → Int64) × Int32) ⊕ Int32) := ob_R (fX9_fault V ) fun y2 => ob_I (fX10_fault V ) fun y4 V5 => if y2 = y4 then (lt_ (u4 + (6 : Int32)) fun y6 => some (.inl (V5, ov, y6))) else (some (.inr (0 : Int32)))
set_option maxHeartbeats 4000000 in
set_option maxRecDepth 100000 in
theorem wL_c4 {p : Program} {l : Launch} {e : Env} {s : State} {m : MethodId} {args : Array Value} {below : List Frame} {meth : Method} {c : Code} {G : GT} {Z : Nat → Nat × Nat} {oa b L : Nat} {xs : Nat → Int32} {Q : State → Prop} (E : EO p s m args c meth cL_law_ 7 RL (some .boolean) G (SH Z) oa) (ht : l.stackTraces = false) (hX : va_X b L xs s s.heap) (hbl : b < s.heap.size) (hbA : ¬ gO G oa s.heap.size b) (hL : L ≤ 3072) {C0 S0 : Nat} (hC0 : C0 ≤ 100000) (hS0 : S0 ≤ 1000000) {V : VT} {ov : Nat → Int64} {u4 : Int32} {r : ((VT × (Nat → Int64) × Int32) ⊕ Int32)} (h : fL_c4 xs L V ov u4 = some r) (k1 : ∀ y, r = .inr y → y = 1) (kc : ∀ (V2 : VT) (ov2 : Nat → Int64), r = .inl (V2, ov2, u4 + 6) → ∀ (H : Heap) (locs : List Loc) (ls : Array Slot) (cells slots : Nat), HO G oa s.heap (V2) (ov2) H locs → lv_has ls 7 [(0, .ref b), (1, .ref (G.2.2 0)), (2, .ref (G.2.2 22)), (3, .ref oa), (4, .int (u4 + 6))] → cells ≤ C0 + 3 → slots ≤ S0 + 18 → W p l e room_1 s m args below meth c H locs cells slots Q (F0 m 23 ls [])) {H : Heap} {locs : List Loc} {ls : Array Slot} {cells slots : Nat} (hw : HO G oa s.heap V ov H locs) (hl : lv_has ls 7 [(0, .ref b), (1, .ref (G.2.2 0)), (2, .ref (G.2.2 22)), (3, .ref oa), (4, .int u4)]) (hce : cells ≤ C0) (hsl : slots ≤ S0) : W p l e room_1 s m args below meth c H locs cells slots Q (F0 m 414 ls []) := by
  have hx := E.1
  have hb := E.2.1
  have hfc : ∀ K : Nat, K ≤ 3 → cells + K ≤ room_1.cells ∧ slots + 6 * K ≤ room_1.slots := fun K hK => ⟨by show cells + K ≤ 601024; omega, by show slots + 6 * K ≤ 7293034; omega⟩
  have hf0 : ∀ {c9 s9 : Nat}, c9 ≤ C0 + 3 → s9 ≤ S0 + 18 → c9 ≤ room_1.cells ∧ s9 ≤ room_1.slots := fun h1 h2 => ⟨by show _ ≤ 601024; omega, by show _ ≤ 7293034; omega⟩
  unfold fL_c4 at h
  refine lv_aload_n hx hb dL_law__414 rfl (lv_at hl 1 rfl) ?_
  obtain ⟨y2, h1, h⟩ := ob_R_some h
  refine o_VI (As := []) E hw (kX9_fault (l := l) (G := G) (SG_ok Z) h1) yy_X9_fault lm_RL_147 rfl (by decide) rfl rfl hl.1 (by decide) (hf0 (by omega) (by omega)) (by decide) rfl (Nat.le_of_ble_eq_true rfl) dL_law__415 (fun H locs hw => ?_)
  refine lv_aload_n hx hb dL_law__418 rfl (lv_at hl 2 rfl) ?_
  obtain ⟨y4, V5, h3, h⟩ := ob_I_some h
  refine o_VI (As := []) E hw (kX10_fault (l := l) (G := G) (SG_ok Z) h3) yy_X10_fault lm_RL_150 rfl (by decide) rfl rfl hl.1 (by decide) (hf0 (by omega) (by omega)) (by decide) rfl (Nat.le_of_ble_eq_true rfl) dL_law__419 (fun H locs hw => ?_)
  refine lv_icmp_eq (tgt := 2599) hx hb dL_law__422 (by decide) (fun c7 => ?_) (fun c7 => ?_)
  · rw [if_pos c7] at h
    obtain ⟨y6, ey6, h⟩ := lt_some h
    refine lv_iinc (v := y6) (lv' := [(4, .int y6), (0, .ref b), (1, .ref (G.2.2 0)), (2, .ref (G.2.2 22)), (3, .ref oa)]) hx hb dL_law__2599 hl (k := 4) rfl (by rw [ey6]; rfl) (by decide) rfl (fun ls hl => ?_)
    refine lv_goto (tgt := 23) hx hb dL_law__2602 (by decide) ?_
    subst ey6
    exact kc V5 ov (Option.some.inj h).symm H locs ls _ _ hw (lv_sub hl [1, 2, 3, 4, 0] rfl) (by omega) (by omega)
  · rw [if_neg c7] at h
    refine lv_iconst (v := (0 : Int32)) hx hb dL_law__425 (by decide) ?_
    exact absurd (k1 _ (Option.some.inj h).symm) (by decide)
theorem dL_law__427 : decode cL_law_ 427 = .ok (.aload_n 1, 1) := by decide +kernel
theorem dL_law__428 : decode cL_law_ 428 = .ok (.aload_n 0, 1) := by decide +kernel
theorem dL_law__429 : decode cL_law_ 429 = .ok (.iload 4, 2) := by decide +kernel
theorem dL_law__431 : decode cL_law_ 431 = .ok (.iconst 1, 1) := by decide +kernel
theorem dL_law__432 : decode cL_law_ 432 = .ok (.iadd, 1) := by decide +kernel
theorem dL_law__433 : decode cL_law_ 433 = .ok (.iaload, 1) := by decide +kernel
theorem dL_law__434 : decode cL_law_ 434 = .ok (.aload_n 0, 1) := by decide +kernel
theorem dL_law__435 : decode cL_law_ 435 = .ok (.iload 4, 2) := by decide +kernel
theorem dL_law__437 : decode cL_law_ 437 = .ok (.iconst 2, 1) := by decide +kernel
theorem dL_law__438 : decode cL_law_ 438 = .ok (.iadd, 1) := by decide +kernel
theorem dL_law__439 : decode cL_law_ 439 = .ok (.iaload, 1) := by decide +kernel
theorem dL_law__440 : decode cL_law_ 440 = .ok (.aload_n 3, 1) := by decide +kernel
theorem dL_law__441 : decode cL_law_ 441 = .ok (.invokestatic 151, 3) := by decide +kernel
theorem dL_law__444 : decode cL_law_ 444 = .ok (.istore 5, 2) := by decide +kernel
theorem dL_law__446 : decode cL_law_ 446 = .ok (.aload_n 2, 1) := by decide +kernel
theorem dL_law__447 : decode cL_law_ 447 = .ok (.aload_n 0, 1) := by decide +kernel
theorem dL_law__448 : decode cL_law_ 448 = .ok (.iload 4, 2) := by decide +kernel
theorem dL_law__450 : decode cL_law_ 450 = .ok (.iconst 1, 1) := by decide +kernel
theorem dL_law__451 : decode cL_law_ 451 = .ok (.iadd, 1) := by decide +kernel
theorem dL_law__452 : decode cL_law_ 452 = .ok (.iaload, 1) := by decide +kernel
theorem dL_law__453 : decode cL_law_ 453 = .ok (.aload_n 0, 1) := by decide +kernel
theorem dL_law__454 : decode cL_law_ 454 = .ok (.iload 4, 2) := by decide +kernel
theorem dL_law__456 : decode cL_law_ 456 = .ok (.iconst 2, 1) := by decide +kernel
theorem dL_law__457 : decode cL_law_ 457 = .ok (.iadd, 1) := by decide +kernel
theorem dL_law__458 : decode cL_law_ 458 = .ok (.iaload, 1) := by decide +kernel
theorem dL_law__459 : decode cL_law_ 459 = .ok (.invokevirtual 154, 3) := by decide +kernel
theorem dL_law__462 : decode cL_law_ 462 = .ok (.istore 6, 2) := by decide +kernel
theorem dL_law__464 : decode cL_law_ 464 = .ok (.aload_n 2, 1) := by decide +kernel
theorem dL_law__465 : decode cL_law_ 465 = .ok (.invokevirtual 141, 3) := by decide +kernel
theorem dL_law__468 : decode cL_law_ 468 = .ok (.iload 5, 2) := by decide +kernel
theorem dL_law__470 : decode cL_law_ 470 = .ok (.if_icmp .eq 5, 3) := by decide +kernel
theorem dL_law__473 : decode cL_law_ 473 = .ok (.iconst 0, 1) := by decide +kernel
theorem dL_law__474 : decode cL_law_ 474 = .ok (.ireturn, 1) := by decide +kernel
theorem dL_law__475 : decode cL_law_ 475 = .ok (.iload 5, 2) := by decide +kernel
theorem dL_law__477 : decode cL_law_ 477 = .ok (.ifCond .ne 15, 3) := by decide +kernel
theorem dL_law__480 : decode cL_law_ 480 = .ok (.aload_n 3, 1) := by decide +kernel
theorem dL_law__481 : decode cL_law_ 481 = .ok (.iconst 0, 1) := by decide +kernel
theorem dL_law__482 : decode cL_law_ 482 = .ok (.laload, 1) := by decide +kernel
theorem dL_law__483 : decode cL_law_ 483 = .ok (.iload 6, 2) := by decide +kernel
theorem dL_law__485 : decode cL_law_ 485 = .ok (.i2l, 1) := by decide +kernel
theorem dL_law__486 : decode cL_law_ 486 = .ok (.lcmp, 1) := by decide +kernel
theorem dL_law__487 : decode cL_law_ 487 = .ok (.ifCond .eq 5, 3) := by decide +kernel
theorem dL_law__490 : decode cL_law_ 490 = .ok (.iconst 0, 1) := by decide +kernel
theorem dL_law__491 : decode cL_law_ 491 = .ok (.ireturn, 1) := by decide +kernel
theorem dL_law__492 : decode cL_law_ 492 = .ok (.goto 2107, 3) := by decide +kernel
/-! opcode 5 -/
noncomputable def fL_c5 (xs : Nat → Int32) (L : Nat) (V : VT) (ov : Nat → Int64) (u4 : Int32) : Option ((VT × (Nat → Int64) × Int32) ⊕ Int32) := rd_ (u4 + (1 : Int32)) L (lt_ (xs (u4 + (1 : Int32)).toNatClampNeg) fun z2 => rd_ (u4 + (2 : Int32)) L (lt_ (xs (u4 + (2 : Int32)).toNatClampNeg) fun z4 => ob_I (fX9_house V z2 z4) fun o5 V10 => ob_R (hL_house o5 ov) fun qy7 => dt2_ qy7 fun y7 w6 => rd_ (u4 + (1 : Int32)) L (lt_ (xs (u4 + (1 : Int32)).toNatClampNeg) fun z12 => rd_ (u4 + (2 : Int32)) L (lt_ (xs (u4 + (2 : Int32)).toNatClampNeg) fun z14 => ob_I (fX10_house V10 z12 z14) fun y16 V17 => ob_R (fX10_thrown V17 ) fun y19 => if y19 = y7 then (if y7 = 0 then (if (lg_cmp (w6 ((0 : Int32).toNatClampNeg)) y16.toInt64) = 0 then (lt_ (u4 + (6 : Int32)) fun y21 => some (.inl (V17, w6, y21))) else (some (.inr (0 : Int32)))) else (lt_ (u4 + (6 : Int32)) fun y20 => some (.inl (V17, w6, y20)))) else (some (.inr (0 : Int32)))))))
set_option maxHeartbeats 4000000 in
set_option maxRecDepth 100000 in
theorem wL_c5 {p : Program} {l : Launch} {e : Env} {s : State} {m : MethodId} {args : Array Value} {below : List Frame} {meth : Method} {c : Code} {G : GT} {Z : Nat → Nat × Nat} {oa b L : Nat} {xs : Nat → Int32} {Q : State → Prop} (E : EO p s m args c meth cL_law_ 7 RL (some .boolean) G (SH Z) oa) (ht : l.stackTraces = false) (hX : va_X b L xs s s.heap) (hbl : b < s.heap.size) (hbA : ¬ gO G oa s.heap.size b) (hL : L ≤ 3072) {C0 S0 : Nat} (hC0 : C0 ≤ 100000) (hS0 : S0 ≤ 1000000) {V : VT} {ov : Nat → Int64} {u4 : Int32} {r : ((VT × (Nat → Int64) × Int32) ⊕ Int32)} (h : fL_c5 xs L V ov u4 = some r) (k1 : ∀ y, r = .inr y → y = 1) (kc : ∀ (V2 : VT) (ov2 : Nat → Int64), r = .inl (V2, ov2, u4 + 6) → ∀ (H : Heap) (locs : List Loc) (ls : Array Slot) (cells slots : Nat), HO G oa s.heap (V2) (ov2) H locs → lv_has ls 7 [(0, .ref b), (1, .ref (G.2.2 0)), (2, .ref (G.2.2 22)), (3, .ref oa), (4, .int (u4 + 6))] → cells ≤ C0 + 3 → slots ≤ S0 + 18 → W p l e room_1 s m args below meth c H locs cells slots Q (F0 m 23 ls [])) {H : Heap} {locs : List Loc} {ls : Array Slot} {cells slots : Nat} (hw : HO G oa s.heap V ov H locs) (hl : lv_has ls 7 [(0, .ref b), (1, .ref (G.2.2 0)), (2, .ref (G.2.2 22)), (3, .ref oa), (4, .int u4)]) (hce : cells ≤ C0) (hsl : slots ≤ S0) : W p l e room_1 s m args below meth c H locs cells slots Q (F0 m 427 ls []) := by
  have hx := E.1
  have hb := E.2.1
  have hfc : ∀ K : Nat, K ≤ 3 → cells + K ≤ room_1.cells ∧ slots + 6 * K ≤ room_1.slots := fun K hK => ⟨by show cells + K ≤ 601024; omega, by show slots + 6 * K ≤ 7293034; omega⟩
  have hf0 : ∀ {c9 s9 : Nat}, c9 ≤ C0 + 3 → s9 ≤ S0 + 18 → c9 ≤ room_1.cells ∧ s9 ≤ room_1.slots := fun h1 h2 => ⟨by show _ ≤ 601024; omega, by show _ ≤ 7293034; omega⟩
  unfold fL_c5 at h
  refine lv_aload_n hx hb dL_law__427 rfl (lv_at hl 1 rfl) ?_
  refine lv_aload_n hx hb dL_law__428 rfl (lv_at hl 0 rfl) ?_
  refine lv_iload hx hb dL_law__429 (lv_at hl 4 rfl) ?_
  refine lv_iconst (v := (1 : Int32)) hx hb dL_law__431 (by decide) ?_
  refine lv_iadd hx hb dL_law__432 ?_
  obtain ⟨b1, h⟩ := rd_some h
  obtain ⟨z2, ez2, h⟩ := lt_some h
  refine va_sld hx hb hX hbl hbA hw.2.2 b1 dL_law__433 ?_
  refine lv_eqi ez2 ?_
  refine lv_aload_n hx hb dL_law__434 rfl (lv_at hl 0 rfl) ?_
  refine lv_iload hx hb dL_law__435 (lv_at hl 4 rfl) ?_
  refine lv_iconst (v := (2 : Int32)) hx hb dL_law__437 (by decide) ?_
  refine lv_iadd hx hb dL_law__438 ?_
  obtain ⟨b3, h⟩ := rd_some h
  obtain ⟨z4, ez4, h⟩ := lt_some h
  refine va_sld hx hb hX hbl hbA hw.2.2 b3 dL_law__439 ?_
  refine lv_eqi ez4 ?_
  refine lv_aload_n hx hb dL_law__440 rfl (lv_at hl 3 rfl) ?_
  obtain ⟨o5, V10, h8, h⟩ := ob_I_some h
  obtain ⟨⟨y7, w6⟩, h9, h⟩ := ob_R_some h
  have h := dt2_eq h
  refine o_SH (n := 4) (As := [.ref (G.2.2 0), .int z2, .int z4, .ref oa]) E hw (kL_house (l := l) (G := G) (Z := Z) (oa := oa) ht h8 h9) yw_L_house lw_ini lm_RL_151 ⟨by decide, by decide, by decide +kernel⟩ rfl hl.1 (by decide) (hfc 2 (by decide)) (by decide) rfl (Nat.le_of_ble_eq_true rfl) dL_law__441 (fun H locs hw => ?_)
  refine lv_istore (lv' := [(5, .int y7), (0, .ref b), (1, .ref (G.2.2 0)), (2, .ref (G.2.2 22)), (3, .ref oa), (4, .int u4)]) hx hb dL_law__444 hl (by decide) rfl (fun ls hl => ?_)
  refine lv_aload_n hx hb dL_law__446 rfl (lv_at hl 3 rfl) ?_
  refine lv_aload_n hx hb dL_law__447 rfl (lv_at hl 1 rfl) ?_
  refine lv_iload hx hb dL_law__448 (lv_at hl 5 rfl) ?_
  refine lv_iconst (v := (1 : Int32)) hx hb dL_law__450 (by decide) ?_
  refine lv_iadd hx hb dL_law__451 ?_
  obtain ⟨b11, h⟩ := rd_some h
  obtain ⟨z12, ez12, h⟩ := lt_some h
  refine va_sld hx hb hX hbl hbA hw.2.2 b11 dL_law__452 ?_
  refine lv_eqi ez12 ?_
  refine lv_aload_n hx hb dL_law__453 rfl (lv_at hl 1 rfl) ?_
  refine lv_iload hx hb dL_law__454 (lv_at hl 5 rfl) ?_
  refine lv_iconst (v := (2 : Int32)) hx hb dL_law__456 (by decide) ?_
  refine lv_iadd hx hb dL_law__457 ?_
  obtain ⟨b13, h⟩ := rd_some h
  obtain ⟨z14, ez14, h⟩ := lt_some h
  refine va_sld hx hb hX hbl hbA hw.2.2 b13 dL_law__458 ?_
  refine lv_eqi ez14 ?_
  obtain ⟨y16, V17, h15, h⟩ := ob_I_some h
  refine o_VI (As := [.int z12, .int z14]) E hw (kX10_house (l := l) (G := G) (SG_ok Z) h15) yy_X10_house lm_RL_154 rfl (by decide) rfl rfl hl.1 (by decide) (hf0 (by omega) (by omega)) (by decide) rfl (Nat.le_of_ble_eq_true rfl) dL_law__459 (fun H locs hw => ?_)
  refine lv_istore (lv' := [(6, .int y16), (5, .int y7), (0, .ref b), (1, .ref (G.2.2 0)), (2, .ref (G.2.2 22)), (3, .ref oa), (4, .int u4)]) hx hb dL_law__462 hl (by decide) rfl (fun ls hl => ?_)
  refine lv_aload_n hx hb dL_law__464 rfl (lv_at hl 4 rfl) ?_
  obtain ⟨y19, h18, h⟩ := ob_R_some h
  refine o_VI (As := []) E hw (kX10_thrown (l := l) (G := G) (SG_ok Z) h18) yy_X10_thrown lm_RL_141 rfl (by decide) rfl rfl hl.1 (by decide) (hf0 (by omega) (by omega)) (by decide) rfl (Nat.le_of_ble_eq_true rfl) dL_law__465 (fun H locs hw => ?_)
  refine lv_iload hx hb dL_law__468 (lv_at hl 1 rfl) ?_
  refine lv_icmp_eq (tgt := 475) hx hb dL_law__470 (by decide) (fun c24 => ?_) (fun c24 => ?_)
  · rw [if_pos c24] at h
    refine lv_iload hx hb dL_law__475 (lv_at hl 1 rfl) ?_
    refine lv_if_ne (tgt := 492) hx hb dL_law__477 (by decide) (fun c23 => ?_) (fun c23 => ?_)
    · rw [if_neg c23] at h
      refine lv_goto (tgt := 2599) hx hb dL_law__492 (by decide) ?_
      obtain ⟨y20, ey20, h⟩ := lt_some h
      refine lv_iinc (v := y20) (lv' := [(4, .int y20), (6, .int y16), (5, .int y7), (0, .ref b), (1, .ref (G.2.2 0)), (2, .ref (G.2.2 22)), (3, .ref oa)]) hx hb dL_law__2599 hl (k := 6) rfl (by rw [ey20]; rfl) (by decide) rfl (fun ls hl => ?_)
      refine lv_goto (tgt := 23) hx hb dL_law__2602 (by decide) ?_
      subst ey20
      exact kc V17 w6 (Option.some.inj h).symm H locs ls _ _ hw (lv_sub hl [3, 4, 5, 6, 0] rfl) (by omega) (by omega)
    · rw [if_pos c23] at h
      refine lv_aload_n hx hb dL_law__480 rfl (lv_at hl 5 rfl) ?_
      refine lv_iconst (v := (0 : Int32)) hx hb dL_law__481 (by decide) ?_
      refine o_ll E hw vp_0_1 dL_law__482 ?_
      refine lv_iload hx hb dL_law__483 (lv_at hl 0 rfl) ?_
      refine lv_i2l hx hb dL_law__485 rfl ?_
      refine W.lcmp hx hb dL_law__486 ?_
      refine lv_if_eq (tgt := 492) hx hb dL_law__487 (by decide) (fun c22 => ?_) (fun c22 => ?_)
      · rw [if_pos c22] at h
        refine lv_goto (tgt := 2599) hx hb dL_law__492 (by decide) ?_
        obtain ⟨y21, ey21, h⟩ := lt_some h
        refine lv_iinc (v := y21) (lv' := [(4, .int y21), (6, .int y16), (5, .int y7), (0, .ref b), (1, .ref (G.2.2 0)), (2, .ref (G.2.2 22)), (3, .ref oa)]) hx hb dL_law__2599 hl (k := 6) rfl (by rw [ey21]; rfl) (by decide) rfl (fun ls hl => ?_)
        refine lv_goto (tgt := 23) hx hb dL_law__2602 (by decide) ?_
        subst ey21
        exact kc V17 w6 (Option.some.inj h).symm H locs ls _ _ hw (lv_sub hl [3, 4, 5, 6, 0] rfl) (by omega) (by omega)
      · rw [if_neg c22] at h
        refine lv_iconst (v := (0 : Int32)) hx hb dL_law__490 (by decide) ?_
        exact absurd (k1 _ (Option.some.inj h).symm) (by decide)
  · rw [if_neg c24] at h
    refine lv_iconst (v := (0 : Int32)) hx hb dL_law__473 (by decide) ?_
    exact absurd (k1 _ (Option.some.inj h).symm) (by decide)
theorem dL_law__495 : decode cL_law_ 495 = .ok (.aload_n 1, 1) := by decide +kernel
theorem dL_law__496 : decode cL_law_ 496 = .ok (.aload_n 0, 1) := by decide +kernel
theorem dL_law__497 : decode cL_law_ 497 = .ok (.iload 4, 2) := by decide +kernel
theorem dL_law__499 : decode cL_law_ 499 = .ok (.iconst 1, 1) := by decide +kernel
theorem dL_law__500 : decode cL_law_ 500 = .ok (.iadd, 1) := by decide +kernel
theorem dL_law__501 : decode cL_law_ 501 = .ok (.iaload, 1) := by decide +kernel
theorem dL_law__502 : decode cL_law_ 502 = .ok (.aload_n 0, 1) := by decide +kernel
theorem dL_law__503 : decode cL_law_ 503 = .ok (.iload 4, 2) := by decide +kernel
theorem dL_law__505 : decode cL_law_ 505 = .ok (.iconst 2, 1) := by decide +kernel
theorem dL_law__506 : decode cL_law_ 506 = .ok (.iadd, 1) := by decide +kernel
theorem dL_law__507 : decode cL_law_ 507 = .ok (.iaload, 1) := by decide +kernel
theorem dL_law__508 : decode cL_law_ 508 = .ok (.aload_n 3, 1) := by decide +kernel
theorem dL_law__509 : decode cL_law_ 509 = .ok (.invokestatic 155, 3) := by decide +kernel
theorem dL_law__512 : decode cL_law_ 512 = .ok (.istore 5, 2) := by decide +kernel
theorem dL_law__514 : decode cL_law_ 514 = .ok (.aload_n 2, 1) := by decide +kernel
theorem dL_law__515 : decode cL_law_ 515 = .ok (.aload_n 0, 1) := by decide +kernel
theorem dL_law__516 : decode cL_law_ 516 = .ok (.iload 4, 2) := by decide +kernel
theorem dL_law__518 : decode cL_law_ 518 = .ok (.iconst 1, 1) := by decide +kernel
theorem dL_law__519 : decode cL_law_ 519 = .ok (.iadd, 1) := by decide +kernel
theorem dL_law__520 : decode cL_law_ 520 = .ok (.iaload, 1) := by decide +kernel
theorem dL_law__521 : decode cL_law_ 521 = .ok (.aload_n 0, 1) := by decide +kernel
theorem dL_law__522 : decode cL_law_ 522 = .ok (.iload 4, 2) := by decide +kernel
theorem dL_law__524 : decode cL_law_ 524 = .ok (.iconst 2, 1) := by decide +kernel
theorem dL_law__525 : decode cL_law_ 525 = .ok (.iadd, 1) := by decide +kernel
theorem dL_law__526 : decode cL_law_ 526 = .ok (.iaload, 1) := by decide +kernel
theorem dL_law__527 : decode cL_law_ 527 = .ok (.invokevirtual 157, 3) := by decide +kernel
theorem dL_law__530 : decode cL_law_ 530 = .ok (.istore 6, 2) := by decide +kernel
theorem dL_law__532 : decode cL_law_ 532 = .ok (.aload_n 2, 1) := by decide +kernel
theorem dL_law__533 : decode cL_law_ 533 = .ok (.invokevirtual 141, 3) := by decide +kernel
theorem dL_law__536 : decode cL_law_ 536 = .ok (.iload 5, 2) := by decide +kernel
theorem dL_law__538 : decode cL_law_ 538 = .ok (.if_icmp .eq 5, 3) := by decide +kernel
theorem dL_law__541 : decode cL_law_ 541 = .ok (.iconst 0, 1) := by decide +kernel
theorem dL_law__542 : decode cL_law_ 542 = .ok (.ireturn, 1) := by decide +kernel
theorem dL_law__543 : decode cL_law_ 543 = .ok (.iload 5, 2) := by decide +kernel
theorem dL_law__545 : decode cL_law_ 545 = .ok (.ifCond .ne 15, 3) := by decide +kernel
theorem dL_law__548 : decode cL_law_ 548 = .ok (.aload_n 3, 1) := by decide +kernel
theorem dL_law__549 : decode cL_law_ 549 = .ok (.iconst 0, 1) := by decide +kernel
theorem dL_law__550 : decode cL_law_ 550 = .ok (.laload, 1) := by decide +kernel
theorem dL_law__551 : decode cL_law_ 551 = .ok (.iload 6, 2) := by decide +kernel
theorem dL_law__553 : decode cL_law_ 553 = .ok (.i2l, 1) := by decide +kernel
theorem dL_law__554 : decode cL_law_ 554 = .ok (.lcmp, 1) := by decide +kernel
theorem dL_law__555 : decode cL_law_ 555 = .ok (.ifCond .eq 5, 3) := by decide +kernel
theorem dL_law__558 : decode cL_law_ 558 = .ok (.iconst 0, 1) := by decide +kernel
theorem dL_law__559 : decode cL_law_ 559 = .ok (.ireturn, 1) := by decide +kernel
theorem dL_law__560 : decode cL_law_ 560 = .ok (.goto 2039, 3) := by decide +kernel
/-! opcode 6 -/
noncomputable def fL_c6 (xs : Nat → Int32) (L : Nat) (V : VT) (ov : Nat → Int64) (u4 : Int32) : Option ((VT × (Nat → Int64) × Int32) ⊕ Int32) := rd_ (u4 + (1 : Int32)) L (lt_ (xs (u4 + (1 : Int32)).toNatClampNeg) fun z2 => rd_ (u4 + (2 : Int32)) L (lt_ (xs (u4 + (2 : Int32)).toNatClampNeg) fun z4 => ob_I (fX9_deed V z2 z4) fun o5 V10 => ob_R (hL_deed o5 ov) fun qy7 => dt2_ qy7 fun y7 w6 => rd_ (u4 + (1 : Int32)) L (lt_ (xs (u4 + (1 : Int32)).toNatClampNeg) fun z12 => rd_ (u4 + (2 : Int32)) L (lt_ (xs (u4 + (2 : Int32)).toNatClampNeg) fun z14 => ob_I (fX10_deed V10 z12 z14) fun y16 V17 => ob_R (fX10_thrown V17 ) fun y19 => if y19 = y7 then (if y7 = 0 then (if (lg_cmp (w6 ((0 : Int32).toNatClampNeg)) y16.toInt64) = 0 then (lt_ (u4 + (6 : Int32)) fun y21 => some (.inl (V17, w6, y21))) else (some (.inr (0 : Int32)))) else (lt_ (u4 + (6 : Int32)) fun y20 => some (.inl (V17, w6, y20)))) else (some (.inr (0 : Int32)))))))
set_option maxHeartbeats 4000000 in
set_option maxRecDepth 100000 in
theorem wL_c6 {p : Program} {l : Launch} {e : Env} {s : State} {m : MethodId} {args : Array Value} {below : List Frame} {meth : Method} {c : Code} {G : GT} {Z : Nat → Nat × Nat} {oa b L : Nat} {xs : Nat → Int32} {Q : State → Prop} (E : EO p s m args c meth cL_law_ 7 RL (some .boolean) G (SH Z) oa) (ht : l.stackTraces = false) (hX : va_X b L xs s s.heap) (hbl : b < s.heap.size) (hbA : ¬ gO G oa s.heap.size b) (hL : L ≤ 3072) {C0 S0 : Nat} (hC0 : C0 ≤ 100000) (hS0 : S0 ≤ 1000000) {V : VT} {ov : Nat → Int64} {u4 : Int32} {r : ((VT × (Nat → Int64) × Int32) ⊕ Int32)} (h : fL_c6 xs L V ov u4 = some r) (k1 : ∀ y, r = .inr y → y = 1) (kc : ∀ (V2 : VT) (ov2 : Nat → Int64), r = .inl (V2, ov2, u4 + 6) → ∀ (H : Heap) (locs : List Loc) (ls : Array Slot) (cells slots : Nat), HO G oa s.heap (V2) (ov2) H locs → lv_has ls 7 [(0, .ref b), (1, .ref (G.2.2 0)), (2, .ref (G.2.2 22)), (3, .ref oa), (4, .int (u4 + 6))] → cells ≤ C0 + 3 → slots ≤ S0 + 18 → W p l e room_1 s m args below meth c H locs cells slots Q (F0 m 23 ls [])) {H : Heap} {locs : List Loc} {ls : Array Slot} {cells slots : Nat} (hw : HO G oa s.heap V ov H locs) (hl : lv_has ls 7 [(0, .ref b), (1, .ref (G.2.2 0)), (2, .ref (G.2.2 22)), (3, .ref oa), (4, .int u4)]) (hce : cells ≤ C0) (hsl : slots ≤ S0) : W p l e room_1 s m args below meth c H locs cells slots Q (F0 m 495 ls []) := by
  have hx := E.1
  have hb := E.2.1
  have hfc : ∀ K : Nat, K ≤ 3 → cells + K ≤ room_1.cells ∧ slots + 6 * K ≤ room_1.slots := fun K hK => ⟨by show cells + K ≤ 601024; omega, by show slots + 6 * K ≤ 7293034; omega⟩
  have hf0 : ∀ {c9 s9 : Nat}, c9 ≤ C0 + 3 → s9 ≤ S0 + 18 → c9 ≤ room_1.cells ∧ s9 ≤ room_1.slots := fun h1 h2 => ⟨by show _ ≤ 601024; omega, by show _ ≤ 7293034; omega⟩
  unfold fL_c6 at h
  refine lv_aload_n hx hb dL_law__495 rfl (lv_at hl 1 rfl) ?_
  refine lv_aload_n hx hb dL_law__496 rfl (lv_at hl 0 rfl) ?_
  refine lv_iload hx hb dL_law__497 (lv_at hl 4 rfl) ?_
  refine lv_iconst (v := (1 : Int32)) hx hb dL_law__499 (by decide) ?_
  refine lv_iadd hx hb dL_law__500 ?_
  obtain ⟨b1, h⟩ := rd_some h
  obtain ⟨z2, ez2, h⟩ := lt_some h
  refine va_sld hx hb hX hbl hbA hw.2.2 b1 dL_law__501 ?_
  refine lv_eqi ez2 ?_
  refine lv_aload_n hx hb dL_law__502 rfl (lv_at hl 0 rfl) ?_
  refine lv_iload hx hb dL_law__503 (lv_at hl 4 rfl) ?_
  refine lv_iconst (v := (2 : Int32)) hx hb dL_law__505 (by decide) ?_
  refine lv_iadd hx hb dL_law__506 ?_
  obtain ⟨b3, h⟩ := rd_some h
  obtain ⟨z4, ez4, h⟩ := lt_some h
  refine va_sld hx hb hX hbl hbA hw.2.2 b3 dL_law__507 ?_
  refine lv_eqi ez4 ?_
  refine lv_aload_n hx hb dL_law__508 rfl (lv_at hl 3 rfl) ?_
  obtain ⟨o5, V10, h8, h⟩ := ob_I_some h
  obtain ⟨⟨y7, w6⟩, h9, h⟩ := ob_R_some h
  have h := dt2_eq h
  refine o_SH (n := 4) (As := [.ref (G.2.2 0), .int z2, .int z4, .ref oa]) E hw (kL_deed (l := l) (G := G) (Z := Z) (oa := oa) ht h8 h9) yw_L_deed lw_ini lm_RL_155 ⟨by decide, by decide, by decide +kernel⟩ rfl hl.1 (by decide) (hfc 2 (by decide)) (by decide) rfl (Nat.le_of_ble_eq_true rfl) dL_law__509 (fun H locs hw => ?_)
  refine lv_istore (lv' := [(5, .int y7), (0, .ref b), (1, .ref (G.2.2 0)), (2, .ref (G.2.2 22)), (3, .ref oa), (4, .int u4)]) hx hb dL_law__512 hl (by decide) rfl (fun ls hl => ?_)
  refine lv_aload_n hx hb dL_law__514 rfl (lv_at hl 3 rfl) ?_
  refine lv_aload_n hx hb dL_law__515 rfl (lv_at hl 1 rfl) ?_
  refine lv_iload hx hb dL_law__516 (lv_at hl 5 rfl) ?_
  refine lv_iconst (v := (1 : Int32)) hx hb dL_law__518 (by decide) ?_
  refine lv_iadd hx hb dL_law__519 ?_
  obtain ⟨b11, h⟩ := rd_some h
  obtain ⟨z12, ez12, h⟩ := lt_some h
  refine va_sld hx hb hX hbl hbA hw.2.2 b11 dL_law__520 ?_
  refine lv_eqi ez12 ?_
  refine lv_aload_n hx hb dL_law__521 rfl (lv_at hl 1 rfl) ?_
  refine lv_iload hx hb dL_law__522 (lv_at hl 5 rfl) ?_
  refine lv_iconst (v := (2 : Int32)) hx hb dL_law__524 (by decide) ?_
  refine lv_iadd hx hb dL_law__525 ?_
  obtain ⟨b13, h⟩ := rd_some h
  obtain ⟨z14, ez14, h⟩ := lt_some h
  refine va_sld hx hb hX hbl hbA hw.2.2 b13 dL_law__526 ?_
  refine lv_eqi ez14 ?_
  obtain ⟨y16, V17, h15, h⟩ := ob_I_some h
  refine o_VI (As := [.int z12, .int z14]) E hw (kX10_deed (l := l) (G := G) (SG_ok Z) h15) yy_X10_deed lm_RL_157 rfl (by decide) rfl rfl hl.1 (by decide) (hf0 (by omega) (by omega)) (by decide) rfl (Nat.le_of_ble_eq_true rfl) dL_law__527 (fun H locs hw => ?_)
  refine lv_istore (lv' := [(6, .int y16), (5, .int y7), (0, .ref b), (1, .ref (G.2.2 0)), (2, .ref (G.2.2 22)), (3, .ref oa), (4, .int u4)]) hx hb dL_law__530 hl (by decide) rfl (fun ls hl => ?_)
  refine lv_aload_n hx hb dL_law__532 rfl (lv_at hl 4 rfl) ?_
  obtain ⟨y19, h18, h⟩ := ob_R_some h
  refine o_VI (As := []) E hw (kX10_thrown (l := l) (G := G) (SG_ok Z) h18) yy_X10_thrown lm_RL_141 rfl (by decide) rfl rfl hl.1 (by decide) (hf0 (by omega) (by omega)) (by decide) rfl (Nat.le_of_ble_eq_true rfl) dL_law__533 (fun H locs hw => ?_)
  refine lv_iload hx hb dL_law__536 (lv_at hl 1 rfl) ?_
  refine lv_icmp_eq (tgt := 543) hx hb dL_law__538 (by decide) (fun c24 => ?_) (fun c24 => ?_)
  · rw [if_pos c24] at h
    refine lv_iload hx hb dL_law__543 (lv_at hl 1 rfl) ?_
    refine lv_if_ne (tgt := 560) hx hb dL_law__545 (by decide) (fun c23 => ?_) (fun c23 => ?_)
    · rw [if_neg c23] at h
      refine lv_goto (tgt := 2599) hx hb dL_law__560 (by decide) ?_
      obtain ⟨y20, ey20, h⟩ := lt_some h
      refine lv_iinc (v := y20) (lv' := [(4, .int y20), (6, .int y16), (5, .int y7), (0, .ref b), (1, .ref (G.2.2 0)), (2, .ref (G.2.2 22)), (3, .ref oa)]) hx hb dL_law__2599 hl (k := 6) rfl (by rw [ey20]; rfl) (by decide) rfl (fun ls hl => ?_)
      refine lv_goto (tgt := 23) hx hb dL_law__2602 (by decide) ?_
      subst ey20
      exact kc V17 w6 (Option.some.inj h).symm H locs ls _ _ hw (lv_sub hl [3, 4, 5, 6, 0] rfl) (by omega) (by omega)
    · rw [if_pos c23] at h
      refine lv_aload_n hx hb dL_law__548 rfl (lv_at hl 5 rfl) ?_
      refine lv_iconst (v := (0 : Int32)) hx hb dL_law__549 (by decide) ?_
      refine o_ll E hw vp_0_1 dL_law__550 ?_
      refine lv_iload hx hb dL_law__551 (lv_at hl 0 rfl) ?_
      refine lv_i2l hx hb dL_law__553 rfl ?_
      refine W.lcmp hx hb dL_law__554 ?_
      refine lv_if_eq (tgt := 560) hx hb dL_law__555 (by decide) (fun c22 => ?_) (fun c22 => ?_)
      · rw [if_pos c22] at h
        refine lv_goto (tgt := 2599) hx hb dL_law__560 (by decide) ?_
        obtain ⟨y21, ey21, h⟩ := lt_some h
        refine lv_iinc (v := y21) (lv' := [(4, .int y21), (6, .int y16), (5, .int y7), (0, .ref b), (1, .ref (G.2.2 0)), (2, .ref (G.2.2 22)), (3, .ref oa)]) hx hb dL_law__2599 hl (k := 6) rfl (by rw [ey21]; rfl) (by decide) rfl (fun ls hl => ?_)
        refine lv_goto (tgt := 23) hx hb dL_law__2602 (by decide) ?_
        subst ey21
        exact kc V17 w6 (Option.some.inj h).symm H locs ls _ _ hw (lv_sub hl [3, 4, 5, 6, 0] rfl) (by omega) (by omega)
      · rw [if_neg c22] at h
        refine lv_iconst (v := (0 : Int32)) hx hb dL_law__558 (by decide) ?_
        exact absurd (k1 _ (Option.some.inj h).symm) (by decide)
  · rw [if_neg c24] at h
    refine lv_iconst (v := (0 : Int32)) hx hb dL_law__541 (by decide) ?_
    exact absurd (k1 _ (Option.some.inj h).symm) (by decide)
theorem dL_law__563 : decode cL_law_ 563 = .ok (.aload_n 1, 1) := by decide +kernel
theorem dL_law__564 : decode cL_law_ 564 = .ok (.aload_n 0, 1) := by decide +kernel
theorem dL_law__565 : decode cL_law_ 565 = .ok (.iload 4, 2) := by decide +kernel
theorem dL_law__567 : decode cL_law_ 567 = .ok (.iconst 1, 1) := by decide +kernel
theorem dL_law__568 : decode cL_law_ 568 = .ok (.iadd, 1) := by decide +kernel
theorem dL_law__569 : decode cL_law_ 569 = .ok (.iaload, 1) := by decide +kernel
theorem dL_law__570 : decode cL_law_ 570 = .ok (.aload_n 0, 1) := by decide +kernel
theorem dL_law__571 : decode cL_law_ 571 = .ok (.iload 4, 2) := by decide +kernel
theorem dL_law__573 : decode cL_law_ 573 = .ok (.iconst 2, 1) := by decide +kernel
theorem dL_law__574 : decode cL_law_ 574 = .ok (.iadd, 1) := by decide +kernel
theorem dL_law__575 : decode cL_law_ 575 = .ok (.iaload, 1) := by decide +kernel
theorem dL_law__576 : decode cL_law_ 576 = .ok (.aload_n 0, 1) := by decide +kernel
theorem dL_law__577 : decode cL_law_ 577 = .ok (.iload 4, 2) := by decide +kernel
theorem dL_law__579 : decode cL_law_ 579 = .ok (.iconst 3, 1) := by decide +kernel
theorem dL_law__580 : decode cL_law_ 580 = .ok (.iadd, 1) := by decide +kernel
theorem dL_law__581 : decode cL_law_ 581 = .ok (.iaload, 1) := by decide +kernel
theorem dL_law__582 : decode cL_law_ 582 = .ok (.aload_n 3, 1) := by decide +kernel
theorem dL_law__583 : decode cL_law_ 583 = .ok (.invokestatic 158, 3) := by decide +kernel
theorem dL_law__586 : decode cL_law_ 586 = .ok (.istore 5, 2) := by decide +kernel
theorem dL_law__588 : decode cL_law_ 588 = .ok (.aload_n 2, 1) := by decide +kernel
theorem dL_law__589 : decode cL_law_ 589 = .ok (.aload_n 0, 1) := by decide +kernel
theorem dL_law__590 : decode cL_law_ 590 = .ok (.iload 4, 2) := by decide +kernel
theorem dL_law__592 : decode cL_law_ 592 = .ok (.iconst 1, 1) := by decide +kernel
theorem dL_law__593 : decode cL_law_ 593 = .ok (.iadd, 1) := by decide +kernel
theorem dL_law__594 : decode cL_law_ 594 = .ok (.iaload, 1) := by decide +kernel
theorem dL_law__595 : decode cL_law_ 595 = .ok (.aload_n 0, 1) := by decide +kernel
theorem dL_law__596 : decode cL_law_ 596 = .ok (.iload 4, 2) := by decide +kernel
theorem dL_law__598 : decode cL_law_ 598 = .ok (.iconst 2, 1) := by decide +kernel
theorem dL_law__599 : decode cL_law_ 599 = .ok (.iadd, 1) := by decide +kernel
theorem dL_law__600 : decode cL_law_ 600 = .ok (.iaload, 1) := by decide +kernel
theorem dL_law__601 : decode cL_law_ 601 = .ok (.aload_n 0, 1) := by decide +kernel
theorem dL_law__602 : decode cL_law_ 602 = .ok (.iload 4, 2) := by decide +kernel
theorem dL_law__604 : decode cL_law_ 604 = .ok (.iconst 3, 1) := by decide +kernel
theorem dL_law__605 : decode cL_law_ 605 = .ok (.iadd, 1) := by decide +kernel
theorem dL_law__606 : decode cL_law_ 606 = .ok (.iaload, 1) := by decide +kernel
theorem dL_law__607 : decode cL_law_ 607 = .ok (.invokevirtual 161, 3) := by decide +kernel
theorem dL_law__610 : decode cL_law_ 610 = .ok (.istore 6, 2) := by decide +kernel
theorem dL_law__612 : decode cL_law_ 612 = .ok (.aload_n 2, 1) := by decide +kernel
theorem dL_law__613 : decode cL_law_ 613 = .ok (.invokevirtual 141, 3) := by decide +kernel
theorem dL_law__616 : decode cL_law_ 616 = .ok (.iload 5, 2) := by decide +kernel
theorem dL_law__618 : decode cL_law_ 618 = .ok (.if_icmp .eq 5, 3) := by decide +kernel
theorem dL_law__621 : decode cL_law_ 621 = .ok (.iconst 0, 1) := by decide +kernel
theorem dL_law__622 : decode cL_law_ 622 = .ok (.ireturn, 1) := by decide +kernel
theorem dL_law__623 : decode cL_law_ 623 = .ok (.iload 5, 2) := by decide +kernel
theorem dL_law__625 : decode cL_law_ 625 = .ok (.ifCond .ne 22, 3) := by decide +kernel
theorem dL_law__628 : decode cL_law_ 628 = .ok (.aload_n 3, 1) := by decide +kernel
theorem dL_law__629 : decode cL_law_ 629 = .ok (.iconst 0, 1) := by decide +kernel
theorem dL_law__630 : decode cL_law_ 630 = .ok (.laload, 1) := by decide +kernel
theorem dL_law__631 : decode cL_law_ 631 = .ok (.iload 6, 2) := by decide +kernel
theorem dL_law__633 : decode cL_law_ 633 = .ok (.ifCond .eq 7, 3) := by decide +kernel
theorem dL_law__636 : decode cL_law_ 636 = .ok (.lconst 1, 1) := by decide +kernel
theorem dL_law__637 : decode cL_law_ 637 = .ok (.goto 4, 3) := by decide +kernel
theorem dL_law__640 : decode cL_law_ 640 = .ok (.lconst 0, 1) := by decide +kernel
theorem dL_law__641 : decode cL_law_ 641 = .ok (.lcmp, 1) := by decide +kernel
theorem dL_law__642 : decode cL_law_ 642 = .ok (.ifCond .eq 5, 3) := by decide +kernel
theorem dL_law__645 : decode cL_law_ 645 = .ok (.iconst 0, 1) := by decide +kernel
theorem dL_law__646 : decode cL_law_ 646 = .ok (.ireturn, 1) := by decide +kernel
theorem dL_law__647 : decode cL_law_ 647 = .ok (.goto 1952, 3) := by decide +kernel
/-! opcode 7 -/
noncomputable def fL_c7 (xs : Nat → Int32) (L : Nat) (V : VT) (ov : Nat → Int64) (u4 : Int32) : Option ((VT × (Nat → Int64) × Int32) ⊕ Int32) := rd_ (u4 + (1 : Int32)) L (lt_ (xs (u4 + (1 : Int32)).toNatClampNeg) fun z2 => rd_ (u4 + (2 : Int32)) L (lt_ (xs (u4 + (2 : Int32)).toNatClampNeg) fun z4 => rd_ (u4 + (3 : Int32)) L (lt_ (xs (u4 + (3 : Int32)).toNatClampNeg) fun z6 => ob_I (fX9_sees V z2 z4 z6) fun o7 V12 => ob_R (hL_sees o7 ov) fun qy9 => dt2_ qy9 fun y9 w8 => rd_ (u4 + (1 : Int32)) L (lt_ (xs (u4 + (1 : Int32)).toNatClampNeg) fun z14 => rd_ (u4 + (2 : Int32)) L (lt_ (xs (u4 + (2 : Int32)).toNatClampNeg) fun z16 => rd_ (u4 + (3 : Int32)) L (lt_ (xs (u4 + (3 : Int32)).toNatClampNeg) fun z18 => ob_I (fX10_sees V12 z14 z16 z18) fun y20 V21 => ob_R (fX10_thrown V21 ) fun y23 => if y23 = y9 then (if y9 = 0 then (if y20 = 0 then (if (lg_cmp (w8 ((0 : Int32).toNatClampNeg)) (0 : Int64)) = 0 then (lt_ (u4 + (6 : Int32)) fun y25 => some (.inl (V21, w8, y25))) else (some (.inr (0 : Int32)))) else (if (lg_cmp (w8 ((0 : Int32).toNatClampNeg)) (1 : Int64)) = 0 then (lt_ (u4 + (6 : Int32)) fun y27 => some (.inl (V21, w8, y27))) else (some (.inr (0 : Int32))))) else (lt_ (u4 + (6 : Int32)) fun y24 => some (.inl (V21, w8, y24)))) else (some (.inr (0 : Int32)))))))))
set_option maxHeartbeats 4000000 in
set_option maxRecDepth 100000 in
theorem wL_c7 {p : Program} {l : Launch} {e : Env} {s : State} {m : MethodId} {args : Array Value} {below : List Frame} {meth : Method} {c : Code} {G : GT} {Z : Nat → Nat × Nat} {oa b L : Nat} {xs : Nat → Int32} {Q : State → Prop} (E : EO p s m args c meth cL_law_ 7 RL (some .boolean) G (SH Z) oa) (ht : l.stackTraces = false) (hX : va_X b L xs s s.heap) (hbl : b < s.heap.size) (hbA : ¬ gO G oa s.heap.size b) (hL : L ≤ 3072) {C0 S0 : Nat} (hC0 : C0 ≤ 100000) (hS0 : S0 ≤ 1000000) {V : VT} {ov : Nat → Int64} {u4 : Int32} {r : ((VT × (Nat → Int64) × Int32) ⊕ Int32)} (h : fL_c7 xs L V ov u4 = some r) (k1 : ∀ y, r = .inr y → y = 1) (kc : ∀ (V2 : VT) (ov2 : Nat → Int64), r = .inl (V2, ov2, u4 + 6) → ∀ (H : Heap) (locs : List Loc) (ls : Array Slot) (cells slots : Nat), HO G oa s.heap (V2) (ov2) H locs → lv_has ls 7 [(0, .ref b), (1, .ref (G.2.2 0)), (2, .ref (G.2.2 22)), (3, .ref oa), (4, .int (u4 + 6))] → cells ≤ C0 + 3 → slots ≤ S0 + 18 → W p l e room_1 s m args below meth c H locs cells slots Q (F0 m 23 ls [])) {H : Heap} {locs : List Loc} {ls : Array Slot} {cells slots : Nat} (hw : HO G oa s.heap V ov H locs) (hl : lv_has ls 7 [(0, .ref b), (1, .ref (G.2.2 0)), (2, .ref (G.2.2 22)), (3, .ref oa), (4, .int u4)]) (hce : cells ≤ C0) (hsl : slots ≤ S0) : W p l e room_1 s m args below meth c H locs cells slots Q (F0 m 563 ls []) := by
  have hx := E.1
  have hb := E.2.1
  have hfc : ∀ K : Nat, K ≤ 3 → cells + K ≤ room_1.cells ∧ slots + 6 * K ≤ room_1.slots := fun K hK => ⟨by show cells + K ≤ 601024; omega, by show slots + 6 * K ≤ 7293034; omega⟩
  have hf0 : ∀ {c9 s9 : Nat}, c9 ≤ C0 + 3 → s9 ≤ S0 + 18 → c9 ≤ room_1.cells ∧ s9 ≤ room_1.slots := fun h1 h2 => ⟨by show _ ≤ 601024; omega, by show _ ≤ 7293034; omega⟩
  unfold fL_c7 at h
  refine lv_aload_n hx hb dL_law__563 rfl (lv_at hl 1 rfl) ?_
  refine lv_aload_n hx hb dL_law__564 rfl (lv_at hl 0 rfl) ?_
  refine lv_iload hx hb dL_law__565 (lv_at hl 4 rfl) ?_
  refine lv_iconst (v := (1 : Int32)) hx hb dL_law__567 (by decide) ?_
  refine lv_iadd hx hb dL_law__568 ?_
  obtain ⟨b1, h⟩ := rd_some h
  obtain ⟨z2, ez2, h⟩ := lt_some h
  refine va_sld hx hb hX hbl hbA hw.2.2 b1 dL_law__569 ?_
  refine lv_eqi ez2 ?_
  refine lv_aload_n hx hb dL_law__570 rfl (lv_at hl 0 rfl) ?_
  refine lv_iload hx hb dL_law__571 (lv_at hl 4 rfl) ?_
  refine lv_iconst (v := (2 : Int32)) hx hb dL_law__573 (by decide) ?_
  refine lv_iadd hx hb dL_law__574 ?_
  obtain ⟨b3, h⟩ := rd_some h
  obtain ⟨z4, ez4, h⟩ := lt_some h
  refine va_sld hx hb hX hbl hbA hw.2.2 b3 dL_law__575 ?_
  refine lv_eqi ez4 ?_
  refine lv_aload_n hx hb dL_law__576 rfl (lv_at hl 0 rfl) ?_
  refine lv_iload hx hb dL_law__577 (lv_at hl 4 rfl) ?_
  refine lv_iconst (v := (3 : Int32)) hx hb dL_law__579 (by decide) ?_
  refine lv_iadd hx hb dL_law__580 ?_
  obtain ⟨b5, h⟩ := rd_some h
  obtain ⟨z6, ez6, h⟩ := lt_some h
  refine va_sld hx hb hX hbl hbA hw.2.2 b5 dL_law__581 ?_
  refine lv_eqi ez6 ?_
  refine lv_aload_n hx hb dL_law__582 rfl (lv_at hl 3 rfl) ?_
  obtain ⟨o7, V12, h10, h⟩ := ob_I_some h
  obtain ⟨⟨y9, w8⟩, h11, h⟩ := ob_R_some h
  have h := dt2_eq h
  refine o_SH (n := 5) (As := [.ref (G.2.2 0), .int z2, .int z4, .int z6, .ref oa]) E hw (kL_sees (l := l) (G := G) (Z := Z) (oa := oa) ht h10 h11) yw_L_sees lw_ini lm_RL_158 ⟨by decide, by decide, by decide +kernel⟩ rfl hl.1 (by decide) (hfc 3 (by decide)) (by decide) rfl (Nat.le_of_ble_eq_true rfl) dL_law__583 (fun H locs hw => ?_)
  refine lv_istore (lv' := [(5, .int y9), (0, .ref b), (1, .ref (G.2.2 0)), (2, .ref (G.2.2 22)), (3, .ref oa), (4, .int u4)]) hx hb dL_law__586 hl (by decide) rfl (fun ls hl => ?_)
  refine lv_aload_n hx hb dL_law__588 rfl (lv_at hl 3 rfl) ?_
  refine lv_aload_n hx hb dL_law__589 rfl (lv_at hl 1 rfl) ?_
  refine lv_iload hx hb dL_law__590 (lv_at hl 5 rfl) ?_
  refine lv_iconst (v := (1 : Int32)) hx hb dL_law__592 (by decide) ?_
  refine lv_iadd hx hb dL_law__593 ?_
  obtain ⟨b13, h⟩ := rd_some h
  obtain ⟨z14, ez14, h⟩ := lt_some h
  refine va_sld hx hb hX hbl hbA hw.2.2 b13 dL_law__594 ?_
  refine lv_eqi ez14 ?_
  refine lv_aload_n hx hb dL_law__595 rfl (lv_at hl 1 rfl) ?_
  refine lv_iload hx hb dL_law__596 (lv_at hl 5 rfl) ?_
  refine lv_iconst (v := (2 : Int32)) hx hb dL_law__598 (by decide) ?_
  refine lv_iadd hx hb dL_law__599 ?_
  obtain ⟨b15, h⟩ := rd_some h
  obtain ⟨z16, ez16, h⟩ := lt_some h
  refine va_sld hx hb hX hbl hbA hw.2.2 b15 dL_law__600 ?_
  refine lv_eqi ez16 ?_
  refine lv_aload_n hx hb dL_law__601 rfl (lv_at hl 1 rfl) ?_
  refine lv_iload hx hb dL_law__602 (lv_at hl 5 rfl) ?_
  refine lv_iconst (v := (3 : Int32)) hx hb dL_law__604 (by decide) ?_
  refine lv_iadd hx hb dL_law__605 ?_
  obtain ⟨b17, h⟩ := rd_some h
  obtain ⟨z18, ez18, h⟩ := lt_some h
  refine va_sld hx hb hX hbl hbA hw.2.2 b17 dL_law__606 ?_
  refine lv_eqi ez18 ?_
  obtain ⟨y20, V21, h19, h⟩ := ob_I_some h
  refine o_VI (As := [.int z14, .int z16, .int z18]) E hw (kX10_sees (l := l) (G := G) (SG_ok Z) h19) yy_X10_sees lm_RL_161 rfl (by decide) rfl rfl hl.1 (by decide) (hf0 (by omega) (by omega)) (by decide) rfl (Nat.le_of_ble_eq_true rfl) dL_law__607 (fun H locs hw => ?_)
  refine lv_istore (lv' := [(6, .int y20), (5, .int y9), (0, .ref b), (1, .ref (G.2.2 0)), (2, .ref (G.2.2 22)), (3, .ref oa), (4, .int u4)]) hx hb dL_law__610 hl (by decide) rfl (fun ls hl => ?_)
  refine lv_aload_n hx hb dL_law__612 rfl (lv_at hl 4 rfl) ?_
  obtain ⟨y23, h22, h⟩ := ob_R_some h
  refine o_VI (As := []) E hw (kX10_thrown (l := l) (G := G) (SG_ok Z) h22) yy_X10_thrown lm_RL_141 rfl (by decide) rfl rfl hl.1 (by decide) (hf0 (by omega) (by omega)) (by decide) rfl (Nat.le_of_ble_eq_true rfl) dL_law__613 (fun H locs hw => ?_)
  refine lv_iload hx hb dL_law__616 (lv_at hl 1 rfl) ?_
  refine lv_icmp_eq (tgt := 623) hx hb dL_law__618 (by decide) (fun c31 => ?_) (fun c31 => ?_)
  · rw [if_pos c31] at h
    refine lv_iload hx hb dL_law__623 (lv_at hl 1 rfl) ?_
    refine lv_if_ne (tgt := 647) hx hb dL_law__625 (by decide) (fun c30 => ?_) (fun c30 => ?_)
    · rw [if_neg c30] at h
      refine lv_goto (tgt := 2599) hx hb dL_law__647 (by decide) ?_
      obtain ⟨y24, ey24, h⟩ := lt_some h
      refine lv_iinc (v := y24) (lv' := [(4, .int y24), (6, .int y20), (5, .int y9), (0, .ref b), (1, .ref (G.2.2 0)), (2, .ref (G.2.2 22)), (3, .ref oa)]) hx hb dL_law__2599 hl (k := 6) rfl (by rw [ey24]; rfl) (by decide) rfl (fun ls hl => ?_)
      refine lv_goto (tgt := 23) hx hb dL_law__2602 (by decide) ?_
      subst ey24
      exact kc V21 w8 (Option.some.inj h).symm H locs ls _ _ hw (lv_sub hl [3, 4, 5, 6, 0] rfl) (by omega) (by omega)
    · rw [if_pos c30] at h
      refine lv_aload_n hx hb dL_law__628 rfl (lv_at hl 5 rfl) ?_
      refine lv_iconst (v := (0 : Int32)) hx hb dL_law__629 (by decide) ?_
      refine o_ll E hw vp_0_1 dL_law__630 ?_
      refine lv_iload hx hb dL_law__631 (lv_at hl 0 rfl) ?_
      refine lv_if_eq (tgt := 640) hx hb dL_law__633 (by decide) (fun c29 => ?_) (fun c29 => ?_)
      · rw [if_pos c29] at h
        refine lv_lconst (v := (0 : Int64)) hx hb dL_law__640 (by decide) ?_
        refine W.lcmp hx hb dL_law__641 ?_
        refine lv_if_eq (tgt := 647) hx hb dL_law__642 (by decide) (fun c26 => ?_) (fun c26 => ?_)
        · rw [if_pos c26] at h
          refine lv_goto (tgt := 2599) hx hb dL_law__647 (by decide) ?_
          obtain ⟨y25, ey25, h⟩ := lt_some h
          refine lv_iinc (v := y25) (lv' := [(4, .int y25), (6, .int y20), (5, .int y9), (0, .ref b), (1, .ref (G.2.2 0)), (2, .ref (G.2.2 22)), (3, .ref oa)]) hx hb dL_law__2599 hl (k := 6) rfl (by rw [ey25]; rfl) (by decide) rfl (fun ls hl => ?_)
          refine lv_goto (tgt := 23) hx hb dL_law__2602 (by decide) ?_
          subst ey25
          exact kc V21 w8 (Option.some.inj h).symm H locs ls _ _ hw (lv_sub hl [3, 4, 5, 6, 0] rfl) (by omega) (by omega)
        · rw [if_neg c26] at h
          refine lv_iconst (v := (0 : Int32)) hx hb dL_law__645 (by decide) ?_
          exact absurd (k1 _ (Option.some.inj h).symm) (by decide)
      · rw [if_neg c29] at h
        refine lv_lconst (v := (1 : Int64)) hx hb dL_law__636 (by decide) ?_
        refine lv_goto (tgt := 641) hx hb dL_law__637 (by decide) ?_
        refine W.lcmp hx hb dL_law__641 ?_
        refine lv_if_eq (tgt := 647) hx hb dL_law__642 (by decide) (fun c28 => ?_) (fun c28 => ?_)
        · rw [if_pos c28] at h
          refine lv_goto (tgt := 2599) hx hb dL_law__647 (by decide) ?_
          obtain ⟨y27, ey27, h⟩ := lt_some h
          refine lv_iinc (v := y27) (lv' := [(4, .int y27), (6, .int y20), (5, .int y9), (0, .ref b), (1, .ref (G.2.2 0)), (2, .ref (G.2.2 22)), (3, .ref oa)]) hx hb dL_law__2599 hl (k := 6) rfl (by rw [ey27]; rfl) (by decide) rfl (fun ls hl => ?_)
          refine lv_goto (tgt := 23) hx hb dL_law__2602 (by decide) ?_
          subst ey27
          exact kc V21 w8 (Option.some.inj h).symm H locs ls _ _ hw (lv_sub hl [3, 4, 5, 6, 0] rfl) (by omega) (by omega)
        · rw [if_neg c28] at h
          refine lv_iconst (v := (0 : Int32)) hx hb dL_law__645 (by decide) ?_
          exact absurd (k1 _ (Option.some.inj h).symm) (by decide)
  · rw [if_neg c31] at h
    refine lv_iconst (v := (0 : Int32)) hx hb dL_law__621 (by decide) ?_
    exact absurd (k1 _ (Option.some.inj h).symm) (by decide)
theorem dL_law__650 : decode cL_law_ 650 = .ok (.aload_n 1, 1) := by decide +kernel
theorem dL_law__651 : decode cL_law_ 651 = .ok (.aload_n 0, 1) := by decide +kernel
theorem dL_law__652 : decode cL_law_ 652 = .ok (.iload 4, 2) := by decide +kernel
theorem dL_law__654 : decode cL_law_ 654 = .ok (.iconst 1, 1) := by decide +kernel
theorem dL_law__655 : decode cL_law_ 655 = .ok (.iadd, 1) := by decide +kernel
theorem dL_law__656 : decode cL_law_ 656 = .ok (.iaload, 1) := by decide +kernel
theorem dL_law__657 : decode cL_law_ 657 = .ok (.aload_n 3, 1) := by decide +kernel
theorem dL_law__658 : decode cL_law_ 658 = .ok (.invokestatic 162, 3) := by decide +kernel
theorem dL_law__661 : decode cL_law_ 661 = .ok (.istore 5, 2) := by decide +kernel
theorem dL_law__663 : decode cL_law_ 663 = .ok (.aload_n 2, 1) := by decide +kernel
theorem dL_law__664 : decode cL_law_ 664 = .ok (.aload_n 0, 1) := by decide +kernel
theorem dL_law__665 : decode cL_law_ 665 = .ok (.iload 4, 2) := by decide +kernel
theorem dL_law__667 : decode cL_law_ 667 = .ok (.iconst 1, 1) := by decide +kernel
theorem dL_law__668 : decode cL_law_ 668 = .ok (.iadd, 1) := by decide +kernel
theorem dL_law__669 : decode cL_law_ 669 = .ok (.iaload, 1) := by decide +kernel
theorem dL_law__670 : decode cL_law_ 670 = .ok (.invokevirtual 165, 3) := by decide +kernel
theorem dL_law__673 : decode cL_law_ 673 = .ok (.istore 6, 2) := by decide +kernel
theorem dL_law__675 : decode cL_law_ 675 = .ok (.aload_n 2, 1) := by decide +kernel
theorem dL_law__676 : decode cL_law_ 676 = .ok (.invokevirtual 141, 3) := by decide +kernel
theorem dL_law__679 : decode cL_law_ 679 = .ok (.iload 5, 2) := by decide +kernel
theorem dL_law__681 : decode cL_law_ 681 = .ok (.if_icmp .eq 5, 3) := by decide +kernel
theorem dL_law__684 : decode cL_law_ 684 = .ok (.iconst 0, 1) := by decide +kernel
theorem dL_law__685 : decode cL_law_ 685 = .ok (.ireturn, 1) := by decide +kernel
theorem dL_law__686 : decode cL_law_ 686 = .ok (.iload 5, 2) := by decide +kernel
theorem dL_law__688 : decode cL_law_ 688 = .ok (.ifCond .ne 15, 3) := by decide +kernel
theorem dL_law__691 : decode cL_law_ 691 = .ok (.aload_n 3, 1) := by decide +kernel
theorem dL_law__692 : decode cL_law_ 692 = .ok (.iconst 0, 1) := by decide +kernel
theorem dL_law__693 : decode cL_law_ 693 = .ok (.laload, 1) := by decide +kernel
theorem dL_law__694 : decode cL_law_ 694 = .ok (.iload 6, 2) := by decide +kernel
theorem dL_law__696 : decode cL_law_ 696 = .ok (.i2l, 1) := by decide +kernel
theorem dL_law__697 : decode cL_law_ 697 = .ok (.lcmp, 1) := by decide +kernel
theorem dL_law__698 : decode cL_law_ 698 = .ok (.ifCond .eq 5, 3) := by decide +kernel
theorem dL_law__701 : decode cL_law_ 701 = .ok (.iconst 0, 1) := by decide +kernel
theorem dL_law__702 : decode cL_law_ 702 = .ok (.ireturn, 1) := by decide +kernel
theorem dL_law__703 : decode cL_law_ 703 = .ok (.goto 1896, 3) := by decide +kernel
/-! opcode 8 -/
noncomputable def fL_c8 (xs : Nat → Int32) (L : Nat) (V : VT) (ov : Nat → Int64) (u4 : Int32) : Option ((VT × (Nat → Int64) × Int32) ⊕ Int32) := rd_ (u4 + (1 : Int32)) L (lt_ (xs (u4 + (1 : Int32)).toNatClampNeg) fun z2 => ob_I (fX9_done V z2) fun o3 V8 => ob_R (hL_done o3 ov) fun qy5 => dt2_ qy5 fun y5 w4 => rd_ (u4 + (1 : Int32)) L (lt_ (xs (u4 + (1 : Int32)).toNatClampNeg) fun z10 => ob_I (fX10_done V8 z10) fun y12 V13 => ob_R (fX10_thrown V13 ) fun y15 => if y15 = y5 then (if y5 = 0 then (if (lg_cmp (w4 ((0 : Int32).toNatClampNeg)) y12.toInt64) = 0 then (lt_ (u4 + (6 : Int32)) fun y17 => some (.inl (V13, w4, y17))) else (some (.inr (0 : Int32)))) else (lt_ (u4 + (6 : Int32)) fun y16 => some (.inl (V13, w4, y16)))) else (some (.inr (0 : Int32)))))
set_option maxHeartbeats 4000000 in
set_option maxRecDepth 100000 in
theorem wL_c8 {p : Program} {l : Launch} {e : Env} {s : State} {m : MethodId} {args : Array Value} {below : List Frame} {meth : Method} {c : Code} {G : GT} {Z : Nat → Nat × Nat} {oa b L : Nat} {xs : Nat → Int32} {Q : State → Prop} (E : EO p s m args c meth cL_law_ 7 RL (some .boolean) G (SH Z) oa) (ht : l.stackTraces = false) (hX : va_X b L xs s s.heap) (hbl : b < s.heap.size) (hbA : ¬ gO G oa s.heap.size b) (hL : L ≤ 3072) {C0 S0 : Nat} (hC0 : C0 ≤ 100000) (hS0 : S0 ≤ 1000000) {V : VT} {ov : Nat → Int64} {u4 : Int32} {r : ((VT × (Nat → Int64) × Int32) ⊕ Int32)} (h : fL_c8 xs L V ov u4 = some r) (k1 : ∀ y, r = .inr y → y = 1) (kc : ∀ (V2 : VT) (ov2 : Nat → Int64), r = .inl (V2, ov2, u4 + 6) → ∀ (H : Heap) (locs : List Loc) (ls : Array Slot) (cells slots : Nat), HO G oa s.heap (V2) (ov2) H locs → lv_has ls 7 [(0, .ref b), (1, .ref (G.2.2 0)), (2, .ref (G.2.2 22)), (3, .ref oa), (4, .int (u4 + 6))] → cells ≤ C0 + 3 → slots ≤ S0 + 18 → W p l e room_1 s m args below meth c H locs cells slots Q (F0 m 23 ls [])) {H : Heap} {locs : List Loc} {ls : Array Slot} {cells slots : Nat} (hw : HO G oa s.heap V ov H locs) (hl : lv_has ls 7 [(0, .ref b), (1, .ref (G.2.2 0)), (2, .ref (G.2.2 22)), (3, .ref oa), (4, .int u4)]) (hce : cells ≤ C0) (hsl : slots ≤ S0) : W p l e room_1 s m args below meth c H locs cells slots Q (F0 m 650 ls []) := by
  have hx := E.1
  have hb := E.2.1
  have hfc : ∀ K : Nat, K ≤ 3 → cells + K ≤ room_1.cells ∧ slots + 6 * K ≤ room_1.slots := fun K hK => ⟨by show cells + K ≤ 601024; omega, by show slots + 6 * K ≤ 7293034; omega⟩
  have hf0 : ∀ {c9 s9 : Nat}, c9 ≤ C0 + 3 → s9 ≤ S0 + 18 → c9 ≤ room_1.cells ∧ s9 ≤ room_1.slots := fun h1 h2 => ⟨by show _ ≤ 601024; omega, by show _ ≤ 7293034; omega⟩
  unfold fL_c8 at h
  refine lv_aload_n hx hb dL_law__650 rfl (lv_at hl 1 rfl) ?_
  refine lv_aload_n hx hb dL_law__651 rfl (lv_at hl 0 rfl) ?_
  refine lv_iload hx hb dL_law__652 (lv_at hl 4 rfl) ?_
  refine lv_iconst (v := (1 : Int32)) hx hb dL_law__654 (by decide) ?_
  refine lv_iadd hx hb dL_law__655 ?_
  obtain ⟨b1, h⟩ := rd_some h
  obtain ⟨z2, ez2, h⟩ := lt_some h
  refine va_sld hx hb hX hbl hbA hw.2.2 b1 dL_law__656 ?_
  refine lv_eqi ez2 ?_
  refine lv_aload_n hx hb dL_law__657 rfl (lv_at hl 3 rfl) ?_
  obtain ⟨o3, V8, h6, h⟩ := ob_I_some h
  obtain ⟨⟨y5, w4⟩, h7, h⟩ := ob_R_some h
  have h := dt2_eq h
  refine o_SH (n := 3) (As := [.ref (G.2.2 0), .int z2, .ref oa]) E hw (kL_done (l := l) (G := G) (Z := Z) (oa := oa) ht h6 h7) yw_L_done lw_ini lm_RL_162 ⟨by decide, by decide, by decide +kernel⟩ rfl hl.1 (by decide) (hfc 2 (by decide)) (by decide) rfl (Nat.le_of_ble_eq_true rfl) dL_law__658 (fun H locs hw => ?_)
  refine lv_istore (lv' := [(5, .int y5), (0, .ref b), (1, .ref (G.2.2 0)), (2, .ref (G.2.2 22)), (3, .ref oa), (4, .int u4)]) hx hb dL_law__661 hl (by decide) rfl (fun ls hl => ?_)
  refine lv_aload_n hx hb dL_law__663 rfl (lv_at hl 3 rfl) ?_
  refine lv_aload_n hx hb dL_law__664 rfl (lv_at hl 1 rfl) ?_
  refine lv_iload hx hb dL_law__665 (lv_at hl 5 rfl) ?_
  refine lv_iconst (v := (1 : Int32)) hx hb dL_law__667 (by decide) ?_
  refine lv_iadd hx hb dL_law__668 ?_
  obtain ⟨b9, h⟩ := rd_some h
  obtain ⟨z10, ez10, h⟩ := lt_some h
  refine va_sld hx hb hX hbl hbA hw.2.2 b9 dL_law__669 ?_
  refine lv_eqi ez10 ?_
  obtain ⟨y12, V13, h11, h⟩ := ob_I_some h
  refine o_VI (As := [.int z10]) E hw (kX10_done (l := l) (G := G) (SG_ok Z) h11) yy_X10_done lm_RL_165 rfl (by decide) rfl rfl hl.1 (by decide) (hf0 (by omega) (by omega)) (by decide) rfl (Nat.le_of_ble_eq_true rfl) dL_law__670 (fun H locs hw => ?_)
  refine lv_istore (lv' := [(6, .int y12), (5, .int y5), (0, .ref b), (1, .ref (G.2.2 0)), (2, .ref (G.2.2 22)), (3, .ref oa), (4, .int u4)]) hx hb dL_law__673 hl (by decide) rfl (fun ls hl => ?_)
  refine lv_aload_n hx hb dL_law__675 rfl (lv_at hl 4 rfl) ?_
  obtain ⟨y15, h14, h⟩ := ob_R_some h
  refine o_VI (As := []) E hw (kX10_thrown (l := l) (G := G) (SG_ok Z) h14) yy_X10_thrown lm_RL_141 rfl (by decide) rfl rfl hl.1 (by decide) (hf0 (by omega) (by omega)) (by decide) rfl (Nat.le_of_ble_eq_true rfl) dL_law__676 (fun H locs hw => ?_)
  refine lv_iload hx hb dL_law__679 (lv_at hl 1 rfl) ?_
  refine lv_icmp_eq (tgt := 686) hx hb dL_law__681 (by decide) (fun c20 => ?_) (fun c20 => ?_)
  · rw [if_pos c20] at h
    refine lv_iload hx hb dL_law__686 (lv_at hl 1 rfl) ?_
    refine lv_if_ne (tgt := 703) hx hb dL_law__688 (by decide) (fun c19 => ?_) (fun c19 => ?_)
    · rw [if_neg c19] at h
      refine lv_goto (tgt := 2599) hx hb dL_law__703 (by decide) ?_
      obtain ⟨y16, ey16, h⟩ := lt_some h
      refine lv_iinc (v := y16) (lv' := [(4, .int y16), (6, .int y12), (5, .int y5), (0, .ref b), (1, .ref (G.2.2 0)), (2, .ref (G.2.2 22)), (3, .ref oa)]) hx hb dL_law__2599 hl (k := 6) rfl (by rw [ey16]; rfl) (by decide) rfl (fun ls hl => ?_)
      refine lv_goto (tgt := 23) hx hb dL_law__2602 (by decide) ?_
      subst ey16
      exact kc V13 w4 (Option.some.inj h).symm H locs ls _ _ hw (lv_sub hl [3, 4, 5, 6, 0] rfl) (by omega) (by omega)
    · rw [if_pos c19] at h
      refine lv_aload_n hx hb dL_law__691 rfl (lv_at hl 5 rfl) ?_
      refine lv_iconst (v := (0 : Int32)) hx hb dL_law__692 (by decide) ?_
      refine o_ll E hw vp_0_1 dL_law__693 ?_
      refine lv_iload hx hb dL_law__694 (lv_at hl 0 rfl) ?_
      refine lv_i2l hx hb dL_law__696 rfl ?_
      refine W.lcmp hx hb dL_law__697 ?_
      refine lv_if_eq (tgt := 703) hx hb dL_law__698 (by decide) (fun c18 => ?_) (fun c18 => ?_)
      · rw [if_pos c18] at h
        refine lv_goto (tgt := 2599) hx hb dL_law__703 (by decide) ?_
        obtain ⟨y17, ey17, h⟩ := lt_some h
        refine lv_iinc (v := y17) (lv' := [(4, .int y17), (6, .int y12), (5, .int y5), (0, .ref b), (1, .ref (G.2.2 0)), (2, .ref (G.2.2 22)), (3, .ref oa)]) hx hb dL_law__2599 hl (k := 6) rfl (by rw [ey17]; rfl) (by decide) rfl (fun ls hl => ?_)
        refine lv_goto (tgt := 23) hx hb dL_law__2602 (by decide) ?_
        subst ey17
        exact kc V13 w4 (Option.some.inj h).symm H locs ls _ _ hw (lv_sub hl [3, 4, 5, 6, 0] rfl) (by omega) (by omega)
      · rw [if_neg c18] at h
        refine lv_iconst (v := (0 : Int32)) hx hb dL_law__701 (by decide) ?_
        exact absurd (k1 _ (Option.some.inj h).symm) (by decide)
  · rw [if_neg c20] at h
    refine lv_iconst (v := (0 : Int32)) hx hb dL_law__684 (by decide) ?_
    exact absurd (k1 _ (Option.some.inj h).symm) (by decide)
theorem dL_law__706 : decode cL_law_ 706 = .ok (.aload_n 1, 1) := by decide +kernel
theorem dL_law__707 : decode cL_law_ 707 = .ok (.aload_n 0, 1) := by decide +kernel
theorem dL_law__708 : decode cL_law_ 708 = .ok (.iload 4, 2) := by decide +kernel
theorem dL_law__710 : decode cL_law_ 710 = .ok (.iconst 1, 1) := by decide +kernel
theorem dL_law__711 : decode cL_law_ 711 = .ok (.iadd, 1) := by decide +kernel
theorem dL_law__712 : decode cL_law_ 712 = .ok (.iaload, 1) := by decide +kernel
theorem dL_law__713 : decode cL_law_ 713 = .ok (.aload_n 0, 1) := by decide +kernel
theorem dL_law__714 : decode cL_law_ 714 = .ok (.iload 4, 2) := by decide +kernel
theorem dL_law__716 : decode cL_law_ 716 = .ok (.iconst 2, 1) := by decide +kernel
theorem dL_law__717 : decode cL_law_ 717 = .ok (.iadd, 1) := by decide +kernel
theorem dL_law__718 : decode cL_law_ 718 = .ok (.iaload, 1) := by decide +kernel
theorem dL_law__719 : decode cL_law_ 719 = .ok (.aload_n 3, 1) := by decide +kernel
theorem dL_law__720 : decode cL_law_ 720 = .ok (.invokestatic 166, 3) := by decide +kernel
theorem dL_law__723 : decode cL_law_ 723 = .ok (.istore 5, 2) := by decide +kernel
theorem dL_law__725 : decode cL_law_ 725 = .ok (.aload_n 2, 1) := by decide +kernel
theorem dL_law__726 : decode cL_law_ 726 = .ok (.aload_n 0, 1) := by decide +kernel
theorem dL_law__727 : decode cL_law_ 727 = .ok (.iload 4, 2) := by decide +kernel
theorem dL_law__729 : decode cL_law_ 729 = .ok (.iconst 1, 1) := by decide +kernel
theorem dL_law__730 : decode cL_law_ 730 = .ok (.iadd, 1) := by decide +kernel
theorem dL_law__731 : decode cL_law_ 731 = .ok (.iaload, 1) := by decide +kernel
theorem dL_law__732 : decode cL_law_ 732 = .ok (.aload_n 0, 1) := by decide +kernel
theorem dL_law__733 : decode cL_law_ 733 = .ok (.iload 4, 2) := by decide +kernel
theorem dL_law__735 : decode cL_law_ 735 = .ok (.iconst 2, 1) := by decide +kernel
theorem dL_law__736 : decode cL_law_ 736 = .ok (.iadd, 1) := by decide +kernel
theorem dL_law__737 : decode cL_law_ 737 = .ok (.iaload, 1) := by decide +kernel
theorem dL_law__738 : decode cL_law_ 738 = .ok (.invokevirtual 168, 3) := by decide +kernel
theorem dL_law__741 : decode cL_law_ 741 = .ok (.istore 6, 2) := by decide +kernel
theorem dL_law__743 : decode cL_law_ 743 = .ok (.aload_n 2, 1) := by decide +kernel
theorem dL_law__744 : decode cL_law_ 744 = .ok (.invokevirtual 141, 3) := by decide +kernel
theorem dL_law__747 : decode cL_law_ 747 = .ok (.iload 5, 2) := by decide +kernel
theorem dL_law__749 : decode cL_law_ 749 = .ok (.if_icmp .eq 5, 3) := by decide +kernel
theorem dL_law__752 : decode cL_law_ 752 = .ok (.iconst 0, 1) := by decide +kernel
theorem dL_law__753 : decode cL_law_ 753 = .ok (.ireturn, 1) := by decide +kernel
theorem dL_law__754 : decode cL_law_ 754 = .ok (.iload 5, 2) := by decide +kernel
theorem dL_law__756 : decode cL_law_ 756 = .ok (.ifCond .ne 22, 3) := by decide +kernel
theorem dL_law__759 : decode cL_law_ 759 = .ok (.aload_n 3, 1) := by decide +kernel
theorem dL_law__760 : decode cL_law_ 760 = .ok (.iconst 0, 1) := by decide +kernel
theorem dL_law__761 : decode cL_law_ 761 = .ok (.laload, 1) := by decide +kernel
theorem dL_law__762 : decode cL_law_ 762 = .ok (.iload 6, 2) := by decide +kernel
theorem dL_law__764 : decode cL_law_ 764 = .ok (.ifCond .eq 7, 3) := by decide +kernel
theorem dL_law__767 : decode cL_law_ 767 = .ok (.lconst 1, 1) := by decide +kernel
theorem dL_law__768 : decode cL_law_ 768 = .ok (.goto 4, 3) := by decide +kernel
theorem dL_law__771 : decode cL_law_ 771 = .ok (.lconst 0, 1) := by decide +kernel
theorem dL_law__772 : decode cL_law_ 772 = .ok (.lcmp, 1) := by decide +kernel
theorem dL_law__773 : decode cL_law_ 773 = .ok (.ifCond .eq 5, 3) := by decide +kernel
theorem dL_law__776 : decode cL_law_ 776 = .ok (.iconst 0, 1) := by decide +kernel
theorem dL_law__777 : decode cL_law_ 777 = .ok (.ireturn, 1) := by decide +kernel
theorem dL_law__778 : decode cL_law_ 778 = .ok (.goto 1821, 3) := by decide +kernel
/-! opcode 9 -/
noncomputable def fL_c9 (xs : Nat → Int32) (L : Nat) (V : VT) (ov : Nat → Int64) (u4 : Int32) : Option ((VT × (Nat → Int64) × Int32) ⊕ Int32) := rd_ (u4 + (1 : Int32)) L (lt_ (xs (u4 + (1 : Int32)).toNatClampNeg) fun z2 => rd_ (u4 + (2 : Int32)) L (lt_ (xs (u4 + (2 : Int32)).toNatClampNeg) fun z4 => ob_I (fX9_say V z2 z4) fun o5 V10 => ob_R (hL_say o5 ov) fun qy7 => dt2_ qy7 fun y7 w6 => rd_ (u4 + (1 : Int32)) L (lt_ (xs (u4 + (1 : Int32)).toNatClampNeg) fun z12 => rd_ (u4 + (2 : Int32)) L (lt_ (xs (u4 + (2 : Int32)).toNatClampNeg) fun z14 => ob_I (fX10_say V10 z12 z14) fun y16 V17 => ob_R (fX10_thrown V17 ) fun y19 => if y19 = y7 then (if y7 = 0 then (if y16 = 0 then (if (lg_cmp (w6 ((0 : Int32).toNatClampNeg)) (0 : Int64)) = 0 then (lt_ (u4 + (6 : Int32)) fun y21 => some (.inl (V17, w6, y21))) else (some (.inr (0 : Int32)))) else (if (lg_cmp (w6 ((0 : Int32).toNatClampNeg)) (1 : Int64)) = 0 then (lt_ (u4 + (6 : Int32)) fun y23 => some (.inl (V17, w6, y23))) else (some (.inr (0 : Int32))))) else (lt_ (u4 + (6 : Int32)) fun y20 => some (.inl (V17, w6, y20)))) else (some (.inr (0 : Int32)))))))
set_option maxHeartbeats 4000000 in
set_option maxRecDepth 100000 in
theorem wL_c9 {p : Program} {l : Launch} {e : Env} {s : State} {m : MethodId} {args : Array Value} {below : List Frame} {meth : Method} {c : Code} {G : GT} {Z : Nat → Nat × Nat} {oa b L : Nat} {xs : Nat → Int32} {Q : State → Prop} (E : EO p s m args c meth cL_law_ 7 RL (some .boolean) G (SH Z) oa) (ht : l.stackTraces = false) (hX : va_X b L xs s s.heap) (hbl : b < s.heap.size) (hbA : ¬ gO G oa s.heap.size b) (hL : L ≤ 3072) {C0 S0 : Nat} (hC0 : C0 ≤ 100000) (hS0 : S0 ≤ 1000000) {V : VT} {ov : Nat → Int64} {u4 : Int32} {r : ((VT × (Nat → Int64) × Int32) ⊕ Int32)} (h : fL_c9 xs L V ov u4 = some r) (k1 : ∀ y, r = .inr y → y = 1) (kc : ∀ (V2 : VT) (ov2 : Nat → Int64), r = .inl (V2, ov2, u4 + 6) → ∀ (H : Heap) (locs : List Loc) (ls : Array Slot) (cells slots : Nat), HO G oa s.heap (V2) (ov2) H locs → lv_has ls 7 [(0, .ref b), (1, .ref (G.2.2 0)), (2, .ref (G.2.2 22)), (3, .ref oa), (4, .int (u4 + 6))] → cells ≤ C0 + 3 → slots ≤ S0 + 18 → W p l e room_1 s m args below meth c H locs cells slots Q (F0 m 23 ls [])) {H : Heap} {locs : List Loc} {ls : Array Slot} {cells slots : Nat} (hw : HO G oa s.heap V ov H locs) (hl : lv_has ls 7 [(0, .ref b), (1, .ref (G.2.2 0)), (2, .ref (G.2.2 22)), (3, .ref oa), (4, .int u4)]) (hce : cells ≤ C0) (hsl : slots ≤ S0) : W p l e room_1 s m args below meth c H locs cells slots Q (F0 m 706 ls []) := by
  have hx := E.1
  have hb := E.2.1
  have hfc : ∀ K : Nat, K ≤ 3 → cells + K ≤ room_1.cells ∧ slots + 6 * K ≤ room_1.slots := fun K hK => ⟨by show cells + K ≤ 601024; omega, by show slots + 6 * K ≤ 7293034; omega⟩
  have hf0 : ∀ {c9 s9 : Nat}, c9 ≤ C0 + 3 → s9 ≤ S0 + 18 → c9 ≤ room_1.cells ∧ s9 ≤ room_1.slots := fun h1 h2 => ⟨by show _ ≤ 601024; omega, by show _ ≤ 7293034; omega⟩
  unfold fL_c9 at h
  refine lv_aload_n hx hb dL_law__706 rfl (lv_at hl 1 rfl) ?_
  refine lv_aload_n hx hb dL_law__707 rfl (lv_at hl 0 rfl) ?_
  refine lv_iload hx hb dL_law__708 (lv_at hl 4 rfl) ?_
  refine lv_iconst (v := (1 : Int32)) hx hb dL_law__710 (by decide) ?_
  refine lv_iadd hx hb dL_law__711 ?_
  obtain ⟨b1, h⟩ := rd_some h
  obtain ⟨z2, ez2, h⟩ := lt_some h
  refine va_sld hx hb hX hbl hbA hw.2.2 b1 dL_law__712 ?_
  refine lv_eqi ez2 ?_
  refine lv_aload_n hx hb dL_law__713 rfl (lv_at hl 0 rfl) ?_
  refine lv_iload hx hb dL_law__714 (lv_at hl 4 rfl) ?_
  refine lv_iconst (v := (2 : Int32)) hx hb dL_law__716 (by decide) ?_
  refine lv_iadd hx hb dL_law__717 ?_
  obtain ⟨b3, h⟩ := rd_some h
  obtain ⟨z4, ez4, h⟩ := lt_some h
  refine va_sld hx hb hX hbl hbA hw.2.2 b3 dL_law__718 ?_
  refine lv_eqi ez4 ?_
  refine lv_aload_n hx hb dL_law__719 rfl (lv_at hl 3 rfl) ?_
  obtain ⟨o5, V10, h8, h⟩ := ob_I_some h
  obtain ⟨⟨y7, w6⟩, h9, h⟩ := ob_R_some h
  have h := dt2_eq h
  refine o_SH (n := 4) (As := [.ref (G.2.2 0), .int z2, .int z4, .ref oa]) E hw (kL_say (l := l) (G := G) (Z := Z) (oa := oa) ht h8 h9) yw_L_say lw_ini lm_RL_166 ⟨by decide, by decide, by decide +kernel⟩ rfl hl.1 (by decide) (hfc 3 (by decide)) (by decide) rfl (Nat.le_of_ble_eq_true rfl) dL_law__720 (fun H locs hw => ?_)
  refine lv_istore (lv' := [(5, .int y7), (0, .ref b), (1, .ref (G.2.2 0)), (2, .ref (G.2.2 22)), (3, .ref oa), (4, .int u4)]) hx hb dL_law__723 hl (by decide) rfl (fun ls hl => ?_)
  refine lv_aload_n hx hb dL_law__725 rfl (lv_at hl 3 rfl) ?_
  refine lv_aload_n hx hb dL_law__726 rfl (lv_at hl 1 rfl) ?_
  refine lv_iload hx hb dL_law__727 (lv_at hl 5 rfl) ?_
  refine lv_iconst (v := (1 : Int32)) hx hb dL_law__729 (by decide) ?_
  refine lv_iadd hx hb dL_law__730 ?_
  obtain ⟨b11, h⟩ := rd_some h
  obtain ⟨z12, ez12, h⟩ := lt_some h
  refine va_sld hx hb hX hbl hbA hw.2.2 b11 dL_law__731 ?_
  refine lv_eqi ez12 ?_
  refine lv_aload_n hx hb dL_law__732 rfl (lv_at hl 1 rfl) ?_
  refine lv_iload hx hb dL_law__733 (lv_at hl 5 rfl) ?_
  refine lv_iconst (v := (2 : Int32)) hx hb dL_law__735 (by decide) ?_
  refine lv_iadd hx hb dL_law__736 ?_
  obtain ⟨b13, h⟩ := rd_some h
  obtain ⟨z14, ez14, h⟩ := lt_some h
  refine va_sld hx hb hX hbl hbA hw.2.2 b13 dL_law__737 ?_
  refine lv_eqi ez14 ?_
  obtain ⟨y16, V17, h15, h⟩ := ob_I_some h
  refine o_VI (As := [.int z12, .int z14]) E hw (kX10_say (l := l) (G := G) (SG_ok Z) h15) yy_X10_say lm_RL_168 rfl (by decide) rfl rfl hl.1 (by decide) (hf0 (by omega) (by omega)) (by decide) rfl (Nat.le_of_ble_eq_true rfl) dL_law__738 (fun H locs hw => ?_)
  refine lv_istore (lv' := [(6, .int y16), (5, .int y7), (0, .ref b), (1, .ref (G.2.2 0)), (2, .ref (G.2.2 22)), (3, .ref oa), (4, .int u4)]) hx hb dL_law__741 hl (by decide) rfl (fun ls hl => ?_)
  refine lv_aload_n hx hb dL_law__743 rfl (lv_at hl 4 rfl) ?_
  obtain ⟨y19, h18, h⟩ := ob_R_some h
  refine o_VI (As := []) E hw (kX10_thrown (l := l) (G := G) (SG_ok Z) h18) yy_X10_thrown lm_RL_141 rfl (by decide) rfl rfl hl.1 (by decide) (hf0 (by omega) (by omega)) (by decide) rfl (Nat.le_of_ble_eq_true rfl) dL_law__744 (fun H locs hw => ?_)
  refine lv_iload hx hb dL_law__747 (lv_at hl 1 rfl) ?_
  refine lv_icmp_eq (tgt := 754) hx hb dL_law__749 (by decide) (fun c27 => ?_) (fun c27 => ?_)
  · rw [if_pos c27] at h
    refine lv_iload hx hb dL_law__754 (lv_at hl 1 rfl) ?_
    refine lv_if_ne (tgt := 778) hx hb dL_law__756 (by decide) (fun c26 => ?_) (fun c26 => ?_)
    · rw [if_neg c26] at h
      refine lv_goto (tgt := 2599) hx hb dL_law__778 (by decide) ?_
      obtain ⟨y20, ey20, h⟩ := lt_some h
      refine lv_iinc (v := y20) (lv' := [(4, .int y20), (6, .int y16), (5, .int y7), (0, .ref b), (1, .ref (G.2.2 0)), (2, .ref (G.2.2 22)), (3, .ref oa)]) hx hb dL_law__2599 hl (k := 6) rfl (by rw [ey20]; rfl) (by decide) rfl (fun ls hl => ?_)
      refine lv_goto (tgt := 23) hx hb dL_law__2602 (by decide) ?_
      subst ey20
      exact kc V17 w6 (Option.some.inj h).symm H locs ls _ _ hw (lv_sub hl [3, 4, 5, 6, 0] rfl) (by omega) (by omega)
    · rw [if_pos c26] at h
      refine lv_aload_n hx hb dL_law__759 rfl (lv_at hl 5 rfl) ?_
      refine lv_iconst (v := (0 : Int32)) hx hb dL_law__760 (by decide) ?_
      refine o_ll E hw vp_0_1 dL_law__761 ?_
      refine lv_iload hx hb dL_law__762 (lv_at hl 0 rfl) ?_
      refine lv_if_eq (tgt := 771) hx hb dL_law__764 (by decide) (fun c25 => ?_) (fun c25 => ?_)
      · rw [if_pos c25] at h
        refine lv_lconst (v := (0 : Int64)) hx hb dL_law__771 (by decide) ?_
        refine W.lcmp hx hb dL_law__772 ?_
        refine lv_if_eq (tgt := 778) hx hb dL_law__773 (by decide) (fun c22 => ?_) (fun c22 => ?_)
        · rw [if_pos c22] at h
          refine lv_goto (tgt := 2599) hx hb dL_law__778 (by decide) ?_
          obtain ⟨y21, ey21, h⟩ := lt_some h
          refine lv_iinc (v := y21) (lv' := [(4, .int y21), (6, .int y16), (5, .int y7), (0, .ref b), (1, .ref (G.2.2 0)), (2, .ref (G.2.2 22)), (3, .ref oa)]) hx hb dL_law__2599 hl (k := 6) rfl (by rw [ey21]; rfl) (by decide) rfl (fun ls hl => ?_)
          refine lv_goto (tgt := 23) hx hb dL_law__2602 (by decide) ?_
          subst ey21
          exact kc V17 w6 (Option.some.inj h).symm H locs ls _ _ hw (lv_sub hl [3, 4, 5, 6, 0] rfl) (by omega) (by omega)
        · rw [if_neg c22] at h
          refine lv_iconst (v := (0 : Int32)) hx hb dL_law__776 (by decide) ?_
          exact absurd (k1 _ (Option.some.inj h).symm) (by decide)
      · rw [if_neg c25] at h
        refine lv_lconst (v := (1 : Int64)) hx hb dL_law__767 (by decide) ?_
        refine lv_goto (tgt := 772) hx hb dL_law__768 (by decide) ?_
        refine W.lcmp hx hb dL_law__772 ?_
        refine lv_if_eq (tgt := 778) hx hb dL_law__773 (by decide) (fun c24 => ?_) (fun c24 => ?_)
        · rw [if_pos c24] at h
          refine lv_goto (tgt := 2599) hx hb dL_law__778 (by decide) ?_
          obtain ⟨y23, ey23, h⟩ := lt_some h
          refine lv_iinc (v := y23) (lv' := [(4, .int y23), (6, .int y16), (5, .int y7), (0, .ref b), (1, .ref (G.2.2 0)), (2, .ref (G.2.2 22)), (3, .ref oa)]) hx hb dL_law__2599 hl (k := 6) rfl (by rw [ey23]; rfl) (by decide) rfl (fun ls hl => ?_)
          refine lv_goto (tgt := 23) hx hb dL_law__2602 (by decide) ?_
          subst ey23
          exact kc V17 w6 (Option.some.inj h).symm H locs ls _ _ hw (lv_sub hl [3, 4, 5, 6, 0] rfl) (by omega) (by omega)
        · rw [if_neg c24] at h
          refine lv_iconst (v := (0 : Int32)) hx hb dL_law__776 (by decide) ?_
          exact absurd (k1 _ (Option.some.inj h).symm) (by decide)
  · rw [if_neg c27] at h
    refine lv_iconst (v := (0 : Int32)) hx hb dL_law__752 (by decide) ?_
    exact absurd (k1 _ (Option.some.inj h).symm) (by decide)
theorem dL_law__781 : decode cL_law_ 781 = .ok (.aload_n 1, 1) := by decide +kernel
theorem dL_law__782 : decode cL_law_ 782 = .ok (.aload_n 0, 1) := by decide +kernel
theorem dL_law__783 : decode cL_law_ 783 = .ok (.iload 4, 2) := by decide +kernel
theorem dL_law__785 : decode cL_law_ 785 = .ok (.iconst 1, 1) := by decide +kernel
theorem dL_law__786 : decode cL_law_ 786 = .ok (.iadd, 1) := by decide +kernel
theorem dL_law__787 : decode cL_law_ 787 = .ok (.iaload, 1) := by decide +kernel
theorem dL_law__788 : decode cL_law_ 788 = .ok (.aload_n 0, 1) := by decide +kernel
theorem dL_law__789 : decode cL_law_ 789 = .ok (.iload 4, 2) := by decide +kernel
theorem dL_law__791 : decode cL_law_ 791 = .ok (.iconst 2, 1) := by decide +kernel
theorem dL_law__792 : decode cL_law_ 792 = .ok (.iadd, 1) := by decide +kernel
theorem dL_law__793 : decode cL_law_ 793 = .ok (.iaload, 1) := by decide +kernel
theorem dL_law__794 : decode cL_law_ 794 = .ok (.ifCond .eq 7, 3) := by decide +kernel
theorem dL_law__797 : decode cL_law_ 797 = .ok (.iconst 1, 1) := by decide +kernel
theorem dL_law__798 : decode cL_law_ 798 = .ok (.goto 4, 3) := by decide +kernel
theorem dL_law__801 : decode cL_law_ 801 = .ok (.iconst 0, 1) := by decide +kernel
theorem dL_law__802 : decode cL_law_ 802 = .ok (.aload_n 3, 1) := by decide +kernel
theorem dL_law__803 : decode cL_law_ 803 = .ok (.invokestatic 169, 3) := by decide +kernel
theorem dL_law__806 : decode cL_law_ 806 = .ok (.istore 5, 2) := by decide +kernel
theorem dL_law__808 : decode cL_law_ 808 = .ok (.aload_n 2, 1) := by decide +kernel
theorem dL_law__809 : decode cL_law_ 809 = .ok (.aload_n 0, 1) := by decide +kernel
theorem dL_law__810 : decode cL_law_ 810 = .ok (.iload 4, 2) := by decide +kernel
theorem dL_law__812 : decode cL_law_ 812 = .ok (.iconst 1, 1) := by decide +kernel
theorem dL_law__813 : decode cL_law_ 813 = .ok (.iadd, 1) := by decide +kernel
theorem dL_law__814 : decode cL_law_ 814 = .ok (.iaload, 1) := by decide +kernel
theorem dL_law__815 : decode cL_law_ 815 = .ok (.aload_n 0, 1) := by decide +kernel
theorem dL_law__816 : decode cL_law_ 816 = .ok (.iload 4, 2) := by decide +kernel
theorem dL_law__818 : decode cL_law_ 818 = .ok (.iconst 2, 1) := by decide +kernel
theorem dL_law__819 : decode cL_law_ 819 = .ok (.iadd, 1) := by decide +kernel
theorem dL_law__820 : decode cL_law_ 820 = .ok (.iaload, 1) := by decide +kernel
theorem dL_law__821 : decode cL_law_ 821 = .ok (.ifCond .eq 7, 3) := by decide +kernel
theorem dL_law__824 : decode cL_law_ 824 = .ok (.iconst 1, 1) := by decide +kernel
theorem dL_law__825 : decode cL_law_ 825 = .ok (.goto 4, 3) := by decide +kernel
theorem dL_law__828 : decode cL_law_ 828 = .ok (.iconst 0, 1) := by decide +kernel
theorem dL_law__829 : decode cL_law_ 829 = .ok (.invokevirtual 172, 3) := by decide +kernel
theorem dL_law__832 : decode cL_law_ 832 = .ok (.istore 6, 2) := by decide +kernel
theorem dL_law__834 : decode cL_law_ 834 = .ok (.aload_n 2, 1) := by decide +kernel
theorem dL_law__835 : decode cL_law_ 835 = .ok (.invokevirtual 141, 3) := by decide +kernel
theorem dL_law__838 : decode cL_law_ 838 = .ok (.iload 5, 2) := by decide +kernel
theorem dL_law__840 : decode cL_law_ 840 = .ok (.if_icmp .eq 5, 3) := by decide +kernel
theorem dL_law__843 : decode cL_law_ 843 = .ok (.iconst 0, 1) := by decide +kernel
theorem dL_law__844 : decode cL_law_ 844 = .ok (.ireturn, 1) := by decide +kernel
theorem dL_law__845 : decode cL_law_ 845 = .ok (.iload 5, 2) := by decide +kernel
theorem dL_law__847 : decode cL_law_ 847 = .ok (.ifCond .ne 22, 3) := by decide +kernel
theorem dL_law__850 : decode cL_law_ 850 = .ok (.aload_n 3, 1) := by decide +kernel
theorem dL_law__851 : decode cL_law_ 851 = .ok (.iconst 0, 1) := by decide +kernel
theorem dL_law__852 : decode cL_law_ 852 = .ok (.laload, 1) := by decide +kernel
theorem dL_law__853 : decode cL_law_ 853 = .ok (.iload 6, 2) := by decide +kernel
theorem dL_law__855 : decode cL_law_ 855 = .ok (.ifCond .eq 7, 3) := by decide +kernel
theorem dL_law__858 : decode cL_law_ 858 = .ok (.lconst 1, 1) := by decide +kernel
theorem dL_law__859 : decode cL_law_ 859 = .ok (.goto 4, 3) := by decide +kernel
theorem dL_law__862 : decode cL_law_ 862 = .ok (.lconst 0, 1) := by decide +kernel
theorem dL_law__863 : decode cL_law_ 863 = .ok (.lcmp, 1) := by decide +kernel
theorem dL_law__864 : decode cL_law_ 864 = .ok (.ifCond .eq 5, 3) := by decide +kernel
theorem dL_law__867 : decode cL_law_ 867 = .ok (.iconst 0, 1) := by decide +kernel
theorem dL_law__868 : decode cL_law_ 868 = .ok (.ireturn, 1) := by decide +kernel
theorem dL_law__869 : decode cL_law_ 869 = .ok (.goto 1730, 3) := by decide +kernel
/-! opcode 10 -/
noncomputable def fL_c10 (xs : Nat → Int32) (L : Nat) (V : VT) (ov : Nat → Int64) (u4 : Int32) : Option ((VT × (Nat → Int64) × Int32) ⊕ Int32) := rd_ (u4 + (1 : Int32)) L (lt_ (xs (u4 + (1 : Int32)).toNatClampNeg) fun z2 => rd_ (u4 + (2 : Int32)) L (lt_ (xs (u4 + (2 : Int32)).toNatClampNeg) fun z4 => if z4 = 0 then (ob_I (fX9_away V z2 (0 : Int32)) fun o5 V10 => ob_R (hL_away o5 ov) fun qy7 => dt2_ qy7 fun y7 w6 => rd_ (u4 + (1 : Int32)) L (lt_ (xs (u4 + (1 : Int32)).toNatClampNeg) fun z12 => rd_ (u4 + (2 : Int32)) L (lt_ (xs (u4 + (2 : Int32)).toNatClampNeg) fun z14 => if z14 = 0 then (ob_I (fX10_away V10 z12 (0 : Int32)) fun y16 V17 => ob_R (fX10_thrown V17 ) fun y19 => if y19 = y7 then (if y7 = 0 then (if y16 = 0 then (if (lg_cmp (w6 ((0 : Int32).toNatClampNeg)) (0 : Int64)) = 0 then (lt_ (u4 + (6 : Int32)) fun y21 => some (.inl (V17, w6, y21))) else (some (.inr (0 : Int32)))) else (if (lg_cmp (w6 ((0 : Int32).toNatClampNeg)) (1 : Int64)) = 0 then (lt_ (u4 + (6 : Int32)) fun y23 => some (.inl (V17, w6, y23))) else (some (.inr (0 : Int32))))) else (lt_ (u4 + (6 : Int32)) fun y20 => some (.inl (V17, w6, y20)))) else (some (.inr (0 : Int32)))) else (ob_I (fX10_away V10 z12 (1 : Int32)) fun y29 V30 => ob_R (fX10_thrown V30 ) fun y32 => if y32 = y7 then (if y7 = 0 then (if y29 = 0 then (if (lg_cmp (w6 ((0 : Int32).toNatClampNeg)) (0 : Int64)) = 0 then (lt_ (u4 + (6 : Int32)) fun y34 => some (.inl (V30, w6, y34))) else (some (.inr (0 : Int32)))) else (if (lg_cmp (w6 ((0 : Int32).toNatClampNeg)) (1 : Int64)) = 0 then (lt_ (u4 + (6 : Int32)) fun y36 => some (.inl (V30, w6, y36))) else (some (.inr (0 : Int32))))) else (lt_ (u4 + (6 : Int32)) fun y33 => some (.inl (V30, w6, y33)))) else (some (.inr (0 : Int32))))))) else (ob_I (fX9_away V z2 (1 : Int32)) fun o42 V47 => ob_R (hL_away o42 ov) fun qy44 => dt2_ qy44 fun y44 w43 => rd_ (u4 + (1 : Int32)) L (lt_ (xs (u4 + (1 : Int32)).toNatClampNeg) fun z49 => rd_ (u4 + (2 : Int32)) L (lt_ (xs (u4 + (2 : Int32)).toNatClampNeg) fun z51 => if z51 = 0 then (ob_I (fX10_away V47 z49 (0 : Int32)) fun y53 V54 => ob_R (fX10_thrown V54 ) fun y56 => if y56 = y44 then (if y44 = 0 then (if y53 = 0 then (if (lg_cmp (w43 ((0 : Int32).toNatClampNeg)) (0 : Int64)) = 0 then (lt_ (u4 + (6 : Int32)) fun y58 => some (.inl (V54, w43, y58))) else (some (.inr (0 : Int32)))) else (if (lg_cmp (w43 ((0 : Int32).toNatClampNeg)) (1 : Int64)) = 0 then (lt_ (u4 + (6 : Int32)) fun y60 => some (.inl (V54, w43, y60))) else (some (.inr (0 : Int32))))) else (lt_ (u4 + (6 : Int32)) fun y57 => some (.inl (V54, w43, y57)))) else (some (.inr (0 : Int32)))) else (ob_I (fX10_away V47 z49 (1 : Int32)) fun y66 V67 => ob_R (fX10_thrown V67 ) fun y69 => if y69 = y44 then (if y44 = 0 then (if y66 = 0 then (if (lg_cmp (w43 ((0 : Int32).toNatClampNeg)) (0 : Int64)) = 0 then (lt_ (u4 + (6 : Int32)) fun y71 => some (.inl (V67, w43, y71))) else (some (.inr (0 : Int32)))) else (if (lg_cmp (w43 ((0 : Int32).toNatClampNeg)) (1 : Int64)) = 0 then (lt_ (u4 + (6 : Int32)) fun y73 => some (.inl (V67, w43, y73))) else (some (.inr (0 : Int32))))) else (lt_ (u4 + (6 : Int32)) fun y70 => some (.inl (V67, w43, y70)))) else (some (.inr (0 : Int32)))))))))
set_option maxHeartbeats 4000000 in
set_option maxRecDepth 100000 in
theorem wL_c10 {p : Program} {l : Launch} {e : Env} {s : State} {m : MethodId} {args : Array Value} {below : List Frame} {meth : Method} {c : Code} {G : GT} {Z : Nat → Nat × Nat} {oa b L : Nat} {xs : Nat → Int32} {Q : State → Prop} (E : EO p s m args c meth cL_law_ 7 RL (some .boolean) G (SH Z) oa) (ht : l.stackTraces = false) (hX : va_X b L xs s s.heap) (hbl : b < s.heap.size) (hbA : ¬ gO G oa s.heap.size b) (hL : L ≤ 3072) {C0 S0 : Nat} (hC0 : C0 ≤ 100000) (hS0 : S0 ≤ 1000000) {V : VT} {ov : Nat → Int64} {u4 : Int32} {r : ((VT × (Nat → Int64) × Int32) ⊕ Int32)} (h : fL_c10 xs L V ov u4 = some r) (k1 : ∀ y, r = .inr y → y = 1) (kc : ∀ (V2 : VT) (ov2 : Nat → Int64), r = .inl (V2, ov2, u4 + 6) → ∀ (H : Heap) (locs : List Loc) (ls : Array Slot) (cells slots : Nat), HO G oa s.heap (V2) (ov2) H locs → lv_has ls 7 [(0, .ref b), (1, .ref (G.2.2 0)), (2, .ref (G.2.2 22)), (3, .ref oa), (4, .int (u4 + 6))] → cells ≤ C0 + 3 → slots ≤ S0 + 18 → W p l e room_1 s m args below meth c H locs cells slots Q (F0 m 23 ls [])) {H : Heap} {locs : List Loc} {ls : Array Slot} {cells slots : Nat} (hw : HO G oa s.heap V ov H locs) (hl : lv_has ls 7 [(0, .ref b), (1, .ref (G.2.2 0)), (2, .ref (G.2.2 22)), (3, .ref oa), (4, .int u4)]) (hce : cells ≤ C0) (hsl : slots ≤ S0) : W p l e room_1 s m args below meth c H locs cells slots Q (F0 m 781 ls []) := by
  have hx := E.1
  have hb := E.2.1
  have hfc : ∀ K : Nat, K ≤ 3 → cells + K ≤ room_1.cells ∧ slots + 6 * K ≤ room_1.slots := fun K hK => ⟨by show cells + K ≤ 601024; omega, by show slots + 6 * K ≤ 7293034; omega⟩
  have hf0 : ∀ {c9 s9 : Nat}, c9 ≤ C0 + 3 → s9 ≤ S0 + 18 → c9 ≤ room_1.cells ∧ s9 ≤ room_1.slots := fun h1 h2 => ⟨by show _ ≤ 601024; omega, by show _ ≤ 7293034; omega⟩
  unfold fL_c10 at h
  refine lv_aload_n hx hb dL_law__781 rfl (lv_at hl 1 rfl) ?_
  refine lv_aload_n hx hb dL_law__782 rfl (lv_at hl 0 rfl) ?_
  refine lv_iload hx hb dL_law__783 (lv_at hl 4 rfl) ?_
  refine lv_iconst (v := (1 : Int32)) hx hb dL_law__785 (by decide) ?_
  refine lv_iadd hx hb dL_law__786 ?_
  obtain ⟨b1, h⟩ := rd_some h
  obtain ⟨z2, ez2, h⟩ := lt_some h
  refine va_sld hx hb hX hbl hbA hw.2.2 b1 dL_law__787 ?_
  refine lv_eqi ez2 ?_
  refine lv_aload_n hx hb dL_law__788 rfl (lv_at hl 0 rfl) ?_
  refine lv_iload hx hb dL_law__789 (lv_at hl 4 rfl) ?_
  refine lv_iconst (v := (2 : Int32)) hx hb dL_law__791 (by decide) ?_
  refine lv_iadd hx hb dL_law__792 ?_
  obtain ⟨b3, h⟩ := rd_some h
  obtain ⟨z4, ez4, h⟩ := lt_some h
  refine va_sld hx hb hX hbl hbA hw.2.2 b3 dL_law__793 ?_
  refine lv_eqi ez4 ?_
  refine lv_if_eq (tgt := 801) hx hb dL_law__794 (by decide) (fun c79 => ?_) (fun c79 => ?_)
  · rw [if_pos c79] at h
    refine lv_iconst (v := (0 : Int32)) hx hb dL_law__801 (by decide) ?_
    refine lv_aload_n hx hb dL_law__802 rfl (lv_at hl 3 rfl) ?_
    obtain ⟨o5, V10, h8, h⟩ := ob_I_some h
    obtain ⟨⟨y7, w6⟩, h9, h⟩ := ob_R_some h
    have h := dt2_eq h
    refine o_SH (n := 4) (As := [.ref (G.2.2 0), .int z2, .int (0 : Int32), .ref oa]) E hw (kL_away (l := l) (G := G) (Z := Z) (oa := oa) ht h8 h9) yw_L_away lw_ini lm_RL_169 ⟨by decide, by decide, by decide +kernel⟩ rfl hl.1 (by decide) (hfc 1 (by decide)) (by decide) rfl (Nat.le_of_ble_eq_true rfl) dL_law__803 (fun H locs hw => ?_)
    refine lv_istore (lv' := [(5, .int y7), (0, .ref b), (1, .ref (G.2.2 0)), (2, .ref (G.2.2 22)), (3, .ref oa), (4, .int u4)]) hx hb dL_law__806 hl (by decide) rfl (fun ls hl => ?_)
    refine lv_aload_n hx hb dL_law__808 rfl (lv_at hl 3 rfl) ?_
    refine lv_aload_n hx hb dL_law__809 rfl (lv_at hl 1 rfl) ?_
    refine lv_iload hx hb dL_law__810 (lv_at hl 5 rfl) ?_
    refine lv_iconst (v := (1 : Int32)) hx hb dL_law__812 (by decide) ?_
    refine lv_iadd hx hb dL_law__813 ?_
    obtain ⟨b11, h⟩ := rd_some h
    obtain ⟨z12, ez12, h⟩ := lt_some h
    refine va_sld hx hb hX hbl hbA hw.2.2 b11 dL_law__814 ?_
    refine lv_eqi ez12 ?_
    refine lv_aload_n hx hb dL_law__815 rfl (lv_at hl 1 rfl) ?_
    refine lv_iload hx hb dL_law__816 (lv_at hl 5 rfl) ?_
    refine lv_iconst (v := (2 : Int32)) hx hb dL_law__818 (by decide) ?_
    refine lv_iadd hx hb dL_law__819 ?_
    obtain ⟨b13, h⟩ := rd_some h
    obtain ⟨z14, ez14, h⟩ := lt_some h
    refine va_sld hx hb hX hbl hbA hw.2.2 b13 dL_law__820 ?_
    refine lv_eqi ez14 ?_
    refine lv_if_eq (tgt := 828) hx hb dL_law__821 (by decide) (fun c41 => ?_) (fun c41 => ?_)
    · rw [if_pos c41] at h
      refine lv_iconst (v := (0 : Int32)) hx hb dL_law__828 (by decide) ?_
      obtain ⟨y16, V17, h15, h⟩ := ob_I_some h
      refine o_VI (As := [.int z12, .int (0 : Int32)]) E hw (kX10_away (l := l) (G := G) (SG_ok Z) h15) yy_X10_away lm_RL_172 rfl (by decide) rfl rfl hl.1 (by decide) (hf0 (by omega) (by omega)) (by decide) rfl (Nat.le_of_ble_eq_true rfl) dL_law__829 (fun H locs hw => ?_)
      refine lv_istore (lv' := [(6, .int y16), (5, .int y7), (0, .ref b), (1, .ref (G.2.2 0)), (2, .ref (G.2.2 22)), (3, .ref oa), (4, .int u4)]) hx hb dL_law__832 hl (by decide) rfl (fun ls hl => ?_)
      refine lv_aload_n hx hb dL_law__834 rfl (lv_at hl 4 rfl) ?_
      obtain ⟨y19, h18, h⟩ := ob_R_some h
      refine o_VI (As := []) E hw (kX10_thrown (l := l) (G := G) (SG_ok Z) h18) yy_X10_thrown lm_RL_141 rfl (by decide) rfl rfl hl.1 (by decide) (hf0 (by omega) (by omega)) (by decide) rfl (Nat.le_of_ble_eq_true rfl) dL_law__835 (fun H locs hw => ?_)
      refine lv_iload hx hb dL_law__838 (lv_at hl 1 rfl) ?_
      refine lv_icmp_eq (tgt := 845) hx hb dL_law__840 (by decide) (fun c27 => ?_) (fun c27 => ?_)
      · rw [if_pos c27] at h
        refine lv_iload hx hb dL_law__845 (lv_at hl 1 rfl) ?_
        refine lv_if_ne (tgt := 869) hx hb dL_law__847 (by decide) (fun c26 => ?_) (fun c26 => ?_)
        · rw [if_neg c26] at h
          refine lv_goto (tgt := 2599) hx hb dL_law__869 (by decide) ?_
          obtain ⟨y20, ey20, h⟩ := lt_some h
          refine lv_iinc (v := y20) (lv' := [(4, .int y20), (6, .int y16), (5, .int y7), (0, .ref b), (1, .ref (G.2.2 0)), (2, .ref (G.2.2 22)), (3, .ref oa)]) hx hb dL_law__2599 hl (k := 6) rfl (by rw [ey20]; rfl) (by decide) rfl (fun ls hl => ?_)
          refine lv_goto (tgt := 23) hx hb dL_law__2602 (by decide) ?_
          subst ey20
          exact kc V17 w6 (Option.some.inj h).symm H locs ls _ _ hw (lv_sub hl [3, 4, 5, 6, 0] rfl) (by omega) (by omega)
        · rw [if_pos c26] at h
          refine lv_aload_n hx hb dL_law__850 rfl (lv_at hl 5 rfl) ?_
          refine lv_iconst (v := (0 : Int32)) hx hb dL_law__851 (by decide) ?_
          refine o_ll E hw vp_0_1 dL_law__852 ?_
          refine lv_iload hx hb dL_law__853 (lv_at hl 0 rfl) ?_
          refine lv_if_eq (tgt := 862) hx hb dL_law__855 (by decide) (fun c25 => ?_) (fun c25 => ?_)
          · rw [if_pos c25] at h
            refine lv_lconst (v := (0 : Int64)) hx hb dL_law__862 (by decide) ?_
            refine W.lcmp hx hb dL_law__863 ?_
            refine lv_if_eq (tgt := 869) hx hb dL_law__864 (by decide) (fun c22 => ?_) (fun c22 => ?_)
            · rw [if_pos c22] at h
              refine lv_goto (tgt := 2599) hx hb dL_law__869 (by decide) ?_
              obtain ⟨y21, ey21, h⟩ := lt_some h
              refine lv_iinc (v := y21) (lv' := [(4, .int y21), (6, .int y16), (5, .int y7), (0, .ref b), (1, .ref (G.2.2 0)), (2, .ref (G.2.2 22)), (3, .ref oa)]) hx hb dL_law__2599 hl (k := 6) rfl (by rw [ey21]; rfl) (by decide) rfl (fun ls hl => ?_)
              refine lv_goto (tgt := 23) hx hb dL_law__2602 (by decide) ?_
              subst ey21
              exact kc V17 w6 (Option.some.inj h).symm H locs ls _ _ hw (lv_sub hl [3, 4, 5, 6, 0] rfl) (by omega) (by omega)
            · rw [if_neg c22] at h
              refine lv_iconst (v := (0 : Int32)) hx hb dL_law__867 (by decide) ?_
              exact absurd (k1 _ (Option.some.inj h).symm) (by decide)
          · rw [if_neg c25] at h
            refine lv_lconst (v := (1 : Int64)) hx hb dL_law__858 (by decide) ?_
            refine lv_goto (tgt := 863) hx hb dL_law__859 (by decide) ?_
            refine W.lcmp hx hb dL_law__863 ?_
            refine lv_if_eq (tgt := 869) hx hb dL_law__864 (by decide) (fun c24 => ?_) (fun c24 => ?_)
            · rw [if_pos c24] at h
              refine lv_goto (tgt := 2599) hx hb dL_law__869 (by decide) ?_
              obtain ⟨y23, ey23, h⟩ := lt_some h
              refine lv_iinc (v := y23) (lv' := [(4, .int y23), (6, .int y16), (5, .int y7), (0, .ref b), (1, .ref (G.2.2 0)), (2, .ref (G.2.2 22)), (3, .ref oa)]) hx hb dL_law__2599 hl (k := 6) rfl (by rw [ey23]; rfl) (by decide) rfl (fun ls hl => ?_)
              refine lv_goto (tgt := 23) hx hb dL_law__2602 (by decide) ?_
              subst ey23
              exact kc V17 w6 (Option.some.inj h).symm H locs ls _ _ hw (lv_sub hl [3, 4, 5, 6, 0] rfl) (by omega) (by omega)
            · rw [if_neg c24] at h
              refine lv_iconst (v := (0 : Int32)) hx hb dL_law__867 (by decide) ?_
              exact absurd (k1 _ (Option.some.inj h).symm) (by decide)
      · rw [if_neg c27] at h
        refine lv_iconst (v := (0 : Int32)) hx hb dL_law__843 (by decide) ?_
        exact absurd (k1 _ (Option.some.inj h).symm) (by decide)
    · rw [if_neg c41] at h
      refine lv_iconst (v := (1 : Int32)) hx hb dL_law__824 (by decide) ?_
      refine lv_goto (tgt := 829) hx hb dL_law__825 (by decide) ?_
      obtain ⟨y29, V30, h28, h⟩ := ob_I_some h
      refine o_VI (As := [.int z12, .int (1 : Int32)]) E hw (kX10_away (l := l) (G := G) (SG_ok Z) h28) yy_X10_away lm_RL_172 rfl (by decide) rfl rfl hl.1 (by decide) (hf0 (by omega) (by omega)) (by decide) rfl (Nat.le_of_ble_eq_true rfl) dL_law__829 (fun H locs hw => ?_)
      refine lv_istore (lv' := [(6, .int y29), (5, .int y7), (0, .ref b), (1, .ref (G.2.2 0)), (2, .ref (G.2.2 22)), (3, .ref oa), (4, .int u4)]) hx hb dL_law__832 hl (by decide) rfl (fun ls hl => ?_)
      refine lv_aload_n hx hb dL_law__834 rfl (lv_at hl 4 rfl) ?_
      obtain ⟨y32, h31, h⟩ := ob_R_some h
      refine o_VI (As := []) E hw (kX10_thrown (l := l) (G := G) (SG_ok Z) h31) yy_X10_thrown lm_RL_141 rfl (by decide) rfl rfl hl.1 (by decide) (hf0 (by omega) (by omega)) (by decide) rfl (Nat.le_of_ble_eq_true rfl) dL_law__835 (fun H locs hw => ?_)
      refine lv_iload hx hb dL_law__838 (lv_at hl 1 rfl) ?_
      refine lv_icmp_eq (tgt := 845) hx hb dL_law__840 (by decide) (fun c40 => ?_) (fun c40 => ?_)
      · rw [if_pos c40] at h
        refine lv_iload hx hb dL_law__845 (lv_at hl 1 rfl) ?_
        refine lv_if_ne (tgt := 869) hx hb dL_law__847 (by decide) (fun c39 => ?_) (fun c39 => ?_)
        · rw [if_neg c39] at h
          refine lv_goto (tgt := 2599) hx hb dL_law__869 (by decide) ?_
          obtain ⟨y33, ey33, h⟩ := lt_some h
          refine lv_iinc (v := y33) (lv' := [(4, .int y33), (6, .int y29), (5, .int y7), (0, .ref b), (1, .ref (G.2.2 0)), (2, .ref (G.2.2 22)), (3, .ref oa)]) hx hb dL_law__2599 hl (k := 6) rfl (by rw [ey33]; rfl) (by decide) rfl (fun ls hl => ?_)
          refine lv_goto (tgt := 23) hx hb dL_law__2602 (by decide) ?_
          subst ey33
          exact kc V30 w6 (Option.some.inj h).symm H locs ls _ _ hw (lv_sub hl [3, 4, 5, 6, 0] rfl) (by omega) (by omega)
        · rw [if_pos c39] at h
          refine lv_aload_n hx hb dL_law__850 rfl (lv_at hl 5 rfl) ?_
          refine lv_iconst (v := (0 : Int32)) hx hb dL_law__851 (by decide) ?_
          refine o_ll E hw vp_0_1 dL_law__852 ?_
          refine lv_iload hx hb dL_law__853 (lv_at hl 0 rfl) ?_
          refine lv_if_eq (tgt := 862) hx hb dL_law__855 (by decide) (fun c38 => ?_) (fun c38 => ?_)
          · rw [if_pos c38] at h
            refine lv_lconst (v := (0 : Int64)) hx hb dL_law__862 (by decide) ?_
            refine W.lcmp hx hb dL_law__863 ?_
            refine lv_if_eq (tgt := 869) hx hb dL_law__864 (by decide) (fun c35 => ?_) (fun c35 => ?_)
            · rw [if_pos c35] at h
              refine lv_goto (tgt := 2599) hx hb dL_law__869 (by decide) ?_
              obtain ⟨y34, ey34, h⟩ := lt_some h
              refine lv_iinc (v := y34) (lv' := [(4, .int y34), (6, .int y29), (5, .int y7), (0, .ref b), (1, .ref (G.2.2 0)), (2, .ref (G.2.2 22)), (3, .ref oa)]) hx hb dL_law__2599 hl (k := 6) rfl (by rw [ey34]; rfl) (by decide) rfl (fun ls hl => ?_)
              refine lv_goto (tgt := 23) hx hb dL_law__2602 (by decide) ?_
              subst ey34
              exact kc V30 w6 (Option.some.inj h).symm H locs ls _ _ hw (lv_sub hl [3, 4, 5, 6, 0] rfl) (by omega) (by omega)
            · rw [if_neg c35] at h
              refine lv_iconst (v := (0 : Int32)) hx hb dL_law__867 (by decide) ?_
              exact absurd (k1 _ (Option.some.inj h).symm) (by decide)
          · rw [if_neg c38] at h
            refine lv_lconst (v := (1 : Int64)) hx hb dL_law__858 (by decide) ?_
            refine lv_goto (tgt := 863) hx hb dL_law__859 (by decide) ?_
            refine W.lcmp hx hb dL_law__863 ?_
            refine lv_if_eq (tgt := 869) hx hb dL_law__864 (by decide) (fun c37 => ?_) (fun c37 => ?_)
            · rw [if_pos c37] at h
              refine lv_goto (tgt := 2599) hx hb dL_law__869 (by decide) ?_
              obtain ⟨y36, ey36, h⟩ := lt_some h
              refine lv_iinc (v := y36) (lv' := [(4, .int y36), (6, .int y29), (5, .int y7), (0, .ref b), (1, .ref (G.2.2 0)), (2, .ref (G.2.2 22)), (3, .ref oa)]) hx hb dL_law__2599 hl (k := 6) rfl (by rw [ey36]; rfl) (by decide) rfl (fun ls hl => ?_)
              refine lv_goto (tgt := 23) hx hb dL_law__2602 (by decide) ?_
              subst ey36
              exact kc V30 w6 (Option.some.inj h).symm H locs ls _ _ hw (lv_sub hl [3, 4, 5, 6, 0] rfl) (by omega) (by omega)
            · rw [if_neg c37] at h
              refine lv_iconst (v := (0 : Int32)) hx hb dL_law__867 (by decide) ?_
              exact absurd (k1 _ (Option.some.inj h).symm) (by decide)
      · rw [if_neg c40] at h
        refine lv_iconst (v := (0 : Int32)) hx hb dL_law__843 (by decide) ?_
        exact absurd (k1 _ (Option.some.inj h).symm) (by decide)
  · rw [if_neg c79] at h
    refine lv_iconst (v := (1 : Int32)) hx hb dL_law__797 (by decide) ?_
    refine lv_goto (tgt := 802) hx hb dL_law__798 (by decide) ?_
    refine lv_aload_n hx hb dL_law__802 rfl (lv_at hl 3 rfl) ?_
    obtain ⟨o42, V47, h45, h⟩ := ob_I_some h
    obtain ⟨⟨y44, w43⟩, h46, h⟩ := ob_R_some h
    have h := dt2_eq h
    refine o_SH (n := 4) (As := [.ref (G.2.2 0), .int z2, .int (1 : Int32), .ref oa]) E hw (kL_away (l := l) (G := G) (Z := Z) (oa := oa) ht h45 h46) yw_L_away lw_ini lm_RL_169 ⟨by decide, by decide, by decide +kernel⟩ rfl hl.1 (by decide) (hfc 1 (by decide)) (by decide) rfl (Nat.le_of_ble_eq_true rfl) dL_law__803 (fun H locs hw => ?_)
    refine lv_istore (lv' := [(5, .int y44), (0, .ref b), (1, .ref (G.2.2 0)), (2, .ref (G.2.2 22)), (3, .ref oa), (4, .int u4)]) hx hb dL_law__806 hl (by decide) rfl (fun ls hl => ?_)
    refine lv_aload_n hx hb dL_law__808 rfl (lv_at hl 3 rfl) ?_
    refine lv_aload_n hx hb dL_law__809 rfl (lv_at hl 1 rfl) ?_
    refine lv_iload hx hb dL_law__810 (lv_at hl 5 rfl) ?_
    refine lv_iconst (v := (1 : Int32)) hx hb dL_law__812 (by decide) ?_
    refine lv_iadd hx hb dL_law__813 ?_
    obtain ⟨b48, h⟩ := rd_some h
    obtain ⟨z49, ez49, h⟩ := lt_some h
    refine va_sld hx hb hX hbl hbA hw.2.2 b48 dL_law__814 ?_
    refine lv_eqi ez49 ?_
    refine lv_aload_n hx hb dL_law__815 rfl (lv_at hl 1 rfl) ?_
    refine lv_iload hx hb dL_law__816 (lv_at hl 5 rfl) ?_
    refine lv_iconst (v := (2 : Int32)) hx hb dL_law__818 (by decide) ?_
    refine lv_iadd hx hb dL_law__819 ?_
    obtain ⟨b50, h⟩ := rd_some h
    obtain ⟨z51, ez51, h⟩ := lt_some h
    refine va_sld hx hb hX hbl hbA hw.2.2 b50 dL_law__820 ?_
    refine lv_eqi ez51 ?_
    refine lv_if_eq (tgt := 828) hx hb dL_law__821 (by decide) (fun c78 => ?_) (fun c78 => ?_)
    · rw [if_pos c78] at h
      refine lv_iconst (v := (0 : Int32)) hx hb dL_law__828 (by decide) ?_
      obtain ⟨y53, V54, h52, h⟩ := ob_I_some h
      refine o_VI (As := [.int z49, .int (0 : Int32)]) E hw (kX10_away (l := l) (G := G) (SG_ok Z) h52) yy_X10_away lm_RL_172 rfl (by decide) rfl rfl hl.1 (by decide) (hf0 (by omega) (by omega)) (by decide) rfl (Nat.le_of_ble_eq_true rfl) dL_law__829 (fun H locs hw => ?_)
      refine lv_istore (lv' := [(6, .int y53), (5, .int y44), (0, .ref b), (1, .ref (G.2.2 0)), (2, .ref (G.2.2 22)), (3, .ref oa), (4, .int u4)]) hx hb dL_law__832 hl (by decide) rfl (fun ls hl => ?_)
      refine lv_aload_n hx hb dL_law__834 rfl (lv_at hl 4 rfl) ?_
      obtain ⟨y56, h55, h⟩ := ob_R_some h
      refine o_VI (As := []) E hw (kX10_thrown (l := l) (G := G) (SG_ok Z) h55) yy_X10_thrown lm_RL_141 rfl (by decide) rfl rfl hl.1 (by decide) (hf0 (by omega) (by omega)) (by decide) rfl (Nat.le_of_ble_eq_true rfl) dL_law__835 (fun H locs hw => ?_)
      refine lv_iload hx hb dL_law__838 (lv_at hl 1 rfl) ?_
      refine lv_icmp_eq (tgt := 845) hx hb dL_law__840 (by decide) (fun c64 => ?_) (fun c64 => ?_)
      · rw [if_pos c64] at h
        refine lv_iload hx hb dL_law__845 (lv_at hl 1 rfl) ?_
        refine lv_if_ne (tgt := 869) hx hb dL_law__847 (by decide) (fun c63 => ?_) (fun c63 => ?_)
        · rw [if_neg c63] at h
          refine lv_goto (tgt := 2599) hx hb dL_law__869 (by decide) ?_
          obtain ⟨y57, ey57, h⟩ := lt_some h
          refine lv_iinc (v := y57) (lv' := [(4, .int y57), (6, .int y53), (5, .int y44), (0, .ref b), (1, .ref (G.2.2 0)), (2, .ref (G.2.2 22)), (3, .ref oa)]) hx hb dL_law__2599 hl (k := 6) rfl (by rw [ey57]; rfl) (by decide) rfl (fun ls hl => ?_)
          refine lv_goto (tgt := 23) hx hb dL_law__2602 (by decide) ?_
          subst ey57
          exact kc V54 w43 (Option.some.inj h).symm H locs ls _ _ hw (lv_sub hl [3, 4, 5, 6, 0] rfl) (by omega) (by omega)
        · rw [if_pos c63] at h
          refine lv_aload_n hx hb dL_law__850 rfl (lv_at hl 5 rfl) ?_
          refine lv_iconst (v := (0 : Int32)) hx hb dL_law__851 (by decide) ?_
          refine o_ll E hw vp_0_1 dL_law__852 ?_
          refine lv_iload hx hb dL_law__853 (lv_at hl 0 rfl) ?_
          refine lv_if_eq (tgt := 862) hx hb dL_law__855 (by decide) (fun c62 => ?_) (fun c62 => ?_)
          · rw [if_pos c62] at h
            refine lv_lconst (v := (0 : Int64)) hx hb dL_law__862 (by decide) ?_
            refine W.lcmp hx hb dL_law__863 ?_
            refine lv_if_eq (tgt := 869) hx hb dL_law__864 (by decide) (fun c59 => ?_) (fun c59 => ?_)
            · rw [if_pos c59] at h
              refine lv_goto (tgt := 2599) hx hb dL_law__869 (by decide) ?_
              obtain ⟨y58, ey58, h⟩ := lt_some h
              refine lv_iinc (v := y58) (lv' := [(4, .int y58), (6, .int y53), (5, .int y44), (0, .ref b), (1, .ref (G.2.2 0)), (2, .ref (G.2.2 22)), (3, .ref oa)]) hx hb dL_law__2599 hl (k := 6) rfl (by rw [ey58]; rfl) (by decide) rfl (fun ls hl => ?_)
              refine lv_goto (tgt := 23) hx hb dL_law__2602 (by decide) ?_
              subst ey58
              exact kc V54 w43 (Option.some.inj h).symm H locs ls _ _ hw (lv_sub hl [3, 4, 5, 6, 0] rfl) (by omega) (by omega)
            · rw [if_neg c59] at h
              refine lv_iconst (v := (0 : Int32)) hx hb dL_law__867 (by decide) ?_
              exact absurd (k1 _ (Option.some.inj h).symm) (by decide)
          · rw [if_neg c62] at h
            refine lv_lconst (v := (1 : Int64)) hx hb dL_law__858 (by decide) ?_
            refine lv_goto (tgt := 863) hx hb dL_law__859 (by decide) ?_
            refine W.lcmp hx hb dL_law__863 ?_
            refine lv_if_eq (tgt := 869) hx hb dL_law__864 (by decide) (fun c61 => ?_) (fun c61 => ?_)
            · rw [if_pos c61] at h
              refine lv_goto (tgt := 2599) hx hb dL_law__869 (by decide) ?_
              obtain ⟨y60, ey60, h⟩ := lt_some h
              refine lv_iinc (v := y60) (lv' := [(4, .int y60), (6, .int y53), (5, .int y44), (0, .ref b), (1, .ref (G.2.2 0)), (2, .ref (G.2.2 22)), (3, .ref oa)]) hx hb dL_law__2599 hl (k := 6) rfl (by rw [ey60]; rfl) (by decide) rfl (fun ls hl => ?_)
              refine lv_goto (tgt := 23) hx hb dL_law__2602 (by decide) ?_
              subst ey60
              exact kc V54 w43 (Option.some.inj h).symm H locs ls _ _ hw (lv_sub hl [3, 4, 5, 6, 0] rfl) (by omega) (by omega)
            · rw [if_neg c61] at h
              refine lv_iconst (v := (0 : Int32)) hx hb dL_law__867 (by decide) ?_
              exact absurd (k1 _ (Option.some.inj h).symm) (by decide)
      · rw [if_neg c64] at h
        refine lv_iconst (v := (0 : Int32)) hx hb dL_law__843 (by decide) ?_
        exact absurd (k1 _ (Option.some.inj h).symm) (by decide)
    · rw [if_neg c78] at h
      refine lv_iconst (v := (1 : Int32)) hx hb dL_law__824 (by decide) ?_
      refine lv_goto (tgt := 829) hx hb dL_law__825 (by decide) ?_
      obtain ⟨y66, V67, h65, h⟩ := ob_I_some h
      refine o_VI (As := [.int z49, .int (1 : Int32)]) E hw (kX10_away (l := l) (G := G) (SG_ok Z) h65) yy_X10_away lm_RL_172 rfl (by decide) rfl rfl hl.1 (by decide) (hf0 (by omega) (by omega)) (by decide) rfl (Nat.le_of_ble_eq_true rfl) dL_law__829 (fun H locs hw => ?_)
      refine lv_istore (lv' := [(6, .int y66), (5, .int y44), (0, .ref b), (1, .ref (G.2.2 0)), (2, .ref (G.2.2 22)), (3, .ref oa), (4, .int u4)]) hx hb dL_law__832 hl (by decide) rfl (fun ls hl => ?_)
      refine lv_aload_n hx hb dL_law__834 rfl (lv_at hl 4 rfl) ?_
      obtain ⟨y69, h68, h⟩ := ob_R_some h
      refine o_VI (As := []) E hw (kX10_thrown (l := l) (G := G) (SG_ok Z) h68) yy_X10_thrown lm_RL_141 rfl (by decide) rfl rfl hl.1 (by decide) (hf0 (by omega) (by omega)) (by decide) rfl (Nat.le_of_ble_eq_true rfl) dL_law__835 (fun H locs hw => ?_)
      refine lv_iload hx hb dL_law__838 (lv_at hl 1 rfl) ?_
      refine lv_icmp_eq (tgt := 845) hx hb dL_law__840 (by decide) (fun c77 => ?_) (fun c77 => ?_)
      · rw [if_pos c77] at h
        refine lv_iload hx hb dL_law__845 (lv_at hl 1 rfl) ?_
        refine lv_if_ne (tgt := 869) hx hb dL_law__847 (by decide) (fun c76 => ?_) (fun c76 => ?_)
        · rw [if_neg c76] at h
          refine lv_goto (tgt := 2599) hx hb dL_law__869 (by decide) ?_
          obtain ⟨y70, ey70, h⟩ := lt_some h
          refine lv_iinc (v := y70) (lv' := [(4, .int y70), (6, .int y66), (5, .int y44), (0, .ref b), (1, .ref (G.2.2 0)), (2, .ref (G.2.2 22)), (3, .ref oa)]) hx hb dL_law__2599 hl (k := 6) rfl (by rw [ey70]; rfl) (by decide) rfl (fun ls hl => ?_)
          refine lv_goto (tgt := 23) hx hb dL_law__2602 (by decide) ?_
          subst ey70
          exact kc V67 w43 (Option.some.inj h).symm H locs ls _ _ hw (lv_sub hl [3, 4, 5, 6, 0] rfl) (by omega) (by omega)
        · rw [if_pos c76] at h
          refine lv_aload_n hx hb dL_law__850 rfl (lv_at hl 5 rfl) ?_
          refine lv_iconst (v := (0 : Int32)) hx hb dL_law__851 (by decide) ?_
          refine o_ll E hw vp_0_1 dL_law__852 ?_
          refine lv_iload hx hb dL_law__853 (lv_at hl 0 rfl) ?_
          refine lv_if_eq (tgt := 862) hx hb dL_law__855 (by decide) (fun c75 => ?_) (fun c75 => ?_)
          · rw [if_pos c75] at h
            refine lv_lconst (v := (0 : Int64)) hx hb dL_law__862 (by decide) ?_
            refine W.lcmp hx hb dL_law__863 ?_
            refine lv_if_eq (tgt := 869) hx hb dL_law__864 (by decide) (fun c72 => ?_) (fun c72 => ?_)
            · rw [if_pos c72] at h
              refine lv_goto (tgt := 2599) hx hb dL_law__869 (by decide) ?_
              obtain ⟨y71, ey71, h⟩ := lt_some h
              refine lv_iinc (v := y71) (lv' := [(4, .int y71), (6, .int y66), (5, .int y44), (0, .ref b), (1, .ref (G.2.2 0)), (2, .ref (G.2.2 22)), (3, .ref oa)]) hx hb dL_law__2599 hl (k := 6) rfl (by rw [ey71]; rfl) (by decide) rfl (fun ls hl => ?_)
              refine lv_goto (tgt := 23) hx hb dL_law__2602 (by decide) ?_
              subst ey71
              exact kc V67 w43 (Option.some.inj h).symm H locs ls _ _ hw (lv_sub hl [3, 4, 5, 6, 0] rfl) (by omega) (by omega)
            · rw [if_neg c72] at h
              refine lv_iconst (v := (0 : Int32)) hx hb dL_law__867 (by decide) ?_
              exact absurd (k1 _ (Option.some.inj h).symm) (by decide)
          · rw [if_neg c75] at h
            refine lv_lconst (v := (1 : Int64)) hx hb dL_law__858 (by decide) ?_
            refine lv_goto (tgt := 863) hx hb dL_law__859 (by decide) ?_
            refine W.lcmp hx hb dL_law__863 ?_
            refine lv_if_eq (tgt := 869) hx hb dL_law__864 (by decide) (fun c74 => ?_) (fun c74 => ?_)
            · rw [if_pos c74] at h
              refine lv_goto (tgt := 2599) hx hb dL_law__869 (by decide) ?_
              obtain ⟨y73, ey73, h⟩ := lt_some h
              refine lv_iinc (v := y73) (lv' := [(4, .int y73), (6, .int y66), (5, .int y44), (0, .ref b), (1, .ref (G.2.2 0)), (2, .ref (G.2.2 22)), (3, .ref oa)]) hx hb dL_law__2599 hl (k := 6) rfl (by rw [ey73]; rfl) (by decide) rfl (fun ls hl => ?_)
              refine lv_goto (tgt := 23) hx hb dL_law__2602 (by decide) ?_
              subst ey73
              exact kc V67 w43 (Option.some.inj h).symm H locs ls _ _ hw (lv_sub hl [3, 4, 5, 6, 0] rfl) (by omega) (by omega)
            · rw [if_neg c74] at h
              refine lv_iconst (v := (0 : Int32)) hx hb dL_law__867 (by decide) ?_
              exact absurd (k1 _ (Option.some.inj h).symm) (by decide)
      · rw [if_neg c77] at h
        refine lv_iconst (v := (0 : Int32)) hx hb dL_law__843 (by decide) ?_
        exact absurd (k1 _ (Option.some.inj h).symm) (by decide)
theorem dL_law__872 : decode cL_law_ 872 = .ok (.aload_n 1, 1) := by decide +kernel
theorem dL_law__873 : decode cL_law_ 873 = .ok (.aload_n 0, 1) := by decide +kernel
theorem dL_law__874 : decode cL_law_ 874 = .ok (.iload 4, 2) := by decide +kernel
theorem dL_law__876 : decode cL_law_ 876 = .ok (.iconst 1, 1) := by decide +kernel
theorem dL_law__877 : decode cL_law_ 877 = .ok (.iadd, 1) := by decide +kernel
theorem dL_law__878 : decode cL_law_ 878 = .ok (.iaload, 1) := by decide +kernel
theorem dL_law__879 : decode cL_law_ 879 = .ok (.aload_n 3, 1) := by decide +kernel
theorem dL_law__880 : decode cL_law_ 880 = .ok (.invokestatic 173, 3) := by decide +kernel
theorem dL_law__883 : decode cL_law_ 883 = .ok (.istore 5, 2) := by decide +kernel
theorem dL_law__885 : decode cL_law_ 885 = .ok (.aload_n 2, 1) := by decide +kernel
theorem dL_law__886 : decode cL_law_ 886 = .ok (.aload_n 0, 1) := by decide +kernel
theorem dL_law__887 : decode cL_law_ 887 = .ok (.iload 4, 2) := by decide +kernel
theorem dL_law__889 : decode cL_law_ 889 = .ok (.iconst 1, 1) := by decide +kernel
theorem dL_law__890 : decode cL_law_ 890 = .ok (.iadd, 1) := by decide +kernel
theorem dL_law__891 : decode cL_law_ 891 = .ok (.iaload, 1) := by decide +kernel
theorem dL_law__892 : decode cL_law_ 892 = .ok (.invokevirtual 175, 3) := by decide +kernel
theorem dL_law__895 : decode cL_law_ 895 = .ok (.istore 6, 2) := by decide +kernel
theorem dL_law__897 : decode cL_law_ 897 = .ok (.aload_n 2, 1) := by decide +kernel
theorem dL_law__898 : decode cL_law_ 898 = .ok (.invokevirtual 141, 3) := by decide +kernel
theorem dL_law__901 : decode cL_law_ 901 = .ok (.iload 5, 2) := by decide +kernel
theorem dL_law__903 : decode cL_law_ 903 = .ok (.if_icmp .eq 5, 3) := by decide +kernel
theorem dL_law__906 : decode cL_law_ 906 = .ok (.iconst 0, 1) := by decide +kernel
theorem dL_law__907 : decode cL_law_ 907 = .ok (.ireturn, 1) := by decide +kernel
theorem dL_law__908 : decode cL_law_ 908 = .ok (.iload 5, 2) := by decide +kernel
theorem dL_law__910 : decode cL_law_ 910 = .ok (.ifCond .ne 15, 3) := by decide +kernel
theorem dL_law__913 : decode cL_law_ 913 = .ok (.aload_n 3, 1) := by decide +kernel
theorem dL_law__914 : decode cL_law_ 914 = .ok (.iconst 0, 1) := by decide +kernel
theorem dL_law__915 : decode cL_law_ 915 = .ok (.laload, 1) := by decide +kernel
theorem dL_law__916 : decode cL_law_ 916 = .ok (.iload 6, 2) := by decide +kernel
theorem dL_law__918 : decode cL_law_ 918 = .ok (.i2l, 1) := by decide +kernel
theorem dL_law__919 : decode cL_law_ 919 = .ok (.lcmp, 1) := by decide +kernel
theorem dL_law__920 : decode cL_law_ 920 = .ok (.ifCond .eq 5, 3) := by decide +kernel
theorem dL_law__923 : decode cL_law_ 923 = .ok (.iconst 0, 1) := by decide +kernel
theorem dL_law__924 : decode cL_law_ 924 = .ok (.ireturn, 1) := by decide +kernel
theorem dL_law__925 : decode cL_law_ 925 = .ok (.goto 1674, 3) := by decide +kernel
/-! opcode 11 -/
noncomputable def fL_c11 (xs : Nat → Int32) (L : Nat) (V : VT) (ov : Nat → Int64) (u4 : Int32) : Option ((VT × (Nat → Int64) × Int32) ⊕ Int32) := rd_ (u4 + (1 : Int32)) L (lt_ (xs (u4 + (1 : Int32)).toNatClampNeg) fun z2 => ob_I (fX9_mirror V z2) fun o3 V8 => ob_R (hL_mirror o3 ov) fun qy5 => dt2_ qy5 fun y5 w4 => rd_ (u4 + (1 : Int32)) L (lt_ (xs (u4 + (1 : Int32)).toNatClampNeg) fun z10 => ob_I (fX10_mirror V8 z10) fun y12 V13 => ob_R (fX10_thrown V13 ) fun y15 => if y15 = y5 then (if y5 = 0 then (if (lg_cmp (w4 ((0 : Int32).toNatClampNeg)) y12.toInt64) = 0 then (lt_ (u4 + (6 : Int32)) fun y17 => some (.inl (V13, w4, y17))) else (some (.inr (0 : Int32)))) else (lt_ (u4 + (6 : Int32)) fun y16 => some (.inl (V13, w4, y16)))) else (some (.inr (0 : Int32)))))
set_option maxHeartbeats 4000000 in
set_option maxRecDepth 100000 in
theorem wL_c11 {p : Program} {l : Launch} {e : Env} {s : State} {m : MethodId} {args : Array Value} {below : List Frame} {meth : Method} {c : Code} {G : GT} {Z : Nat → Nat × Nat} {oa b L : Nat} {xs : Nat → Int32} {Q : State → Prop} (E : EO p s m args c meth cL_law_ 7 RL (some .boolean) G (SH Z) oa) (ht : l.stackTraces = false) (hX : va_X b L xs s s.heap) (hbl : b < s.heap.size) (hbA : ¬ gO G oa s.heap.size b) (hL : L ≤ 3072) {C0 S0 : Nat} (hC0 : C0 ≤ 100000) (hS0 : S0 ≤ 1000000) {V : VT} {ov : Nat → Int64} {u4 : Int32} {r : ((VT × (Nat → Int64) × Int32) ⊕ Int32)} (h : fL_c11 xs L V ov u4 = some r) (k1 : ∀ y, r = .inr y → y = 1) (kc : ∀ (V2 : VT) (ov2 : Nat → Int64), r = .inl (V2, ov2, u4 + 6) → ∀ (H : Heap) (locs : List Loc) (ls : Array Slot) (cells slots : Nat), HO G oa s.heap (V2) (ov2) H locs → lv_has ls 7 [(0, .ref b), (1, .ref (G.2.2 0)), (2, .ref (G.2.2 22)), (3, .ref oa), (4, .int (u4 + 6))] → cells ≤ C0 + 3 → slots ≤ S0 + 18 → W p l e room_1 s m args below meth c H locs cells slots Q (F0 m 23 ls [])) {H : Heap} {locs : List Loc} {ls : Array Slot} {cells slots : Nat} (hw : HO G oa s.heap V ov H locs) (hl : lv_has ls 7 [(0, .ref b), (1, .ref (G.2.2 0)), (2, .ref (G.2.2 22)), (3, .ref oa), (4, .int u4)]) (hce : cells ≤ C0) (hsl : slots ≤ S0) : W p l e room_1 s m args below meth c H locs cells slots Q (F0 m 872 ls []) := by
  have hx := E.1
  have hb := E.2.1
  have hfc : ∀ K : Nat, K ≤ 3 → cells + K ≤ room_1.cells ∧ slots + 6 * K ≤ room_1.slots := fun K hK => ⟨by show cells + K ≤ 601024; omega, by show slots + 6 * K ≤ 7293034; omega⟩
  have hf0 : ∀ {c9 s9 : Nat}, c9 ≤ C0 + 3 → s9 ≤ S0 + 18 → c9 ≤ room_1.cells ∧ s9 ≤ room_1.slots := fun h1 h2 => ⟨by show _ ≤ 601024; omega, by show _ ≤ 7293034; omega⟩
  unfold fL_c11 at h
  refine lv_aload_n hx hb dL_law__872 rfl (lv_at hl 1 rfl) ?_
  refine lv_aload_n hx hb dL_law__873 rfl (lv_at hl 0 rfl) ?_
  refine lv_iload hx hb dL_law__874 (lv_at hl 4 rfl) ?_
  refine lv_iconst (v := (1 : Int32)) hx hb dL_law__876 (by decide) ?_
  refine lv_iadd hx hb dL_law__877 ?_
  obtain ⟨b1, h⟩ := rd_some h
  obtain ⟨z2, ez2, h⟩ := lt_some h
  refine va_sld hx hb hX hbl hbA hw.2.2 b1 dL_law__878 ?_
  refine lv_eqi ez2 ?_
  refine lv_aload_n hx hb dL_law__879 rfl (lv_at hl 3 rfl) ?_
  obtain ⟨o3, V8, h6, h⟩ := ob_I_some h
  obtain ⟨⟨y5, w4⟩, h7, h⟩ := ob_R_some h
  have h := dt2_eq h
  refine o_SH (n := 3) (As := [.ref (G.2.2 0), .int z2, .ref oa]) E hw (kL_mirror (l := l) (G := G) (Z := Z) (oa := oa) ht h6 h7) yw_L_mirror lw_ini lm_RL_173 ⟨by decide, by decide, by decide +kernel⟩ rfl hl.1 (by decide) (hfc 2 (by decide)) (by decide) rfl (Nat.le_of_ble_eq_true rfl) dL_law__880 (fun H locs hw => ?_)
  refine lv_istore (lv' := [(5, .int y5), (0, .ref b), (1, .ref (G.2.2 0)), (2, .ref (G.2.2 22)), (3, .ref oa), (4, .int u4)]) hx hb dL_law__883 hl (by decide) rfl (fun ls hl => ?_)
  refine lv_aload_n hx hb dL_law__885 rfl (lv_at hl 3 rfl) ?_
  refine lv_aload_n hx hb dL_law__886 rfl (lv_at hl 1 rfl) ?_
  refine lv_iload hx hb dL_law__887 (lv_at hl 5 rfl) ?_
  refine lv_iconst (v := (1 : Int32)) hx hb dL_law__889 (by decide) ?_
  refine lv_iadd hx hb dL_law__890 ?_
  obtain ⟨b9, h⟩ := rd_some h
  obtain ⟨z10, ez10, h⟩ := lt_some h
  refine va_sld hx hb hX hbl hbA hw.2.2 b9 dL_law__891 ?_
  refine lv_eqi ez10 ?_
  obtain ⟨y12, V13, h11, h⟩ := ob_I_some h
  refine o_VI (As := [.int z10]) E hw (kX10_mirror (l := l) (G := G) (SG_ok Z) h11) yy_X10_mirror lm_RL_175 rfl (by decide) rfl rfl hl.1 (by decide) (hf0 (by omega) (by omega)) (by decide) rfl (Nat.le_of_ble_eq_true rfl) dL_law__892 (fun H locs hw => ?_)
  refine lv_istore (lv' := [(6, .int y12), (5, .int y5), (0, .ref b), (1, .ref (G.2.2 0)), (2, .ref (G.2.2 22)), (3, .ref oa), (4, .int u4)]) hx hb dL_law__895 hl (by decide) rfl (fun ls hl => ?_)
  refine lv_aload_n hx hb dL_law__897 rfl (lv_at hl 4 rfl) ?_
  obtain ⟨y15, h14, h⟩ := ob_R_some h
  refine o_VI (As := []) E hw (kX10_thrown (l := l) (G := G) (SG_ok Z) h14) yy_X10_thrown lm_RL_141 rfl (by decide) rfl rfl hl.1 (by decide) (hf0 (by omega) (by omega)) (by decide) rfl (Nat.le_of_ble_eq_true rfl) dL_law__898 (fun H locs hw => ?_)
  refine lv_iload hx hb dL_law__901 (lv_at hl 1 rfl) ?_
  refine lv_icmp_eq (tgt := 908) hx hb dL_law__903 (by decide) (fun c20 => ?_) (fun c20 => ?_)
  · rw [if_pos c20] at h
    refine lv_iload hx hb dL_law__908 (lv_at hl 1 rfl) ?_
    refine lv_if_ne (tgt := 925) hx hb dL_law__910 (by decide) (fun c19 => ?_) (fun c19 => ?_)
    · rw [if_neg c19] at h
      refine lv_goto (tgt := 2599) hx hb dL_law__925 (by decide) ?_
      obtain ⟨y16, ey16, h⟩ := lt_some h
      refine lv_iinc (v := y16) (lv' := [(4, .int y16), (6, .int y12), (5, .int y5), (0, .ref b), (1, .ref (G.2.2 0)), (2, .ref (G.2.2 22)), (3, .ref oa)]) hx hb dL_law__2599 hl (k := 6) rfl (by rw [ey16]; rfl) (by decide) rfl (fun ls hl => ?_)
      refine lv_goto (tgt := 23) hx hb dL_law__2602 (by decide) ?_
      subst ey16
      exact kc V13 w4 (Option.some.inj h).symm H locs ls _ _ hw (lv_sub hl [3, 4, 5, 6, 0] rfl) (by omega) (by omega)
    · rw [if_pos c19] at h
      refine lv_aload_n hx hb dL_law__913 rfl (lv_at hl 5 rfl) ?_
      refine lv_iconst (v := (0 : Int32)) hx hb dL_law__914 (by decide) ?_
      refine o_ll E hw vp_0_1 dL_law__915 ?_
      refine lv_iload hx hb dL_law__916 (lv_at hl 0 rfl) ?_
      refine lv_i2l hx hb dL_law__918 rfl ?_
      refine W.lcmp hx hb dL_law__919 ?_
      refine lv_if_eq (tgt := 925) hx hb dL_law__920 (by decide) (fun c18 => ?_) (fun c18 => ?_)
      · rw [if_pos c18] at h
        refine lv_goto (tgt := 2599) hx hb dL_law__925 (by decide) ?_
        obtain ⟨y17, ey17, h⟩ := lt_some h
        refine lv_iinc (v := y17) (lv' := [(4, .int y17), (6, .int y12), (5, .int y5), (0, .ref b), (1, .ref (G.2.2 0)), (2, .ref (G.2.2 22)), (3, .ref oa)]) hx hb dL_law__2599 hl (k := 6) rfl (by rw [ey17]; rfl) (by decide) rfl (fun ls hl => ?_)
        refine lv_goto (tgt := 23) hx hb dL_law__2602 (by decide) ?_
        subst ey17
        exact kc V13 w4 (Option.some.inj h).symm H locs ls _ _ hw (lv_sub hl [3, 4, 5, 6, 0] rfl) (by omega) (by omega)
      · rw [if_neg c18] at h
        refine lv_iconst (v := (0 : Int32)) hx hb dL_law__923 (by decide) ?_
        exact absurd (k1 _ (Option.some.inj h).symm) (by decide)
  · rw [if_neg c20] at h
    refine lv_iconst (v := (0 : Int32)) hx hb dL_law__906 (by decide) ?_
    exact absurd (k1 _ (Option.some.inj h).symm) (by decide)
theorem dL_law__928 : decode cL_law_ 928 = .ok (.aload_n 1, 1) := by decide +kernel
theorem dL_law__929 : decode cL_law_ 929 = .ok (.aload_n 0, 1) := by decide +kernel
theorem dL_law__930 : decode cL_law_ 930 = .ok (.iload 4, 2) := by decide +kernel
theorem dL_law__932 : decode cL_law_ 932 = .ok (.iconst 1, 1) := by decide +kernel
theorem dL_law__933 : decode cL_law_ 933 = .ok (.iadd, 1) := by decide +kernel
theorem dL_law__934 : decode cL_law_ 934 = .ok (.iaload, 1) := by decide +kernel
theorem dL_law__935 : decode cL_law_ 935 = .ok (.aload_n 0, 1) := by decide +kernel
theorem dL_law__936 : decode cL_law_ 936 = .ok (.iload 4, 2) := by decide +kernel
theorem dL_law__938 : decode cL_law_ 938 = .ok (.iconst 2, 1) := by decide +kernel
theorem dL_law__939 : decode cL_law_ 939 = .ok (.iadd, 1) := by decide +kernel
theorem dL_law__940 : decode cL_law_ 940 = .ok (.iaload, 1) := by decide +kernel
theorem dL_law__941 : decode cL_law_ 941 = .ok (.aload_n 0, 1) := by decide +kernel
theorem dL_law__942 : decode cL_law_ 942 = .ok (.iload 4, 2) := by decide +kernel
theorem dL_law__944 : decode cL_law_ 944 = .ok (.iconst 3, 1) := by decide +kernel
theorem dL_law__945 : decode cL_law_ 945 = .ok (.iadd, 1) := by decide +kernel
theorem dL_law__946 : decode cL_law_ 946 = .ok (.iaload, 1) := by decide +kernel
theorem dL_law__947 : decode cL_law_ 947 = .ok (.aload_n 3, 1) := by decide +kernel
theorem dL_law__948 : decode cL_law_ 948 = .ok (.invokestatic 176, 3) := by decide +kernel
theorem dL_law__951 : decode cL_law_ 951 = .ok (.istore 5, 2) := by decide +kernel
theorem dL_law__953 : decode cL_law_ 953 = .ok (.aload_n 2, 1) := by decide +kernel
theorem dL_law__954 : decode cL_law_ 954 = .ok (.aload_n 0, 1) := by decide +kernel
theorem dL_law__955 : decode cL_law_ 955 = .ok (.iload 4, 2) := by decide +kernel
theorem dL_law__957 : decode cL_law_ 957 = .ok (.iconst 1, 1) := by decide +kernel
theorem dL_law__958 : decode cL_law_ 958 = .ok (.iadd, 1) := by decide +kernel
theorem dL_law__959 : decode cL_law_ 959 = .ok (.iaload, 1) := by decide +kernel
theorem dL_law__960 : decode cL_law_ 960 = .ok (.aload_n 0, 1) := by decide +kernel
theorem dL_law__961 : decode cL_law_ 961 = .ok (.iload 4, 2) := by decide +kernel
theorem dL_law__963 : decode cL_law_ 963 = .ok (.iconst 2, 1) := by decide +kernel
theorem dL_law__964 : decode cL_law_ 964 = .ok (.iadd, 1) := by decide +kernel
theorem dL_law__965 : decode cL_law_ 965 = .ok (.iaload, 1) := by decide +kernel
theorem dL_law__966 : decode cL_law_ 966 = .ok (.aload_n 0, 1) := by decide +kernel
theorem dL_law__967 : decode cL_law_ 967 = .ok (.iload 4, 2) := by decide +kernel
theorem dL_law__969 : decode cL_law_ 969 = .ok (.iconst 3, 1) := by decide +kernel
theorem dL_law__970 : decode cL_law_ 970 = .ok (.iadd, 1) := by decide +kernel
theorem dL_law__971 : decode cL_law_ 971 = .ok (.iaload, 1) := by decide +kernel
theorem dL_law__972 : decode cL_law_ 972 = .ok (.invokevirtual 178, 3) := by decide +kernel
theorem dL_law__975 : decode cL_law_ 975 = .ok (.istore 6, 2) := by decide +kernel
theorem dL_law__977 : decode cL_law_ 977 = .ok (.aload_n 2, 1) := by decide +kernel
theorem dL_law__978 : decode cL_law_ 978 = .ok (.invokevirtual 141, 3) := by decide +kernel
theorem dL_law__981 : decode cL_law_ 981 = .ok (.iload 5, 2) := by decide +kernel
theorem dL_law__983 : decode cL_law_ 983 = .ok (.if_icmp .eq 5, 3) := by decide +kernel
theorem dL_law__986 : decode cL_law_ 986 = .ok (.iconst 0, 1) := by decide +kernel
theorem dL_law__987 : decode cL_law_ 987 = .ok (.ireturn, 1) := by decide +kernel
theorem dL_law__988 : decode cL_law_ 988 = .ok (.iload 5, 2) := by decide +kernel
theorem dL_law__990 : decode cL_law_ 990 = .ok (.ifCond .ne 15, 3) := by decide +kernel
theorem dL_law__993 : decode cL_law_ 993 = .ok (.aload_n 3, 1) := by decide +kernel
theorem dL_law__994 : decode cL_law_ 994 = .ok (.iconst 0, 1) := by decide +kernel
theorem dL_law__995 : decode cL_law_ 995 = .ok (.laload, 1) := by decide +kernel
theorem dL_law__996 : decode cL_law_ 996 = .ok (.iload 6, 2) := by decide +kernel
theorem dL_law__998 : decode cL_law_ 998 = .ok (.i2l, 1) := by decide +kernel
theorem dL_law__999 : decode cL_law_ 999 = .ok (.lcmp, 1) := by decide +kernel
theorem dL_law__1000 : decode cL_law_ 1000 = .ok (.ifCond .eq 5, 3) := by decide +kernel
theorem dL_law__1003 : decode cL_law_ 1003 = .ok (.iconst 0, 1) := by decide +kernel
theorem dL_law__1004 : decode cL_law_ 1004 = .ok (.ireturn, 1) := by decide +kernel
theorem dL_law__1005 : decode cL_law_ 1005 = .ok (.goto 1594, 3) := by decide +kernel
/-! opcode 12 -/
noncomputable def fL_c12 (xs : Nat → Int32) (L : Nat) (V : VT) (ov : Nat → Int64) (u4 : Int32) : Option ((VT × (Nat → Int64) × Int32) ⊕ Int32) := rd_ (u4 + (1 : Int32)) L (lt_ (xs (u4 + (1 : Int32)).toNatClampNeg) fun z2 => rd_ (u4 + (2 : Int32)) L (lt_ (xs (u4 + (2 : Int32)).toNatClampNeg) fun z4 => rd_ (u4 + (3 : Int32)) L (lt_ (xs (u4 + (3 : Int32)).toNatClampNeg) fun z6 => ob_I (fX9_up V z2 z4 z6) fun o7 V12 => ob_R (hL_up o7 ov) fun qy9 => dt2_ qy9 fun y9 w8 => rd_ (u4 + (1 : Int32)) L (lt_ (xs (u4 + (1 : Int32)).toNatClampNeg) fun z14 => rd_ (u4 + (2 : Int32)) L (lt_ (xs (u4 + (2 : Int32)).toNatClampNeg) fun z16 => rd_ (u4 + (3 : Int32)) L (lt_ (xs (u4 + (3 : Int32)).toNatClampNeg) fun z18 => ob_I (fX10_up V12 z14 z16 z18) fun y20 V21 => ob_R (fX10_thrown V21 ) fun y23 => if y23 = y9 then (if y9 = 0 then (if (lg_cmp (w8 ((0 : Int32).toNatClampNeg)) y20.toInt64) = 0 then (lt_ (u4 + (6 : Int32)) fun y25 => some (.inl (V21, w8, y25))) else (some (.inr (0 : Int32)))) else (lt_ (u4 + (6 : Int32)) fun y24 => some (.inl (V21, w8, y24)))) else (some (.inr (0 : Int32)))))))))
set_option maxHeartbeats 4000000 in
set_option maxRecDepth 100000 in
theorem wL_c12 {p : Program} {l : Launch} {e : Env} {s : State} {m : MethodId} {args : Array Value} {below : List Frame} {meth : Method} {c : Code} {G : GT} {Z : Nat → Nat × Nat} {oa b L : Nat} {xs : Nat → Int32} {Q : State → Prop} (E : EO p s m args c meth cL_law_ 7 RL (some .boolean) G (SH Z) oa) (ht : l.stackTraces = false) (hX : va_X b L xs s s.heap) (hbl : b < s.heap.size) (hbA : ¬ gO G oa s.heap.size b) (hL : L ≤ 3072) {C0 S0 : Nat} (hC0 : C0 ≤ 100000) (hS0 : S0 ≤ 1000000) {V : VT} {ov : Nat → Int64} {u4 : Int32} {r : ((VT × (Nat → Int64) × Int32) ⊕ Int32)} (h : fL_c12 xs L V ov u4 = some r) (k1 : ∀ y, r = .inr y → y = 1) (kc : ∀ (V2 : VT) (ov2 : Nat → Int64), r = .inl (V2, ov2, u4 + 6) → ∀ (H : Heap) (locs : List Loc) (ls : Array Slot) (cells slots : Nat), HO G oa s.heap (V2) (ov2) H locs → lv_has ls 7 [(0, .ref b), (1, .ref (G.2.2 0)), (2, .ref (G.2.2 22)), (3, .ref oa), (4, .int (u4 + 6))] → cells ≤ C0 + 3 → slots ≤ S0 + 18 → W p l e room_1 s m args below meth c H locs cells slots Q (F0 m 23 ls [])) {H : Heap} {locs : List Loc} {ls : Array Slot} {cells slots : Nat} (hw : HO G oa s.heap V ov H locs) (hl : lv_has ls 7 [(0, .ref b), (1, .ref (G.2.2 0)), (2, .ref (G.2.2 22)), (3, .ref oa), (4, .int u4)]) (hce : cells ≤ C0) (hsl : slots ≤ S0) : W p l e room_1 s m args below meth c H locs cells slots Q (F0 m 928 ls []) := by
  have hx := E.1
  have hb := E.2.1
  have hfc : ∀ K : Nat, K ≤ 3 → cells + K ≤ room_1.cells ∧ slots + 6 * K ≤ room_1.slots := fun K hK => ⟨by show cells + K ≤ 601024; omega, by show slots + 6 * K ≤ 7293034; omega⟩
  have hf0 : ∀ {c9 s9 : Nat}, c9 ≤ C0 + 3 → s9 ≤ S0 + 18 → c9 ≤ room_1.cells ∧ s9 ≤ room_1.slots := fun h1 h2 => ⟨by show _ ≤ 601024; omega, by show _ ≤ 7293034; omega⟩
  unfold fL_c12 at h
  refine lv_aload_n hx hb dL_law__928 rfl (lv_at hl 1 rfl) ?_
  refine lv_aload_n hx hb dL_law__929 rfl (lv_at hl 0 rfl) ?_
  refine lv_iload hx hb dL_law__930 (lv_at hl 4 rfl) ?_
  refine lv_iconst (v := (1 : Int32)) hx hb dL_law__932 (by decide) ?_
  refine lv_iadd hx hb dL_law__933 ?_
  obtain ⟨b1, h⟩ := rd_some h
  obtain ⟨z2, ez2, h⟩ := lt_some h
  refine va_sld hx hb hX hbl hbA hw.2.2 b1 dL_law__934 ?_
  refine lv_eqi ez2 ?_
  refine lv_aload_n hx hb dL_law__935 rfl (lv_at hl 0 rfl) ?_
  refine lv_iload hx hb dL_law__936 (lv_at hl 4 rfl) ?_
  refine lv_iconst (v := (2 : Int32)) hx hb dL_law__938 (by decide) ?_
  refine lv_iadd hx hb dL_law__939 ?_
  obtain ⟨b3, h⟩ := rd_some h
  obtain ⟨z4, ez4, h⟩ := lt_some h
  refine va_sld hx hb hX hbl hbA hw.2.2 b3 dL_law__940 ?_
  refine lv_eqi ez4 ?_
  refine lv_aload_n hx hb dL_law__941 rfl (lv_at hl 0 rfl) ?_
  refine lv_iload hx hb dL_law__942 (lv_at hl 4 rfl) ?_
  refine lv_iconst (v := (3 : Int32)) hx hb dL_law__944 (by decide) ?_
  refine lv_iadd hx hb dL_law__945 ?_
  obtain ⟨b5, h⟩ := rd_some h
  obtain ⟨z6, ez6, h⟩ := lt_some h
  refine va_sld hx hb hX hbl hbA hw.2.2 b5 dL_law__946 ?_
  refine lv_eqi ez6 ?_
  refine lv_aload_n hx hb dL_law__947 rfl (lv_at hl 3 rfl) ?_
  obtain ⟨o7, V12, h10, h⟩ := ob_I_some h
  obtain ⟨⟨y9, w8⟩, h11, h⟩ := ob_R_some h
  have h := dt2_eq h
  refine o_SH (n := 5) (As := [.ref (G.2.2 0), .int z2, .int z4, .int z6, .ref oa]) E hw (kL_up (l := l) (G := G) (Z := Z) (oa := oa) ht h10 h11) yw_L_up lw_ini lm_RL_176 ⟨by decide, by decide, by decide +kernel⟩ rfl hl.1 (by decide) (hfc 3 (by decide)) (by decide) rfl (Nat.le_of_ble_eq_true rfl) dL_law__948 (fun H locs hw => ?_)
  refine lv_istore (lv' := [(5, .int y9), (0, .ref b), (1, .ref (G.2.2 0)), (2, .ref (G.2.2 22)), (3, .ref oa), (4, .int u4)]) hx hb dL_law__951 hl (by decide) rfl (fun ls hl => ?_)
  refine lv_aload_n hx hb dL_law__953 rfl (lv_at hl 3 rfl) ?_
  refine lv_aload_n hx hb dL_law__954 rfl (lv_at hl 1 rfl) ?_
  refine lv_iload hx hb dL_law__955 (lv_at hl 5 rfl) ?_
  refine lv_iconst (v := (1 : Int32)) hx hb dL_law__957 (by decide) ?_
  refine lv_iadd hx hb dL_law__958 ?_
  obtain ⟨b13, h⟩ := rd_some h
  obtain ⟨z14, ez14, h⟩ := lt_some h
  refine va_sld hx hb hX hbl hbA hw.2.2 b13 dL_law__959 ?_
  refine lv_eqi ez14 ?_
  refine lv_aload_n hx hb dL_law__960 rfl (lv_at hl 1 rfl) ?_
  refine lv_iload hx hb dL_law__961 (lv_at hl 5 rfl) ?_
  refine lv_iconst (v := (2 : Int32)) hx hb dL_law__963 (by decide) ?_
  refine lv_iadd hx hb dL_law__964 ?_
  obtain ⟨b15, h⟩ := rd_some h
  obtain ⟨z16, ez16, h⟩ := lt_some h
  refine va_sld hx hb hX hbl hbA hw.2.2 b15 dL_law__965 ?_
  refine lv_eqi ez16 ?_
  refine lv_aload_n hx hb dL_law__966 rfl (lv_at hl 1 rfl) ?_
  refine lv_iload hx hb dL_law__967 (lv_at hl 5 rfl) ?_
  refine lv_iconst (v := (3 : Int32)) hx hb dL_law__969 (by decide) ?_
  refine lv_iadd hx hb dL_law__970 ?_
  obtain ⟨b17, h⟩ := rd_some h
  obtain ⟨z18, ez18, h⟩ := lt_some h
  refine va_sld hx hb hX hbl hbA hw.2.2 b17 dL_law__971 ?_
  refine lv_eqi ez18 ?_
  obtain ⟨y20, V21, h19, h⟩ := ob_I_some h
  refine o_VI (As := [.int z14, .int z16, .int z18]) E hw (kX10_up (l := l) (G := G) (SG_ok Z) h19) yy_X10_up lm_RL_178 rfl (by decide) rfl rfl hl.1 (by decide) (hf0 (by omega) (by omega)) (by decide) rfl (Nat.le_of_ble_eq_true rfl) dL_law__972 (fun H locs hw => ?_)
  refine lv_istore (lv' := [(6, .int y20), (5, .int y9), (0, .ref b), (1, .ref (G.2.2 0)), (2, .ref (G.2.2 22)), (3, .ref oa), (4, .int u4)]) hx hb dL_law__975 hl (by decide) rfl (fun ls hl => ?_)
  refine lv_aload_n hx hb dL_law__977 rfl (lv_at hl 4 rfl) ?_
  obtain ⟨y23, h22, h⟩ := ob_R_some h
  refine o_VI (As := []) E hw (kX10_thrown (l := l) (G := G) (SG_ok Z) h22) yy_X10_thrown lm_RL_141 rfl (by decide) rfl rfl hl.1 (by decide) (hf0 (by omega) (by omega)) (by decide) rfl (Nat.le_of_ble_eq_true rfl) dL_law__978 (fun H locs hw => ?_)
  refine lv_iload hx hb dL_law__981 (lv_at hl 1 rfl) ?_
  refine lv_icmp_eq (tgt := 988) hx hb dL_law__983 (by decide) (fun c28 => ?_) (fun c28 => ?_)
  · rw [if_pos c28] at h
    refine lv_iload hx hb dL_law__988 (lv_at hl 1 rfl) ?_
    refine lv_if_ne (tgt := 1005) hx hb dL_law__990 (by decide) (fun c27 => ?_) (fun c27 => ?_)
    · rw [if_neg c27] at h
      refine lv_goto (tgt := 2599) hx hb dL_law__1005 (by decide) ?_
      obtain ⟨y24, ey24, h⟩ := lt_some h
      refine lv_iinc (v := y24) (lv' := [(4, .int y24), (6, .int y20), (5, .int y9), (0, .ref b), (1, .ref (G.2.2 0)), (2, .ref (G.2.2 22)), (3, .ref oa)]) hx hb dL_law__2599 hl (k := 6) rfl (by rw [ey24]; rfl) (by decide) rfl (fun ls hl => ?_)
      refine lv_goto (tgt := 23) hx hb dL_law__2602 (by decide) ?_
      subst ey24
      exact kc V21 w8 (Option.some.inj h).symm H locs ls _ _ hw (lv_sub hl [3, 4, 5, 6, 0] rfl) (by omega) (by omega)
    · rw [if_pos c27] at h
      refine lv_aload_n hx hb dL_law__993 rfl (lv_at hl 5 rfl) ?_
      refine lv_iconst (v := (0 : Int32)) hx hb dL_law__994 (by decide) ?_
      refine o_ll E hw vp_0_1 dL_law__995 ?_
      refine lv_iload hx hb dL_law__996 (lv_at hl 0 rfl) ?_
      refine lv_i2l hx hb dL_law__998 rfl ?_
      refine W.lcmp hx hb dL_law__999 ?_
      refine lv_if_eq (tgt := 1005) hx hb dL_law__1000 (by decide) (fun c26 => ?_) (fun c26 => ?_)
      · rw [if_pos c26] at h
        refine lv_goto (tgt := 2599) hx hb dL_law__1005 (by decide) ?_
        obtain ⟨y25, ey25, h⟩ := lt_some h
        refine lv_iinc (v := y25) (lv' := [(4, .int y25), (6, .int y20), (5, .int y9), (0, .ref b), (1, .ref (G.2.2 0)), (2, .ref (G.2.2 22)), (3, .ref oa)]) hx hb dL_law__2599 hl (k := 6) rfl (by rw [ey25]; rfl) (by decide) rfl (fun ls hl => ?_)
        refine lv_goto (tgt := 23) hx hb dL_law__2602 (by decide) ?_
        subst ey25
        exact kc V21 w8 (Option.some.inj h).symm H locs ls _ _ hw (lv_sub hl [3, 4, 5, 6, 0] rfl) (by omega) (by omega)
      · rw [if_neg c26] at h
        refine lv_iconst (v := (0 : Int32)) hx hb dL_law__1003 (by decide) ?_
        exact absurd (k1 _ (Option.some.inj h).symm) (by decide)
  · rw [if_neg c28] at h
    refine lv_iconst (v := (0 : Int32)) hx hb dL_law__986 (by decide) ?_
    exact absurd (k1 _ (Option.some.inj h).symm) (by decide)
theorem dL_law__1008 : decode cL_law_ 1008 = .ok (.aload_n 1, 1) := by decide +kernel
theorem dL_law__1009 : decode cL_law_ 1009 = .ok (.aload_n 0, 1) := by decide +kernel
theorem dL_law__1010 : decode cL_law_ 1010 = .ok (.iload 4, 2) := by decide +kernel
theorem dL_law__1012 : decode cL_law_ 1012 = .ok (.iconst 1, 1) := by decide +kernel
theorem dL_law__1013 : decode cL_law_ 1013 = .ok (.iadd, 1) := by decide +kernel
theorem dL_law__1014 : decode cL_law_ 1014 = .ok (.iaload, 1) := by decide +kernel
theorem dL_law__1015 : decode cL_law_ 1015 = .ok (.aload_n 0, 1) := by decide +kernel
theorem dL_law__1016 : decode cL_law_ 1016 = .ok (.iload 4, 2) := by decide +kernel
theorem dL_law__1018 : decode cL_law_ 1018 = .ok (.iconst 2, 1) := by decide +kernel
theorem dL_law__1019 : decode cL_law_ 1019 = .ok (.iadd, 1) := by decide +kernel
theorem dL_law__1020 : decode cL_law_ 1020 = .ok (.iaload, 1) := by decide +kernel
theorem dL_law__1021 : decode cL_law_ 1021 = .ok (.aload_n 3, 1) := by decide +kernel
theorem dL_law__1022 : decode cL_law_ 1022 = .ok (.invokestatic 179, 3) := by decide +kernel
theorem dL_law__1025 : decode cL_law_ 1025 = .ok (.istore 5, 2) := by decide +kernel
theorem dL_law__1027 : decode cL_law_ 1027 = .ok (.aload_n 2, 1) := by decide +kernel
theorem dL_law__1028 : decode cL_law_ 1028 = .ok (.aload_n 0, 1) := by decide +kernel
theorem dL_law__1029 : decode cL_law_ 1029 = .ok (.iload 4, 2) := by decide +kernel
theorem dL_law__1031 : decode cL_law_ 1031 = .ok (.iconst 1, 1) := by decide +kernel
theorem dL_law__1032 : decode cL_law_ 1032 = .ok (.iadd, 1) := by decide +kernel
theorem dL_law__1033 : decode cL_law_ 1033 = .ok (.iaload, 1) := by decide +kernel
theorem dL_law__1034 : decode cL_law_ 1034 = .ok (.aload_n 0, 1) := by decide +kernel
theorem dL_law__1035 : decode cL_law_ 1035 = .ok (.iload 4, 2) := by decide +kernel
theorem dL_law__1037 : decode cL_law_ 1037 = .ok (.iconst 2, 1) := by decide +kernel
theorem dL_law__1038 : decode cL_law_ 1038 = .ok (.iadd, 1) := by decide +kernel
theorem dL_law__1039 : decode cL_law_ 1039 = .ok (.iaload, 1) := by decide +kernel
theorem dL_law__1040 : decode cL_law_ 1040 = .ok (.invokevirtual 181, 3) := by decide +kernel
theorem dL_law__1043 : decode cL_law_ 1043 = .ok (.istore 6, 2) := by decide +kernel
theorem dL_law__1045 : decode cL_law_ 1045 = .ok (.aload_n 2, 1) := by decide +kernel
theorem dL_law__1046 : decode cL_law_ 1046 = .ok (.invokevirtual 141, 3) := by decide +kernel
theorem dL_law__1049 : decode cL_law_ 1049 = .ok (.iload 5, 2) := by decide +kernel
theorem dL_law__1051 : decode cL_law_ 1051 = .ok (.if_icmp .eq 5, 3) := by decide +kernel
theorem dL_law__1054 : decode cL_law_ 1054 = .ok (.iconst 0, 1) := by decide +kernel
theorem dL_law__1055 : decode cL_law_ 1055 = .ok (.ireturn, 1) := by decide +kernel
theorem dL_law__1056 : decode cL_law_ 1056 = .ok (.iload 5, 2) := by decide +kernel
theorem dL_law__1058 : decode cL_law_ 1058 = .ok (.ifCond .ne 15, 3) := by decide +kernel
theorem dL_law__1061 : decode cL_law_ 1061 = .ok (.aload_n 3, 1) := by decide +kernel
theorem dL_law__1062 : decode cL_law_ 1062 = .ok (.iconst 0, 1) := by decide +kernel
theorem dL_law__1063 : decode cL_law_ 1063 = .ok (.laload, 1) := by decide +kernel
theorem dL_law__1064 : decode cL_law_ 1064 = .ok (.iload 6, 2) := by decide +kernel
theorem dL_law__1066 : decode cL_law_ 1066 = .ok (.i2l, 1) := by decide +kernel
theorem dL_law__1067 : decode cL_law_ 1067 = .ok (.lcmp, 1) := by decide +kernel
theorem dL_law__1068 : decode cL_law_ 1068 = .ok (.ifCond .eq 5, 3) := by decide +kernel
theorem dL_law__1071 : decode cL_law_ 1071 = .ok (.iconst 0, 1) := by decide +kernel
theorem dL_law__1072 : decode cL_law_ 1072 = .ok (.ireturn, 1) := by decide +kernel
theorem dL_law__1073 : decode cL_law_ 1073 = .ok (.goto 1526, 3) := by decide +kernel
/-! opcode 13 -/
noncomputable def fL_c13 (xs : Nat → Int32) (L : Nat) (V : VT) (ov : Nat → Int64) (u4 : Int32) : Option ((VT × (Nat → Int64) × Int32) ⊕ Int32) := rd_ (u4 + (1 : Int32)) L (lt_ (xs (u4 + (1 : Int32)).toNatClampNeg) fun z2 => rd_ (u4 + (2 : Int32)) L (lt_ (xs (u4 + (2 : Int32)).toNatClampNeg) fun z4 => ob_I (fX9_spite V z2 z4) fun o5 V10 => ob_R (hL_spite o5 ov) fun qy7 => dt2_ qy7 fun y7 w6 => rd_ (u4 + (1 : Int32)) L (lt_ (xs (u4 + (1 : Int32)).toNatClampNeg) fun z12 => rd_ (u4 + (2 : Int32)) L (lt_ (xs (u4 + (2 : Int32)).toNatClampNeg) fun z14 => ob_I (fX10_spite V10 z12 z14) fun y16 V17 => ob_R (fX10_thrown V17 ) fun y19 => if y19 = y7 then (if y7 = 0 then (if (lg_cmp (w6 ((0 : Int32).toNatClampNeg)) y16.toInt64) = 0 then (lt_ (u4 + (6 : Int32)) fun y21 => some (.inl (V17, w6, y21))) else (some (.inr (0 : Int32)))) else (lt_ (u4 + (6 : Int32)) fun y20 => some (.inl (V17, w6, y20)))) else (some (.inr (0 : Int32)))))))
set_option maxHeartbeats 4000000 in
set_option maxRecDepth 100000 in
theorem wL_c13 {p : Program} {l : Launch} {e : Env} {s : State} {m : MethodId} {args : Array Value} {below : List Frame} {meth : Method} {c : Code} {G : GT} {Z : Nat → Nat × Nat} {oa b L : Nat} {xs : Nat → Int32} {Q : State → Prop} (E : EO p s m args c meth cL_law_ 7 RL (some .boolean) G (SH Z) oa) (ht : l.stackTraces = false) (hX : va_X b L xs s s.heap) (hbl : b < s.heap.size) (hbA : ¬ gO G oa s.heap.size b) (hL : L ≤ 3072) {C0 S0 : Nat} (hC0 : C0 ≤ 100000) (hS0 : S0 ≤ 1000000) {V : VT} {ov : Nat → Int64} {u4 : Int32} {r : ((VT × (Nat → Int64) × Int32) ⊕ Int32)} (h : fL_c13 xs L V ov u4 = some r) (k1 : ∀ y, r = .inr y → y = 1) (kc : ∀ (V2 : VT) (ov2 : Nat → Int64), r = .inl (V2, ov2, u4 + 6) → ∀ (H : Heap) (locs : List Loc) (ls : Array Slot) (cells slots : Nat), HO G oa s.heap (V2) (ov2) H locs → lv_has ls 7 [(0, .ref b), (1, .ref (G.2.2 0)), (2, .ref (G.2.2 22)), (3, .ref oa), (4, .int (u4 + 6))] → cells ≤ C0 + 3 → slots ≤ S0 + 18 → W p l e room_1 s m args below meth c H locs cells slots Q (F0 m 23 ls [])) {H : Heap} {locs : List Loc} {ls : Array Slot} {cells slots : Nat} (hw : HO G oa s.heap V ov H locs) (hl : lv_has ls 7 [(0, .ref b), (1, .ref (G.2.2 0)), (2, .ref (G.2.2 22)), (3, .ref oa), (4, .int u4)]) (hce : cells ≤ C0) (hsl : slots ≤ S0) : W p l e room_1 s m args below meth c H locs cells slots Q (F0 m 1008 ls []) := by
  have hx := E.1
  have hb := E.2.1
  have hfc : ∀ K : Nat, K ≤ 3 → cells + K ≤ room_1.cells ∧ slots + 6 * K ≤ room_1.slots := fun K hK => ⟨by show cells + K ≤ 601024; omega, by show slots + 6 * K ≤ 7293034; omega⟩
  have hf0 : ∀ {c9 s9 : Nat}, c9 ≤ C0 + 3 → s9 ≤ S0 + 18 → c9 ≤ room_1.cells ∧ s9 ≤ room_1.slots := fun h1 h2 => ⟨by show _ ≤ 601024; omega, by show _ ≤ 7293034; omega⟩
  unfold fL_c13 at h
  refine lv_aload_n hx hb dL_law__1008 rfl (lv_at hl 1 rfl) ?_
  refine lv_aload_n hx hb dL_law__1009 rfl (lv_at hl 0 rfl) ?_
  refine lv_iload hx hb dL_law__1010 (lv_at hl 4 rfl) ?_
  refine lv_iconst (v := (1 : Int32)) hx hb dL_law__1012 (by decide) ?_
  refine lv_iadd hx hb dL_law__1013 ?_
  obtain ⟨b1, h⟩ := rd_some h
  obtain ⟨z2, ez2, h⟩ := lt_some h
  refine va_sld hx hb hX hbl hbA hw.2.2 b1 dL_law__1014 ?_
  refine lv_eqi ez2 ?_
  refine lv_aload_n hx hb dL_law__1015 rfl (lv_at hl 0 rfl) ?_
  refine lv_iload hx hb dL_law__1016 (lv_at hl 4 rfl) ?_
  refine lv_iconst (v := (2 : Int32)) hx hb dL_law__1018 (by decide) ?_
  refine lv_iadd hx hb dL_law__1019 ?_
  obtain ⟨b3, h⟩ := rd_some h
  obtain ⟨z4, ez4, h⟩ := lt_some h
  refine va_sld hx hb hX hbl hbA hw.2.2 b3 dL_law__1020 ?_
  refine lv_eqi ez4 ?_
  refine lv_aload_n hx hb dL_law__1021 rfl (lv_at hl 3 rfl) ?_
  obtain ⟨o5, V10, h8, h⟩ := ob_I_some h
  obtain ⟨⟨y7, w6⟩, h9, h⟩ := ob_R_some h
  have h := dt2_eq h
  refine o_SH (n := 4) (As := [.ref (G.2.2 0), .int z2, .int z4, .ref oa]) E hw (kL_spite (l := l) (G := G) (Z := Z) (oa := oa) ht h8 h9) yw_L_spite lw_ini lm_RL_179 ⟨by decide, by decide, by decide +kernel⟩ rfl hl.1 (by decide) (hfc 2 (by decide)) (by decide) rfl (Nat.le_of_ble_eq_true rfl) dL_law__1022 (fun H locs hw => ?_)
  refine lv_istore (lv' := [(5, .int y7), (0, .ref b), (1, .ref (G.2.2 0)), (2, .ref (G.2.2 22)), (3, .ref oa), (4, .int u4)]) hx hb dL_law__1025 hl (by decide) rfl (fun ls hl => ?_)
  refine lv_aload_n hx hb dL_law__1027 rfl (lv_at hl 3 rfl) ?_
  refine lv_aload_n hx hb dL_law__1028 rfl (lv_at hl 1 rfl) ?_
  refine lv_iload hx hb dL_law__1029 (lv_at hl 5 rfl) ?_
  refine lv_iconst (v := (1 : Int32)) hx hb dL_law__1031 (by decide) ?_
  refine lv_iadd hx hb dL_law__1032 ?_
  obtain ⟨b11, h⟩ := rd_some h
  obtain ⟨z12, ez12, h⟩ := lt_some h
  refine va_sld hx hb hX hbl hbA hw.2.2 b11 dL_law__1033 ?_
  refine lv_eqi ez12 ?_
  refine lv_aload_n hx hb dL_law__1034 rfl (lv_at hl 1 rfl) ?_
  refine lv_iload hx hb dL_law__1035 (lv_at hl 5 rfl) ?_
  refine lv_iconst (v := (2 : Int32)) hx hb dL_law__1037 (by decide) ?_
  refine lv_iadd hx hb dL_law__1038 ?_
  obtain ⟨b13, h⟩ := rd_some h
  obtain ⟨z14, ez14, h⟩ := lt_some h
  refine va_sld hx hb hX hbl hbA hw.2.2 b13 dL_law__1039 ?_
  refine lv_eqi ez14 ?_
  obtain ⟨y16, V17, h15, h⟩ := ob_I_some h
  refine o_VI (As := [.int z12, .int z14]) E hw (kX10_spite (l := l) (G := G) (SG_ok Z) h15) yy_X10_spite lm_RL_181 rfl (by decide) rfl rfl hl.1 (by decide) (hf0 (by omega) (by omega)) (by decide) rfl (Nat.le_of_ble_eq_true rfl) dL_law__1040 (fun H locs hw => ?_)
  refine lv_istore (lv' := [(6, .int y16), (5, .int y7), (0, .ref b), (1, .ref (G.2.2 0)), (2, .ref (G.2.2 22)), (3, .ref oa), (4, .int u4)]) hx hb dL_law__1043 hl (by decide) rfl (fun ls hl => ?_)
  refine lv_aload_n hx hb dL_law__1045 rfl (lv_at hl 4 rfl) ?_
  obtain ⟨y19, h18, h⟩ := ob_R_some h
  refine o_VI (As := []) E hw (kX10_thrown (l := l) (G := G) (SG_ok Z) h18) yy_X10_thrown lm_RL_141 rfl (by decide) rfl rfl hl.1 (by decide) (hf0 (by omega) (by omega)) (by decide) rfl (Nat.le_of_ble_eq_true rfl) dL_law__1046 (fun H locs hw => ?_)
  refine lv_iload hx hb dL_law__1049 (lv_at hl 1 rfl) ?_
  refine lv_icmp_eq (tgt := 1056) hx hb dL_law__1051 (by decide) (fun c24 => ?_) (fun c24 => ?_)
  · rw [if_pos c24] at h
    refine lv_iload hx hb dL_law__1056 (lv_at hl 1 rfl) ?_
    refine lv_if_ne (tgt := 1073) hx hb dL_law__1058 (by decide) (fun c23 => ?_) (fun c23 => ?_)
    · rw [if_neg c23] at h
      refine lv_goto (tgt := 2599) hx hb dL_law__1073 (by decide) ?_
      obtain ⟨y20, ey20, h⟩ := lt_some h
      refine lv_iinc (v := y20) (lv' := [(4, .int y20), (6, .int y16), (5, .int y7), (0, .ref b), (1, .ref (G.2.2 0)), (2, .ref (G.2.2 22)), (3, .ref oa)]) hx hb dL_law__2599 hl (k := 6) rfl (by rw [ey20]; rfl) (by decide) rfl (fun ls hl => ?_)
      refine lv_goto (tgt := 23) hx hb dL_law__2602 (by decide) ?_
      subst ey20
      exact kc V17 w6 (Option.some.inj h).symm H locs ls _ _ hw (lv_sub hl [3, 4, 5, 6, 0] rfl) (by omega) (by omega)
    · rw [if_pos c23] at h
      refine lv_aload_n hx hb dL_law__1061 rfl (lv_at hl 5 rfl) ?_
      refine lv_iconst (v := (0 : Int32)) hx hb dL_law__1062 (by decide) ?_
      refine o_ll E hw vp_0_1 dL_law__1063 ?_
      refine lv_iload hx hb dL_law__1064 (lv_at hl 0 rfl) ?_
      refine lv_i2l hx hb dL_law__1066 rfl ?_
      refine W.lcmp hx hb dL_law__1067 ?_
      refine lv_if_eq (tgt := 1073) hx hb dL_law__1068 (by decide) (fun c22 => ?_) (fun c22 => ?_)
      · rw [if_pos c22] at h
        refine lv_goto (tgt := 2599) hx hb dL_law__1073 (by decide) ?_
        obtain ⟨y21, ey21, h⟩ := lt_some h
        refine lv_iinc (v := y21) (lv' := [(4, .int y21), (6, .int y16), (5, .int y7), (0, .ref b), (1, .ref (G.2.2 0)), (2, .ref (G.2.2 22)), (3, .ref oa)]) hx hb dL_law__2599 hl (k := 6) rfl (by rw [ey21]; rfl) (by decide) rfl (fun ls hl => ?_)
        refine lv_goto (tgt := 23) hx hb dL_law__2602 (by decide) ?_
        subst ey21
        exact kc V17 w6 (Option.some.inj h).symm H locs ls _ _ hw (lv_sub hl [3, 4, 5, 6, 0] rfl) (by omega) (by omega)
      · rw [if_neg c22] at h
        refine lv_iconst (v := (0 : Int32)) hx hb dL_law__1071 (by decide) ?_
        exact absurd (k1 _ (Option.some.inj h).symm) (by decide)
  · rw [if_neg c24] at h
    refine lv_iconst (v := (0 : Int32)) hx hb dL_law__1054 (by decide) ?_
    exact absurd (k1 _ (Option.some.inj h).symm) (by decide)
theorem dL_law__1076 : decode cL_law_ 1076 = .ok (.aload_n 1, 1) := by decide +kernel
theorem dL_law__1077 : decode cL_law_ 1077 = .ok (.aload_n 0, 1) := by decide +kernel
theorem dL_law__1078 : decode cL_law_ 1078 = .ok (.iload 4, 2) := by decide +kernel
theorem dL_law__1080 : decode cL_law_ 1080 = .ok (.iconst 1, 1) := by decide +kernel
theorem dL_law__1081 : decode cL_law_ 1081 = .ok (.iadd, 1) := by decide +kernel
theorem dL_law__1082 : decode cL_law_ 1082 = .ok (.iaload, 1) := by decide +kernel
theorem dL_law__1083 : decode cL_law_ 1083 = .ok (.aload_n 3, 1) := by decide +kernel
theorem dL_law__1084 : decode cL_law_ 1084 = .ok (.invokestatic 182, 3) := by decide +kernel
theorem dL_law__1087 : decode cL_law_ 1087 = .ok (.istore 5, 2) := by decide +kernel
theorem dL_law__1089 : decode cL_law_ 1089 = .ok (.aload_n 2, 1) := by decide +kernel
theorem dL_law__1090 : decode cL_law_ 1090 = .ok (.aload_n 0, 1) := by decide +kernel
theorem dL_law__1091 : decode cL_law_ 1091 = .ok (.iload 4, 2) := by decide +kernel
theorem dL_law__1093 : decode cL_law_ 1093 = .ok (.iconst 1, 1) := by decide +kernel
theorem dL_law__1094 : decode cL_law_ 1094 = .ok (.iadd, 1) := by decide +kernel
theorem dL_law__1095 : decode cL_law_ 1095 = .ok (.iaload, 1) := by decide +kernel
theorem dL_law__1096 : decode cL_law_ 1096 = .ok (.invokevirtual 184, 3) := by decide +kernel
theorem dL_law__1099 : decode cL_law_ 1099 = .ok (.istore 6, 2) := by decide +kernel
theorem dL_law__1101 : decode cL_law_ 1101 = .ok (.aload_n 2, 1) := by decide +kernel
theorem dL_law__1102 : decode cL_law_ 1102 = .ok (.invokevirtual 141, 3) := by decide +kernel
theorem dL_law__1105 : decode cL_law_ 1105 = .ok (.iload 5, 2) := by decide +kernel
theorem dL_law__1107 : decode cL_law_ 1107 = .ok (.if_icmp .eq 5, 3) := by decide +kernel
theorem dL_law__1110 : decode cL_law_ 1110 = .ok (.iconst 0, 1) := by decide +kernel
theorem dL_law__1111 : decode cL_law_ 1111 = .ok (.ireturn, 1) := by decide +kernel
theorem dL_law__1112 : decode cL_law_ 1112 = .ok (.iload 5, 2) := by decide +kernel
theorem dL_law__1114 : decode cL_law_ 1114 = .ok (.ifCond .ne 15, 3) := by decide +kernel
theorem dL_law__1117 : decode cL_law_ 1117 = .ok (.aload_n 3, 1) := by decide +kernel
theorem dL_law__1118 : decode cL_law_ 1118 = .ok (.iconst 0, 1) := by decide +kernel
theorem dL_law__1119 : decode cL_law_ 1119 = .ok (.laload, 1) := by decide +kernel
theorem dL_law__1120 : decode cL_law_ 1120 = .ok (.iload 6, 2) := by decide +kernel
theorem dL_law__1122 : decode cL_law_ 1122 = .ok (.i2l, 1) := by decide +kernel
theorem dL_law__1123 : decode cL_law_ 1123 = .ok (.lcmp, 1) := by decide +kernel
theorem dL_law__1124 : decode cL_law_ 1124 = .ok (.ifCond .eq 5, 3) := by decide +kernel
theorem dL_law__1127 : decode cL_law_ 1127 = .ok (.iconst 0, 1) := by decide +kernel
theorem dL_law__1128 : decode cL_law_ 1128 = .ok (.ireturn, 1) := by decide +kernel
theorem dL_law__1129 : decode cL_law_ 1129 = .ok (.goto 1470, 3) := by decide +kernel
/-! opcode 14 -/
noncomputable def fL_c14 (xs : Nat → Int32) (L : Nat) (V : VT) (ov : Nat → Int64) (u4 : Int32) : Option ((VT × (Nat → Int64) × Int32) ⊕ Int32) := rd_ (u4 + (1 : Int32)) L (lt_ (xs (u4 + (1 : Int32)).toNatClampNeg) fun z2 => ob_I (fX9_lodger V z2) fun o3 V8 => ob_R (hL_lodger o3 ov) fun qy5 => dt2_ qy5 fun y5 w4 => rd_ (u4 + (1 : Int32)) L (lt_ (xs (u4 + (1 : Int32)).toNatClampNeg) fun z10 => ob_I (fX10_lodger V8 z10) fun y12 V13 => ob_R (fX10_thrown V13 ) fun y15 => if y15 = y5 then (if y5 = 0 then (if (lg_cmp (w4 ((0 : Int32).toNatClampNeg)) y12.toInt64) = 0 then (lt_ (u4 + (6 : Int32)) fun y17 => some (.inl (V13, w4, y17))) else (some (.inr (0 : Int32)))) else (lt_ (u4 + (6 : Int32)) fun y16 => some (.inl (V13, w4, y16)))) else (some (.inr (0 : Int32)))))
set_option maxHeartbeats 4000000 in
set_option maxRecDepth 100000 in
theorem wL_c14 {p : Program} {l : Launch} {e : Env} {s : State} {m : MethodId} {args : Array Value} {below : List Frame} {meth : Method} {c : Code} {G : GT} {Z : Nat → Nat × Nat} {oa b L : Nat} {xs : Nat → Int32} {Q : State → Prop} (E : EO p s m args c meth cL_law_ 7 RL (some .boolean) G (SH Z) oa) (ht : l.stackTraces = false) (hX : va_X b L xs s s.heap) (hbl : b < s.heap.size) (hbA : ¬ gO G oa s.heap.size b) (hL : L ≤ 3072) {C0 S0 : Nat} (hC0 : C0 ≤ 100000) (hS0 : S0 ≤ 1000000) {V : VT} {ov : Nat → Int64} {u4 : Int32} {r : ((VT × (Nat → Int64) × Int32) ⊕ Int32)} (h : fL_c14 xs L V ov u4 = some r) (k1 : ∀ y, r = .inr y → y = 1) (kc : ∀ (V2 : VT) (ov2 : Nat → Int64), r = .inl (V2, ov2, u4 + 6) → ∀ (H : Heap) (locs : List Loc) (ls : Array Slot) (cells slots : Nat), HO G oa s.heap (V2) (ov2) H locs → lv_has ls 7 [(0, .ref b), (1, .ref (G.2.2 0)), (2, .ref (G.2.2 22)), (3, .ref oa), (4, .int (u4 + 6))] → cells ≤ C0 + 3 → slots ≤ S0 + 18 → W p l e room_1 s m args below meth c H locs cells slots Q (F0 m 23 ls [])) {H : Heap} {locs : List Loc} {ls : Array Slot} {cells slots : Nat} (hw : HO G oa s.heap V ov H locs) (hl : lv_has ls 7 [(0, .ref b), (1, .ref (G.2.2 0)), (2, .ref (G.2.2 22)), (3, .ref oa), (4, .int u4)]) (hce : cells ≤ C0) (hsl : slots ≤ S0) : W p l e room_1 s m args below meth c H locs cells slots Q (F0 m 1076 ls []) := by
  have hx := E.1
  have hb := E.2.1
  have hfc : ∀ K : Nat, K ≤ 3 → cells + K ≤ room_1.cells ∧ slots + 6 * K ≤ room_1.slots := fun K hK => ⟨by show cells + K ≤ 601024; omega, by show slots + 6 * K ≤ 7293034; omega⟩
  have hf0 : ∀ {c9 s9 : Nat}, c9 ≤ C0 + 3 → s9 ≤ S0 + 18 → c9 ≤ room_1.cells ∧ s9 ≤ room_1.slots := fun h1 h2 => ⟨by show _ ≤ 601024; omega, by show _ ≤ 7293034; omega⟩
  unfold fL_c14 at h
  refine lv_aload_n hx hb dL_law__1076 rfl (lv_at hl 1 rfl) ?_
  refine lv_aload_n hx hb dL_law__1077 rfl (lv_at hl 0 rfl) ?_
  refine lv_iload hx hb dL_law__1078 (lv_at hl 4 rfl) ?_
  refine lv_iconst (v := (1 : Int32)) hx hb dL_law__1080 (by decide) ?_
  refine lv_iadd hx hb dL_law__1081 ?_
  obtain ⟨b1, h⟩ := rd_some h
  obtain ⟨z2, ez2, h⟩ := lt_some h
  refine va_sld hx hb hX hbl hbA hw.2.2 b1 dL_law__1082 ?_
  refine lv_eqi ez2 ?_
  refine lv_aload_n hx hb dL_law__1083 rfl (lv_at hl 3 rfl) ?_
  obtain ⟨o3, V8, h6, h⟩ := ob_I_some h
  obtain ⟨⟨y5, w4⟩, h7, h⟩ := ob_R_some h
  have h := dt2_eq h
  refine o_SH (n := 3) (As := [.ref (G.2.2 0), .int z2, .ref oa]) E hw (kL_lodger (l := l) (G := G) (Z := Z) (oa := oa) ht h6 h7) yw_L_lodger lw_ini lm_RL_182 ⟨by decide, by decide, by decide +kernel⟩ rfl hl.1 (by decide) (hfc 2 (by decide)) (by decide) rfl (Nat.le_of_ble_eq_true rfl) dL_law__1084 (fun H locs hw => ?_)
  refine lv_istore (lv' := [(5, .int y5), (0, .ref b), (1, .ref (G.2.2 0)), (2, .ref (G.2.2 22)), (3, .ref oa), (4, .int u4)]) hx hb dL_law__1087 hl (by decide) rfl (fun ls hl => ?_)
  refine lv_aload_n hx hb dL_law__1089 rfl (lv_at hl 3 rfl) ?_
  refine lv_aload_n hx hb dL_law__1090 rfl (lv_at hl 1 rfl) ?_
  refine lv_iload hx hb dL_law__1091 (lv_at hl 5 rfl) ?_
  refine lv_iconst (v := (1 : Int32)) hx hb dL_law__1093 (by decide) ?_
  refine lv_iadd hx hb dL_law__1094 ?_
  obtain ⟨b9, h⟩ := rd_some h
  obtain ⟨z10, ez10, h⟩ := lt_some h
  refine va_sld hx hb hX hbl hbA hw.2.2 b9 dL_law__1095 ?_
  refine lv_eqi ez10 ?_
  obtain ⟨y12, V13, h11, h⟩ := ob_I_some h
  refine o_VI (As := [.int z10]) E hw (kX10_lodger (l := l) (G := G) (SG_ok Z) h11) yy_X10_lodger lm_RL_184 rfl (by decide) rfl rfl hl.1 (by decide) (hf0 (by omega) (by omega)) (by decide) rfl (Nat.le_of_ble_eq_true rfl) dL_law__1096 (fun H locs hw => ?_)
  refine lv_istore (lv' := [(6, .int y12), (5, .int y5), (0, .ref b), (1, .ref (G.2.2 0)), (2, .ref (G.2.2 22)), (3, .ref oa), (4, .int u4)]) hx hb dL_law__1099 hl (by decide) rfl (fun ls hl => ?_)
  refine lv_aload_n hx hb dL_law__1101 rfl (lv_at hl 4 rfl) ?_
  obtain ⟨y15, h14, h⟩ := ob_R_some h
  refine o_VI (As := []) E hw (kX10_thrown (l := l) (G := G) (SG_ok Z) h14) yy_X10_thrown lm_RL_141 rfl (by decide) rfl rfl hl.1 (by decide) (hf0 (by omega) (by omega)) (by decide) rfl (Nat.le_of_ble_eq_true rfl) dL_law__1102 (fun H locs hw => ?_)
  refine lv_iload hx hb dL_law__1105 (lv_at hl 1 rfl) ?_
  refine lv_icmp_eq (tgt := 1112) hx hb dL_law__1107 (by decide) (fun c20 => ?_) (fun c20 => ?_)
  · rw [if_pos c20] at h
    refine lv_iload hx hb dL_law__1112 (lv_at hl 1 rfl) ?_
    refine lv_if_ne (tgt := 1129) hx hb dL_law__1114 (by decide) (fun c19 => ?_) (fun c19 => ?_)
    · rw [if_neg c19] at h
      refine lv_goto (tgt := 2599) hx hb dL_law__1129 (by decide) ?_
      obtain ⟨y16, ey16, h⟩ := lt_some h
      refine lv_iinc (v := y16) (lv' := [(4, .int y16), (6, .int y12), (5, .int y5), (0, .ref b), (1, .ref (G.2.2 0)), (2, .ref (G.2.2 22)), (3, .ref oa)]) hx hb dL_law__2599 hl (k := 6) rfl (by rw [ey16]; rfl) (by decide) rfl (fun ls hl => ?_)
      refine lv_goto (tgt := 23) hx hb dL_law__2602 (by decide) ?_
      subst ey16
      exact kc V13 w4 (Option.some.inj h).symm H locs ls _ _ hw (lv_sub hl [3, 4, 5, 6, 0] rfl) (by omega) (by omega)
    · rw [if_pos c19] at h
      refine lv_aload_n hx hb dL_law__1117 rfl (lv_at hl 5 rfl) ?_
      refine lv_iconst (v := (0 : Int32)) hx hb dL_law__1118 (by decide) ?_
      refine o_ll E hw vp_0_1 dL_law__1119 ?_
      refine lv_iload hx hb dL_law__1120 (lv_at hl 0 rfl) ?_
      refine lv_i2l hx hb dL_law__1122 rfl ?_
      refine W.lcmp hx hb dL_law__1123 ?_
      refine lv_if_eq (tgt := 1129) hx hb dL_law__1124 (by decide) (fun c18 => ?_) (fun c18 => ?_)
      · rw [if_pos c18] at h
        refine lv_goto (tgt := 2599) hx hb dL_law__1129 (by decide) ?_
        obtain ⟨y17, ey17, h⟩ := lt_some h
        refine lv_iinc (v := y17) (lv' := [(4, .int y17), (6, .int y12), (5, .int y5), (0, .ref b), (1, .ref (G.2.2 0)), (2, .ref (G.2.2 22)), (3, .ref oa)]) hx hb dL_law__2599 hl (k := 6) rfl (by rw [ey17]; rfl) (by decide) rfl (fun ls hl => ?_)
        refine lv_goto (tgt := 23) hx hb dL_law__2602 (by decide) ?_
        subst ey17
        exact kc V13 w4 (Option.some.inj h).symm H locs ls _ _ hw (lv_sub hl [3, 4, 5, 6, 0] rfl) (by omega) (by omega)
      · rw [if_neg c18] at h
        refine lv_iconst (v := (0 : Int32)) hx hb dL_law__1127 (by decide) ?_
        exact absurd (k1 _ (Option.some.inj h).symm) (by decide)
  · rw [if_neg c20] at h
    refine lv_iconst (v := (0 : Int32)) hx hb dL_law__1110 (by decide) ?_
    exact absurd (k1 _ (Option.some.inj h).symm) (by decide)
theorem dL_law__1132 : decode cL_law_ 1132 = .ok (.aload_n 1, 1) := by decide +kernel
theorem dL_law__1133 : decode cL_law_ 1133 = .ok (.aload_n 0, 1) := by decide +kernel
theorem dL_law__1134 : decode cL_law_ 1134 = .ok (.iload 4, 2) := by decide +kernel
theorem dL_law__1136 : decode cL_law_ 1136 = .ok (.iconst 1, 1) := by decide +kernel
theorem dL_law__1137 : decode cL_law_ 1137 = .ok (.iadd, 1) := by decide +kernel
theorem dL_law__1138 : decode cL_law_ 1138 = .ok (.iaload, 1) := by decide +kernel
theorem dL_law__1139 : decode cL_law_ 1139 = .ok (.aload_n 3, 1) := by decide +kernel
theorem dL_law__1140 : decode cL_law_ 1140 = .ok (.invokestatic 185, 3) := by decide +kernel
theorem dL_law__1143 : decode cL_law_ 1143 = .ok (.istore 5, 2) := by decide +kernel
theorem dL_law__1145 : decode cL_law_ 1145 = .ok (.aload_n 2, 1) := by decide +kernel
theorem dL_law__1146 : decode cL_law_ 1146 = .ok (.aload_n 0, 1) := by decide +kernel
theorem dL_law__1147 : decode cL_law_ 1147 = .ok (.iload 4, 2) := by decide +kernel
theorem dL_law__1149 : decode cL_law_ 1149 = .ok (.iconst 1, 1) := by decide +kernel
theorem dL_law__1150 : decode cL_law_ 1150 = .ok (.iadd, 1) := by decide +kernel
theorem dL_law__1151 : decode cL_law_ 1151 = .ok (.iaload, 1) := by decide +kernel
theorem dL_law__1152 : decode cL_law_ 1152 = .ok (.invokevirtual 187, 3) := by decide +kernel
theorem dL_law__1155 : decode cL_law_ 1155 = .ok (.istore 6, 2) := by decide +kernel
theorem dL_law__1157 : decode cL_law_ 1157 = .ok (.aload_n 2, 1) := by decide +kernel
theorem dL_law__1158 : decode cL_law_ 1158 = .ok (.invokevirtual 141, 3) := by decide +kernel
theorem dL_law__1161 : decode cL_law_ 1161 = .ok (.iload 5, 2) := by decide +kernel
theorem dL_law__1163 : decode cL_law_ 1163 = .ok (.if_icmp .eq 5, 3) := by decide +kernel
theorem dL_law__1166 : decode cL_law_ 1166 = .ok (.iconst 0, 1) := by decide +kernel
theorem dL_law__1167 : decode cL_law_ 1167 = .ok (.ireturn, 1) := by decide +kernel
theorem dL_law__1168 : decode cL_law_ 1168 = .ok (.iload 5, 2) := by decide +kernel
theorem dL_law__1170 : decode cL_law_ 1170 = .ok (.ifCond .ne 15, 3) := by decide +kernel
theorem dL_law__1173 : decode cL_law_ 1173 = .ok (.aload_n 3, 1) := by decide +kernel
theorem dL_law__1174 : decode cL_law_ 1174 = .ok (.iconst 0, 1) := by decide +kernel
theorem dL_law__1175 : decode cL_law_ 1175 = .ok (.laload, 1) := by decide +kernel
theorem dL_law__1176 : decode cL_law_ 1176 = .ok (.iload 6, 2) := by decide +kernel
theorem dL_law__1178 : decode cL_law_ 1178 = .ok (.i2l, 1) := by decide +kernel
theorem dL_law__1179 : decode cL_law_ 1179 = .ok (.lcmp, 1) := by decide +kernel
theorem dL_law__1180 : decode cL_law_ 1180 = .ok (.ifCond .eq 5, 3) := by decide +kernel
theorem dL_law__1183 : decode cL_law_ 1183 = .ok (.iconst 0, 1) := by decide +kernel
theorem dL_law__1184 : decode cL_law_ 1184 = .ok (.ireturn, 1) := by decide +kernel
theorem dL_law__1185 : decode cL_law_ 1185 = .ok (.goto 1414, 3) := by decide +kernel
/-! opcode 15 -/
noncomputable def fL_c15 (xs : Nat → Int32) (L : Nat) (V : VT) (ov : Nat → Int64) (u4 : Int32) : Option ((VT × (Nat → Int64) × Int32) ⊕ Int32) := rd_ (u4 + (1 : Int32)) L (lt_ (xs (u4 + (1 : Int32)).toNatClampNeg) fun z2 => ob_I (fX9_days V z2) fun o3 V8 => ob_R (hL_days o3 ov) fun qy5 => dt2_ qy5 fun y5 w4 => rd_ (u4 + (1 : Int32)) L (lt_ (xs (u4 + (1 : Int32)).toNatClampNeg) fun z10 => ob_I (fX10_days V8 z10) fun y12 V13 => ob_R (fX10_thrown V13 ) fun y15 => if y15 = y5 then (if y5 = 0 then (if (lg_cmp (w4 ((0 : Int32).toNatClampNeg)) y12.toInt64) = 0 then (lt_ (u4 + (6 : Int32)) fun y17 => some (.inl (V13, w4, y17))) else (some (.inr (0 : Int32)))) else (lt_ (u4 + (6 : Int32)) fun y16 => some (.inl (V13, w4, y16)))) else (some (.inr (0 : Int32)))))
set_option maxHeartbeats 4000000 in
set_option maxRecDepth 100000 in
theorem wL_c15 {p : Program} {l : Launch} {e : Env} {s : State} {m : MethodId} {args : Array Value} {below : List Frame} {meth : Method} {c : Code} {G : GT} {Z : Nat → Nat × Nat} {oa b L : Nat} {xs : Nat → Int32} {Q : State → Prop} (E : EO p s m args c meth cL_law_ 7 RL (some .boolean) G (SH Z) oa) (ht : l.stackTraces = false) (hX : va_X b L xs s s.heap) (hbl : b < s.heap.size) (hbA : ¬ gO G oa s.heap.size b) (hL : L ≤ 3072) {C0 S0 : Nat} (hC0 : C0 ≤ 100000) (hS0 : S0 ≤ 1000000) {V : VT} {ov : Nat → Int64} {u4 : Int32} {r : ((VT × (Nat → Int64) × Int32) ⊕ Int32)} (h : fL_c15 xs L V ov u4 = some r) (k1 : ∀ y, r = .inr y → y = 1) (kc : ∀ (V2 : VT) (ov2 : Nat → Int64), r = .inl (V2, ov2, u4 + 6) → ∀ (H : Heap) (locs : List Loc) (ls : Array Slot) (cells slots : Nat), HO G oa s.heap (V2) (ov2) H locs → lv_has ls 7 [(0, .ref b), (1, .ref (G.2.2 0)), (2, .ref (G.2.2 22)), (3, .ref oa), (4, .int (u4 + 6))] → cells ≤ C0 + 3 → slots ≤ S0 + 18 → W p l e room_1 s m args below meth c H locs cells slots Q (F0 m 23 ls [])) {H : Heap} {locs : List Loc} {ls : Array Slot} {cells slots : Nat} (hw : HO G oa s.heap V ov H locs) (hl : lv_has ls 7 [(0, .ref b), (1, .ref (G.2.2 0)), (2, .ref (G.2.2 22)), (3, .ref oa), (4, .int u4)]) (hce : cells ≤ C0) (hsl : slots ≤ S0) : W p l e room_1 s m args below meth c H locs cells slots Q (F0 m 1132 ls []) := by
  have hx := E.1
  have hb := E.2.1
  have hfc : ∀ K : Nat, K ≤ 3 → cells + K ≤ room_1.cells ∧ slots + 6 * K ≤ room_1.slots := fun K hK => ⟨by show cells + K ≤ 601024; omega, by show slots + 6 * K ≤ 7293034; omega⟩
  have hf0 : ∀ {c9 s9 : Nat}, c9 ≤ C0 + 3 → s9 ≤ S0 + 18 → c9 ≤ room_1.cells ∧ s9 ≤ room_1.slots := fun h1 h2 => ⟨by show _ ≤ 601024; omega, by show _ ≤ 7293034; omega⟩
  unfold fL_c15 at h
  refine lv_aload_n hx hb dL_law__1132 rfl (lv_at hl 1 rfl) ?_
  refine lv_aload_n hx hb dL_law__1133 rfl (lv_at hl 0 rfl) ?_
  refine lv_iload hx hb dL_law__1134 (lv_at hl 4 rfl) ?_
  refine lv_iconst (v := (1 : Int32)) hx hb dL_law__1136 (by decide) ?_
  refine lv_iadd hx hb dL_law__1137 ?_
  obtain ⟨b1, h⟩ := rd_some h
  obtain ⟨z2, ez2, h⟩ := lt_some h
  refine va_sld hx hb hX hbl hbA hw.2.2 b1 dL_law__1138 ?_
  refine lv_eqi ez2 ?_
  refine lv_aload_n hx hb dL_law__1139 rfl (lv_at hl 3 rfl) ?_
  obtain ⟨o3, V8, h6, h⟩ := ob_I_some h
  obtain ⟨⟨y5, w4⟩, h7, h⟩ := ob_R_some h
  have h := dt2_eq h
  refine o_SH (n := 3) (As := [.ref (G.2.2 0), .int z2, .ref oa]) E hw (kL_days (l := l) (G := G) (Z := Z) (oa := oa) ht h6 h7) yw_L_days lw_ini lm_RL_185 ⟨by decide, by decide, by decide +kernel⟩ rfl hl.1 (by decide) (hfc 1 (by decide)) (by decide) rfl (Nat.le_of_ble_eq_true rfl) dL_law__1140 (fun H locs hw => ?_)
  refine lv_istore (lv' := [(5, .int y5), (0, .ref b), (1, .ref (G.2.2 0)), (2, .ref (G.2.2 22)), (3, .ref oa), (4, .int u4)]) hx hb dL_law__1143 hl (by decide) rfl (fun ls hl => ?_)
  refine lv_aload_n hx hb dL_law__1145 rfl (lv_at hl 3 rfl) ?_
  refine lv_aload_n hx hb dL_law__1146 rfl (lv_at hl 1 rfl) ?_
  refine lv_iload hx hb dL_law__1147 (lv_at hl 5 rfl) ?_
  refine lv_iconst (v := (1 : Int32)) hx hb dL_law__1149 (by decide) ?_
  refine lv_iadd hx hb dL_law__1150 ?_
  obtain ⟨b9, h⟩ := rd_some h
  obtain ⟨z10, ez10, h⟩ := lt_some h
  refine va_sld hx hb hX hbl hbA hw.2.2 b9 dL_law__1151 ?_
  refine lv_eqi ez10 ?_
  obtain ⟨y12, V13, h11, h⟩ := ob_I_some h
  refine o_VI (As := [.int z10]) E hw (kX10_days (l := l) (G := G) (SG_ok Z) h11) yy_X10_days lm_RL_187 rfl (by decide) rfl rfl hl.1 (by decide) (hf0 (by omega) (by omega)) (by decide) rfl (Nat.le_of_ble_eq_true rfl) dL_law__1152 (fun H locs hw => ?_)
  refine lv_istore (lv' := [(6, .int y12), (5, .int y5), (0, .ref b), (1, .ref (G.2.2 0)), (2, .ref (G.2.2 22)), (3, .ref oa), (4, .int u4)]) hx hb dL_law__1155 hl (by decide) rfl (fun ls hl => ?_)
  refine lv_aload_n hx hb dL_law__1157 rfl (lv_at hl 4 rfl) ?_
  obtain ⟨y15, h14, h⟩ := ob_R_some h
  refine o_VI (As := []) E hw (kX10_thrown (l := l) (G := G) (SG_ok Z) h14) yy_X10_thrown lm_RL_141 rfl (by decide) rfl rfl hl.1 (by decide) (hf0 (by omega) (by omega)) (by decide) rfl (Nat.le_of_ble_eq_true rfl) dL_law__1158 (fun H locs hw => ?_)
  refine lv_iload hx hb dL_law__1161 (lv_at hl 1 rfl) ?_
  refine lv_icmp_eq (tgt := 1168) hx hb dL_law__1163 (by decide) (fun c20 => ?_) (fun c20 => ?_)
  · rw [if_pos c20] at h
    refine lv_iload hx hb dL_law__1168 (lv_at hl 1 rfl) ?_
    refine lv_if_ne (tgt := 1185) hx hb dL_law__1170 (by decide) (fun c19 => ?_) (fun c19 => ?_)
    · rw [if_neg c19] at h
      refine lv_goto (tgt := 2599) hx hb dL_law__1185 (by decide) ?_
      obtain ⟨y16, ey16, h⟩ := lt_some h
      refine lv_iinc (v := y16) (lv' := [(4, .int y16), (6, .int y12), (5, .int y5), (0, .ref b), (1, .ref (G.2.2 0)), (2, .ref (G.2.2 22)), (3, .ref oa)]) hx hb dL_law__2599 hl (k := 6) rfl (by rw [ey16]; rfl) (by decide) rfl (fun ls hl => ?_)
      refine lv_goto (tgt := 23) hx hb dL_law__2602 (by decide) ?_
      subst ey16
      exact kc V13 w4 (Option.some.inj h).symm H locs ls _ _ hw (lv_sub hl [3, 4, 5, 6, 0] rfl) (by omega) (by omega)
    · rw [if_pos c19] at h
      refine lv_aload_n hx hb dL_law__1173 rfl (lv_at hl 5 rfl) ?_
      refine lv_iconst (v := (0 : Int32)) hx hb dL_law__1174 (by decide) ?_
      refine o_ll E hw vp_0_1 dL_law__1175 ?_
      refine lv_iload hx hb dL_law__1176 (lv_at hl 0 rfl) ?_
      refine lv_i2l hx hb dL_law__1178 rfl ?_
      refine W.lcmp hx hb dL_law__1179 ?_
      refine lv_if_eq (tgt := 1185) hx hb dL_law__1180 (by decide) (fun c18 => ?_) (fun c18 => ?_)
      · rw [if_pos c18] at h
        refine lv_goto (tgt := 2599) hx hb dL_law__1185 (by decide) ?_
        obtain ⟨y17, ey17, h⟩ := lt_some h
        refine lv_iinc (v := y17) (lv' := [(4, .int y17), (6, .int y12), (5, .int y5), (0, .ref b), (1, .ref (G.2.2 0)), (2, .ref (G.2.2 22)), (3, .ref oa)]) hx hb dL_law__2599 hl (k := 6) rfl (by rw [ey17]; rfl) (by decide) rfl (fun ls hl => ?_)
        refine lv_goto (tgt := 23) hx hb dL_law__2602 (by decide) ?_
        subst ey17
        exact kc V13 w4 (Option.some.inj h).symm H locs ls _ _ hw (lv_sub hl [3, 4, 5, 6, 0] rfl) (by omega) (by omega)
      · rw [if_neg c18] at h
        refine lv_iconst (v := (0 : Int32)) hx hb dL_law__1183 (by decide) ?_
        exact absurd (k1 _ (Option.some.inj h).symm) (by decide)
  · rw [if_neg c20] at h
    refine lv_iconst (v := (0 : Int32)) hx hb dL_law__1166 (by decide) ?_
    exact absurd (k1 _ (Option.some.inj h).symm) (by decide)
theorem dL_law__1188 : decode cL_law_ 1188 = .ok (.aload_n 1, 1) := by decide +kernel
theorem dL_law__1189 : decode cL_law_ 1189 = .ok (.aload_n 0, 1) := by decide +kernel
theorem dL_law__1190 : decode cL_law_ 1190 = .ok (.iload 4, 2) := by decide +kernel
theorem dL_law__1192 : decode cL_law_ 1192 = .ok (.iconst 1, 1) := by decide +kernel
theorem dL_law__1193 : decode cL_law_ 1193 = .ok (.iadd, 1) := by decide +kernel
theorem dL_law__1194 : decode cL_law_ 1194 = .ok (.iaload, 1) := by decide +kernel
theorem dL_law__1195 : decode cL_law_ 1195 = .ok (.aload_n 0, 1) := by decide +kernel
theorem dL_law__1196 : decode cL_law_ 1196 = .ok (.iload 4, 2) := by decide +kernel
theorem dL_law__1198 : decode cL_law_ 1198 = .ok (.iconst 2, 1) := by decide +kernel
theorem dL_law__1199 : decode cL_law_ 1199 = .ok (.iadd, 1) := by decide +kernel
theorem dL_law__1200 : decode cL_law_ 1200 = .ok (.iaload, 1) := by decide +kernel
theorem dL_law__1201 : decode cL_law_ 1201 = .ok (.aload_n 3, 1) := by decide +kernel
theorem dL_law__1202 : decode cL_law_ 1202 = .ok (.invokestatic 188, 3) := by decide +kernel
theorem dL_law__1205 : decode cL_law_ 1205 = .ok (.istore 5, 2) := by decide +kernel
theorem dL_law__1207 : decode cL_law_ 1207 = .ok (.aload_n 2, 1) := by decide +kernel
theorem dL_law__1208 : decode cL_law_ 1208 = .ok (.aload_n 0, 1) := by decide +kernel
theorem dL_law__1209 : decode cL_law_ 1209 = .ok (.iload 4, 2) := by decide +kernel
theorem dL_law__1211 : decode cL_law_ 1211 = .ok (.iconst 1, 1) := by decide +kernel
theorem dL_law__1212 : decode cL_law_ 1212 = .ok (.iadd, 1) := by decide +kernel
theorem dL_law__1213 : decode cL_law_ 1213 = .ok (.iaload, 1) := by decide +kernel
theorem dL_law__1214 : decode cL_law_ 1214 = .ok (.aload_n 0, 1) := by decide +kernel
theorem dL_law__1215 : decode cL_law_ 1215 = .ok (.iload 4, 2) := by decide +kernel
theorem dL_law__1217 : decode cL_law_ 1217 = .ok (.iconst 2, 1) := by decide +kernel
theorem dL_law__1218 : decode cL_law_ 1218 = .ok (.iadd, 1) := by decide +kernel
theorem dL_law__1219 : decode cL_law_ 1219 = .ok (.iaload, 1) := by decide +kernel
theorem dL_law__1220 : decode cL_law_ 1220 = .ok (.invokevirtual 190, 3) := by decide +kernel
theorem dL_law__1223 : decode cL_law_ 1223 = .ok (.istore 6, 2) := by decide +kernel
theorem dL_law__1225 : decode cL_law_ 1225 = .ok (.aload_n 2, 1) := by decide +kernel
theorem dL_law__1226 : decode cL_law_ 1226 = .ok (.invokevirtual 141, 3) := by decide +kernel
theorem dL_law__1229 : decode cL_law_ 1229 = .ok (.iload 5, 2) := by decide +kernel
theorem dL_law__1231 : decode cL_law_ 1231 = .ok (.if_icmp .eq 5, 3) := by decide +kernel
theorem dL_law__1234 : decode cL_law_ 1234 = .ok (.iconst 0, 1) := by decide +kernel
theorem dL_law__1235 : decode cL_law_ 1235 = .ok (.ireturn, 1) := by decide +kernel
theorem dL_law__1236 : decode cL_law_ 1236 = .ok (.iload 5, 2) := by decide +kernel
theorem dL_law__1238 : decode cL_law_ 1238 = .ok (.ifCond .ne 15, 3) := by decide +kernel
theorem dL_law__1241 : decode cL_law_ 1241 = .ok (.aload_n 3, 1) := by decide +kernel
theorem dL_law__1242 : decode cL_law_ 1242 = .ok (.iconst 0, 1) := by decide +kernel
theorem dL_law__1243 : decode cL_law_ 1243 = .ok (.laload, 1) := by decide +kernel
theorem dL_law__1244 : decode cL_law_ 1244 = .ok (.iload 6, 2) := by decide +kernel
theorem dL_law__1246 : decode cL_law_ 1246 = .ok (.i2l, 1) := by decide +kernel
theorem dL_law__1247 : decode cL_law_ 1247 = .ok (.lcmp, 1) := by decide +kernel
theorem dL_law__1248 : decode cL_law_ 1248 = .ok (.ifCond .eq 5, 3) := by decide +kernel
theorem dL_law__1251 : decode cL_law_ 1251 = .ok (.iconst 0, 1) := by decide +kernel
theorem dL_law__1252 : decode cL_law_ 1252 = .ok (.ireturn, 1) := by decide +kernel
theorem dL_law__1253 : decode cL_law_ 1253 = .ok (.goto 1346, 3) := by decide +kernel
/-! opcode 16 -/
noncomputable def fL_c16 (xs : Nat → Int32) (L : Nat) (V : VT) (ov : Nat → Int64) (u4 : Int32) : Option ((VT × (Nat → Int64) × Int32) ⊕ Int32) := rd_ (u4 + (1 : Int32)) L (lt_ (xs (u4 + (1 : Int32)).toNatClampNeg) fun z2 => rd_ (u4 + (2 : Int32)) L (lt_ (xs (u4 + (2 : Int32)).toNatClampNeg) fun z4 => ob_I (fX9_witnesses V z2 z4) fun o5 V10 => ob_R (hL_witnesses o5 ov) fun qy7 => dt2_ qy7 fun y7 w6 => rd_ (u4 + (1 : Int32)) L (lt_ (xs (u4 + (1 : Int32)).toNatClampNeg) fun z12 => rd_ (u4 + (2 : Int32)) L (lt_ (xs (u4 + (2 : Int32)).toNatClampNeg) fun z14 => ob_I (fX10_witnesses V10 z12 z14) fun y16 V17 => ob_R (fX10_thrown V17 ) fun y19 => if y19 = y7 then (if y7 = 0 then (if (lg_cmp (w6 ((0 : Int32).toNatClampNeg)) y16.toInt64) = 0 then (lt_ (u4 + (6 : Int32)) fun y21 => some (.inl (V17, w6, y21))) else (some (.inr (0 : Int32)))) else (lt_ (u4 + (6 : Int32)) fun y20 => some (.inl (V17, w6, y20)))) else (some (.inr (0 : Int32)))))))
set_option maxHeartbeats 4000000 in
set_option maxRecDepth 100000 in
theorem wL_c16 {p : Program} {l : Launch} {e : Env} {s : State} {m : MethodId} {args : Array Value} {below : List Frame} {meth : Method} {c : Code} {G : GT} {Z : Nat → Nat × Nat} {oa b L : Nat} {xs : Nat → Int32} {Q : State → Prop} (E : EO p s m args c meth cL_law_ 7 RL (some .boolean) G (SH Z) oa) (ht : l.stackTraces = false) (hX : va_X b L xs s s.heap) (hbl : b < s.heap.size) (hbA : ¬ gO G oa s.heap.size b) (hL : L ≤ 3072) {C0 S0 : Nat} (hC0 : C0 ≤ 100000) (hS0 : S0 ≤ 1000000) {V : VT} {ov : Nat → Int64} {u4 : Int32} {r : ((VT × (Nat → Int64) × Int32) ⊕ Int32)} (h : fL_c16 xs L V ov u4 = some r) (k1 : ∀ y, r = .inr y → y = 1) (kc : ∀ (V2 : VT) (ov2 : Nat → Int64), r = .inl (V2, ov2, u4 + 6) → ∀ (H : Heap) (locs : List Loc) (ls : Array Slot) (cells slots : Nat), HO G oa s.heap (V2) (ov2) H locs → lv_has ls 7 [(0, .ref b), (1, .ref (G.2.2 0)), (2, .ref (G.2.2 22)), (3, .ref oa), (4, .int (u4 + 6))] → cells ≤ C0 + 3 → slots ≤ S0 + 18 → W p l e room_1 s m args below meth c H locs cells slots Q (F0 m 23 ls [])) {H : Heap} {locs : List Loc} {ls : Array Slot} {cells slots : Nat} (hw : HO G oa s.heap V ov H locs) (hl : lv_has ls 7 [(0, .ref b), (1, .ref (G.2.2 0)), (2, .ref (G.2.2 22)), (3, .ref oa), (4, .int u4)]) (hce : cells ≤ C0) (hsl : slots ≤ S0) : W p l e room_1 s m args below meth c H locs cells slots Q (F0 m 1188 ls []) := by
  have hx := E.1
  have hb := E.2.1
  have hfc : ∀ K : Nat, K ≤ 3 → cells + K ≤ room_1.cells ∧ slots + 6 * K ≤ room_1.slots := fun K hK => ⟨by show cells + K ≤ 601024; omega, by show slots + 6 * K ≤ 7293034; omega⟩
  have hf0 : ∀ {c9 s9 : Nat}, c9 ≤ C0 + 3 → s9 ≤ S0 + 18 → c9 ≤ room_1.cells ∧ s9 ≤ room_1.slots := fun h1 h2 => ⟨by show _ ≤ 601024; omega, by show _ ≤ 7293034; omega⟩
  unfold fL_c16 at h
  refine lv_aload_n hx hb dL_law__1188 rfl (lv_at hl 1 rfl) ?_
  refine lv_aload_n hx hb dL_law__1189 rfl (lv_at hl 0 rfl) ?_
  refine lv_iload hx hb dL_law__1190 (lv_at hl 4 rfl) ?_
  refine lv_iconst (v := (1 : Int32)) hx hb dL_law__1192 (by decide) ?_
  refine lv_iadd hx hb dL_law__1193 ?_
  obtain ⟨b1, h⟩ := rd_some h
  obtain ⟨z2, ez2, h⟩ := lt_some h
  refine va_sld hx hb hX hbl hbA hw.2.2 b1 dL_law__1194 ?_
  refine lv_eqi ez2 ?_
  refine lv_aload_n hx hb dL_law__1195 rfl (lv_at hl 0 rfl) ?_
  refine lv_iload hx hb dL_law__1196 (lv_at hl 4 rfl) ?_
  refine lv_iconst (v := (2 : Int32)) hx hb dL_law__1198 (by decide) ?_
  refine lv_iadd hx hb dL_law__1199 ?_
  obtain ⟨b3, h⟩ := rd_some h
  obtain ⟨z4, ez4, h⟩ := lt_some h
  refine va_sld hx hb hX hbl hbA hw.2.2 b3 dL_law__1200 ?_
  refine lv_eqi ez4 ?_
  refine lv_aload_n hx hb dL_law__1201 rfl (lv_at hl 3 rfl) ?_
  obtain ⟨o5, V10, h8, h⟩ := ob_I_some h
  obtain ⟨⟨y7, w6⟩, h9, h⟩ := ob_R_some h
  have h := dt2_eq h
  refine o_SH (n := 4) (As := [.ref (G.2.2 0), .int z2, .int z4, .ref oa]) E hw (kL_witnesses (l := l) (G := G) (Z := Z) (oa := oa) ht h8 h9) yw_L_witnesses lw_ini lm_RL_188 ⟨by decide, by decide, by decide +kernel⟩ rfl hl.1 (by decide) (hfc 2 (by decide)) (by decide) rfl (Nat.le_of_ble_eq_true rfl) dL_law__1202 (fun H locs hw => ?_)
  refine lv_istore (lv' := [(5, .int y7), (0, .ref b), (1, .ref (G.2.2 0)), (2, .ref (G.2.2 22)), (3, .ref oa), (4, .int u4)]) hx hb dL_law__1205 hl (by decide) rfl (fun ls hl => ?_)
  refine lv_aload_n hx hb dL_law__1207 rfl (lv_at hl 3 rfl) ?_
  refine lv_aload_n hx hb dL_law__1208 rfl (lv_at hl 1 rfl) ?_
  refine lv_iload hx hb dL_law__1209 (lv_at hl 5 rfl) ?_
  refine lv_iconst (v := (1 : Int32)) hx hb dL_law__1211 (by decide) ?_
  refine lv_iadd hx hb dL_law__1212 ?_
  obtain ⟨b11, h⟩ := rd_some h
  obtain ⟨z12, ez12, h⟩ := lt_some h
  refine va_sld hx hb hX hbl hbA hw.2.2 b11 dL_law__1213 ?_
  refine lv_eqi ez12 ?_
  refine lv_aload_n hx hb dL_law__1214 rfl (lv_at hl 1 rfl) ?_
  refine lv_iload hx hb dL_law__1215 (lv_at hl 5 rfl) ?_
  refine lv_iconst (v := (2 : Int32)) hx hb dL_law__1217 (by decide) ?_
  refine lv_iadd hx hb dL_law__1218 ?_
  obtain ⟨b13, h⟩ := rd_some h
  obtain ⟨z14, ez14, h⟩ := lt_some h
  refine va_sld hx hb hX hbl hbA hw.2.2 b13 dL_law__1219 ?_
  refine lv_eqi ez14 ?_
  obtain ⟨y16, V17, h15, h⟩ := ob_I_some h
  refine o_VI (As := [.int z12, .int z14]) E hw (kX10_witnesses (l := l) (G := G) (SG_ok Z) h15) yy_X10_witnesses lm_RL_190 rfl (by decide) rfl rfl hl.1 (by decide) (hf0 (by omega) (by omega)) (by decide) rfl (Nat.le_of_ble_eq_true rfl) dL_law__1220 (fun H locs hw => ?_)
  refine lv_istore (lv' := [(6, .int y16), (5, .int y7), (0, .ref b), (1, .ref (G.2.2 0)), (2, .ref (G.2.2 22)), (3, .ref oa), (4, .int u4)]) hx hb dL_law__1223 hl (by decide) rfl (fun ls hl => ?_)
  refine lv_aload_n hx hb dL_law__1225 rfl (lv_at hl 4 rfl) ?_
  obtain ⟨y19, h18, h⟩ := ob_R_some h
  refine o_VI (As := []) E hw (kX10_thrown (l := l) (G := G) (SG_ok Z) h18) yy_X10_thrown lm_RL_141 rfl (by decide) rfl rfl hl.1 (by decide) (hf0 (by omega) (by omega)) (by decide) rfl (Nat.le_of_ble_eq_true rfl) dL_law__1226 (fun H locs hw => ?_)
  refine lv_iload hx hb dL_law__1229 (lv_at hl 1 rfl) ?_
  refine lv_icmp_eq (tgt := 1236) hx hb dL_law__1231 (by decide) (fun c24 => ?_) (fun c24 => ?_)
  · rw [if_pos c24] at h
    refine lv_iload hx hb dL_law__1236 (lv_at hl 1 rfl) ?_
    refine lv_if_ne (tgt := 1253) hx hb dL_law__1238 (by decide) (fun c23 => ?_) (fun c23 => ?_)
    · rw [if_neg c23] at h
      refine lv_goto (tgt := 2599) hx hb dL_law__1253 (by decide) ?_
      obtain ⟨y20, ey20, h⟩ := lt_some h
      refine lv_iinc (v := y20) (lv' := [(4, .int y20), (6, .int y16), (5, .int y7), (0, .ref b), (1, .ref (G.2.2 0)), (2, .ref (G.2.2 22)), (3, .ref oa)]) hx hb dL_law__2599 hl (k := 6) rfl (by rw [ey20]; rfl) (by decide) rfl (fun ls hl => ?_)
      refine lv_goto (tgt := 23) hx hb dL_law__2602 (by decide) ?_
      subst ey20
      exact kc V17 w6 (Option.some.inj h).symm H locs ls _ _ hw (lv_sub hl [3, 4, 5, 6, 0] rfl) (by omega) (by omega)
    · rw [if_pos c23] at h
      refine lv_aload_n hx hb dL_law__1241 rfl (lv_at hl 5 rfl) ?_
      refine lv_iconst (v := (0 : Int32)) hx hb dL_law__1242 (by decide) ?_
      refine o_ll E hw vp_0_1 dL_law__1243 ?_
      refine lv_iload hx hb dL_law__1244 (lv_at hl 0 rfl) ?_
      refine lv_i2l hx hb dL_law__1246 rfl ?_
      refine W.lcmp hx hb dL_law__1247 ?_
      refine lv_if_eq (tgt := 1253) hx hb dL_law__1248 (by decide) (fun c22 => ?_) (fun c22 => ?_)
      · rw [if_pos c22] at h
        refine lv_goto (tgt := 2599) hx hb dL_law__1253 (by decide) ?_
        obtain ⟨y21, ey21, h⟩ := lt_some h
        refine lv_iinc (v := y21) (lv' := [(4, .int y21), (6, .int y16), (5, .int y7), (0, .ref b), (1, .ref (G.2.2 0)), (2, .ref (G.2.2 22)), (3, .ref oa)]) hx hb dL_law__2599 hl (k := 6) rfl (by rw [ey21]; rfl) (by decide) rfl (fun ls hl => ?_)
        refine lv_goto (tgt := 23) hx hb dL_law__2602 (by decide) ?_
        subst ey21
        exact kc V17 w6 (Option.some.inj h).symm H locs ls _ _ hw (lv_sub hl [3, 4, 5, 6, 0] rfl) (by omega) (by omega)
      · rw [if_neg c22] at h
        refine lv_iconst (v := (0 : Int32)) hx hb dL_law__1251 (by decide) ?_
        exact absurd (k1 _ (Option.some.inj h).symm) (by decide)
  · rw [if_neg c24] at h
    refine lv_iconst (v := (0 : Int32)) hx hb dL_law__1234 (by decide) ?_
    exact absurd (k1 _ (Option.some.inj h).symm) (by decide)
theorem dL_law__1256 : decode cL_law_ 1256 = .ok (.aload_n 1, 1) := by decide +kernel
theorem dL_law__1257 : decode cL_law_ 1257 = .ok (.aload_n 0, 1) := by decide +kernel
theorem dL_law__1258 : decode cL_law_ 1258 = .ok (.iload 4, 2) := by decide +kernel
theorem dL_law__1260 : decode cL_law_ 1260 = .ok (.iconst 1, 1) := by decide +kernel
theorem dL_law__1261 : decode cL_law_ 1261 = .ok (.iadd, 1) := by decide +kernel
theorem dL_law__1262 : decode cL_law_ 1262 = .ok (.iaload, 1) := by decide +kernel
theorem dL_law__1263 : decode cL_law_ 1263 = .ok (.aload_n 0, 1) := by decide +kernel
theorem dL_law__1264 : decode cL_law_ 1264 = .ok (.iload 4, 2) := by decide +kernel
theorem dL_law__1266 : decode cL_law_ 1266 = .ok (.iconst 2, 1) := by decide +kernel
theorem dL_law__1267 : decode cL_law_ 1267 = .ok (.iadd, 1) := by decide +kernel
theorem dL_law__1268 : decode cL_law_ 1268 = .ok (.iaload, 1) := by decide +kernel
theorem dL_law__1269 : decode cL_law_ 1269 = .ok (.ifCond .eq 7, 3) := by decide +kernel
theorem dL_law__1272 : decode cL_law_ 1272 = .ok (.iconst 1, 1) := by decide +kernel
theorem dL_law__1273 : decode cL_law_ 1273 = .ok (.goto 4, 3) := by decide +kernel
theorem dL_law__1276 : decode cL_law_ 1276 = .ok (.iconst 0, 1) := by decide +kernel
theorem dL_law__1277 : decode cL_law_ 1277 = .ok (.aload_n 3, 1) := by decide +kernel
theorem dL_law__1278 : decode cL_law_ 1278 = .ok (.invokestatic 191, 3) := by decide +kernel
theorem dL_law__1281 : decode cL_law_ 1281 = .ok (.istore 5, 2) := by decide +kernel
theorem dL_law__1283 : decode cL_law_ 1283 = .ok (.aload_n 2, 1) := by decide +kernel
theorem dL_law__1284 : decode cL_law_ 1284 = .ok (.aload_n 0, 1) := by decide +kernel
theorem dL_law__1285 : decode cL_law_ 1285 = .ok (.iload 4, 2) := by decide +kernel
theorem dL_law__1287 : decode cL_law_ 1287 = .ok (.iconst 1, 1) := by decide +kernel
theorem dL_law__1288 : decode cL_law_ 1288 = .ok (.iadd, 1) := by decide +kernel
theorem dL_law__1289 : decode cL_law_ 1289 = .ok (.iaload, 1) := by decide +kernel
theorem dL_law__1290 : decode cL_law_ 1290 = .ok (.aload_n 0, 1) := by decide +kernel
theorem dL_law__1291 : decode cL_law_ 1291 = .ok (.iload 4, 2) := by decide +kernel
theorem dL_law__1293 : decode cL_law_ 1293 = .ok (.iconst 2, 1) := by decide +kernel
theorem dL_law__1294 : decode cL_law_ 1294 = .ok (.iadd, 1) := by decide +kernel
theorem dL_law__1295 : decode cL_law_ 1295 = .ok (.iaload, 1) := by decide +kernel
theorem dL_law__1296 : decode cL_law_ 1296 = .ok (.ifCond .eq 7, 3) := by decide +kernel
theorem dL_law__1299 : decode cL_law_ 1299 = .ok (.iconst 1, 1) := by decide +kernel
theorem dL_law__1300 : decode cL_law_ 1300 = .ok (.goto 4, 3) := by decide +kernel
theorem dL_law__1303 : decode cL_law_ 1303 = .ok (.iconst 0, 1) := by decide +kernel
theorem dL_law__1304 : decode cL_law_ 1304 = .ok (.invokevirtual 193, 3) := by decide +kernel
theorem dL_law__1307 : decode cL_law_ 1307 = .ok (.istore 6, 2) := by decide +kernel
theorem dL_law__1309 : decode cL_law_ 1309 = .ok (.aload_n 2, 1) := by decide +kernel
theorem dL_law__1310 : decode cL_law_ 1310 = .ok (.invokevirtual 141, 3) := by decide +kernel
theorem dL_law__1313 : decode cL_law_ 1313 = .ok (.iload 5, 2) := by decide +kernel
theorem dL_law__1315 : decode cL_law_ 1315 = .ok (.if_icmp .eq 5, 3) := by decide +kernel
theorem dL_law__1318 : decode cL_law_ 1318 = .ok (.iconst 0, 1) := by decide +kernel
theorem dL_law__1319 : decode cL_law_ 1319 = .ok (.ireturn, 1) := by decide +kernel
theorem dL_law__1320 : decode cL_law_ 1320 = .ok (.iload 5, 2) := by decide +kernel
theorem dL_law__1322 : decode cL_law_ 1322 = .ok (.ifCond .ne 15, 3) := by decide +kernel
theorem dL_law__1325 : decode cL_law_ 1325 = .ok (.aload_n 3, 1) := by decide +kernel
theorem dL_law__1326 : decode cL_law_ 1326 = .ok (.iconst 0, 1) := by decide +kernel
theorem dL_law__1327 : decode cL_law_ 1327 = .ok (.laload, 1) := by decide +kernel
theorem dL_law__1328 : decode cL_law_ 1328 = .ok (.iload 6, 2) := by decide +kernel
theorem dL_law__1330 : decode cL_law_ 1330 = .ok (.i2l, 1) := by decide +kernel
theorem dL_law__1331 : decode cL_law_ 1331 = .ok (.lcmp, 1) := by decide +kernel
theorem dL_law__1332 : decode cL_law_ 1332 = .ok (.ifCond .eq 5, 3) := by decide +kernel
theorem dL_law__1335 : decode cL_law_ 1335 = .ok (.iconst 0, 1) := by decide +kernel
theorem dL_law__1336 : decode cL_law_ 1336 = .ok (.ireturn, 1) := by decide +kernel
theorem dL_law__1337 : decode cL_law_ 1337 = .ok (.goto 1262, 3) := by decide +kernel
/-! opcode 17 -/
noncomputable def fL_c17 (xs : Nat → Int32) (L : Nat) (V : VT) (ov : Nat → Int64) (u4 : Int32) : Option ((VT × (Nat → Int64) × Int32) ⊕ Int32) := rd_ (u4 + (1 : Int32)) L (lt_ (xs (u4 + (1 : Int32)).toNatClampNeg) fun z2 => rd_ (u4 + (2 : Int32)) L (lt_ (xs (u4 + (2 : Int32)).toNatClampNeg) fun z4 => if z4 = 0 then (ob_I (fX9_open V z2 (0 : Int32)) fun o5 V10 => ob_R (hL_open o5 ov) fun qy7 => dt2_ qy7 fun y7 w6 => rd_ (u4 + (1 : Int32)) L (lt_ (xs (u4 + (1 : Int32)).toNatClampNeg) fun z12 => rd_ (u4 + (2 : Int32)) L (lt_ (xs (u4 + (2 : Int32)).toNatClampNeg) fun z14 => if z14 = 0 then (ob_I (fX10_open V10 z12 (0 : Int32)) fun y16 V17 => ob_R (fX10_thrown V17 ) fun y19 => if y19 = y7 then (if y7 = 0 then (if (lg_cmp (w6 ((0 : Int32).toNatClampNeg)) y16.toInt64) = 0 then (lt_ (u4 + (6 : Int32)) fun y21 => some (.inl (V17, w6, y21))) else (some (.inr (0 : Int32)))) else (lt_ (u4 + (6 : Int32)) fun y20 => some (.inl (V17, w6, y20)))) else (some (.inr (0 : Int32)))) else (ob_I (fX10_open V10 z12 (1 : Int32)) fun y26 V27 => ob_R (fX10_thrown V27 ) fun y29 => if y29 = y7 then (if y7 = 0 then (if (lg_cmp (w6 ((0 : Int32).toNatClampNeg)) y26.toInt64) = 0 then (lt_ (u4 + (6 : Int32)) fun y31 => some (.inl (V27, w6, y31))) else (some (.inr (0 : Int32)))) else (lt_ (u4 + (6 : Int32)) fun y30 => some (.inl (V27, w6, y30)))) else (some (.inr (0 : Int32))))))) else (ob_I (fX9_open V z2 (1 : Int32)) fun o36 V41 => ob_R (hL_open o36 ov) fun qy38 => dt2_ qy38 fun y38 w37 => rd_ (u4 + (1 : Int32)) L (lt_ (xs (u4 + (1 : Int32)).toNatClampNeg) fun z43 => rd_ (u4 + (2 : Int32)) L (lt_ (xs (u4 + (2 : Int32)).toNatClampNeg) fun z45 => if z45 = 0 then (ob_I (fX10_open V41 z43 (0 : Int32)) fun y47 V48 => ob_R (fX10_thrown V48 ) fun y50 => if y50 = y38 then (if y38 = 0 then (if (lg_cmp (w37 ((0 : Int32).toNatClampNeg)) y47.toInt64) = 0 then (lt_ (u4 + (6 : Int32)) fun y52 => some (.inl (V48, w37, y52))) else (some (.inr (0 : Int32)))) else (lt_ (u4 + (6 : Int32)) fun y51 => some (.inl (V48, w37, y51)))) else (some (.inr (0 : Int32)))) else (ob_I (fX10_open V41 z43 (1 : Int32)) fun y57 V58 => ob_R (fX10_thrown V58 ) fun y60 => if y60 = y38 then (if y38 = 0 then (if (lg_cmp (w37 ((0 : Int32).toNatClampNeg)) y57.toInt64) = 0 then (lt_ (u4 + (6 : Int32)) fun y62 => some (.inl (V58, w37, y62))) else (some (.inr (0 : Int32)))) else (lt_ (u4 + (6 : Int32)) fun y61 => some (.inl (V58, w37, y61)))) else (some (.inr (0 : Int32)))))))))
set_option maxHeartbeats 4000000 in
set_option maxRecDepth 100000 in
theorem wL_c17 {p : Program} {l : Launch} {e : Env} {s : State} {m : MethodId} {args : Array Value} {below : List Frame} {meth : Method} {c : Code} {G : GT} {Z : Nat → Nat × Nat} {oa b L : Nat} {xs : Nat → Int32} {Q : State → Prop} (E : EO p s m args c meth cL_law_ 7 RL (some .boolean) G (SH Z) oa) (ht : l.stackTraces = false) (hX : va_X b L xs s s.heap) (hbl : b < s.heap.size) (hbA : ¬ gO G oa s.heap.size b) (hL : L ≤ 3072) {C0 S0 : Nat} (hC0 : C0 ≤ 100000) (hS0 : S0 ≤ 1000000) {V : VT} {ov : Nat → Int64} {u4 : Int32} {r : ((VT × (Nat → Int64) × Int32) ⊕ Int32)} (h : fL_c17 xs L V ov u4 = some r) (k1 : ∀ y, r = .inr y → y = 1) (kc : ∀ (V2 : VT) (ov2 : Nat → Int64), r = .inl (V2, ov2, u4 + 6) → ∀ (H : Heap) (locs : List Loc) (ls : Array Slot) (cells slots : Nat), HO G oa s.heap (V2) (ov2) H locs → lv_has ls 7 [(0, .ref b), (1, .ref (G.2.2 0)), (2, .ref (G.2.2 22)), (3, .ref oa), (4, .int (u4 + 6))] → cells ≤ C0 + 3 → slots ≤ S0 + 18 → W p l e room_1 s m args below meth c H locs cells slots Q (F0 m 23 ls [])) {H : Heap} {locs : List Loc} {ls : Array Slot} {cells slots : Nat} (hw : HO G oa s.heap V ov H locs) (hl : lv_has ls 7 [(0, .ref b), (1, .ref (G.2.2 0)), (2, .ref (G.2.2 22)), (3, .ref oa), (4, .int u4)]) (hce : cells ≤ C0) (hsl : slots ≤ S0) : W p l e room_1 s m args below meth c H locs cells slots Q (F0 m 1256 ls []) := by
  have hx := E.1
  have hb := E.2.1
  have hfc : ∀ K : Nat, K ≤ 3 → cells + K ≤ room_1.cells ∧ slots + 6 * K ≤ room_1.slots := fun K hK => ⟨by show cells + K ≤ 601024; omega, by show slots + 6 * K ≤ 7293034; omega⟩
  have hf0 : ∀ {c9 s9 : Nat}, c9 ≤ C0 + 3 → s9 ≤ S0 + 18 → c9 ≤ room_1.cells ∧ s9 ≤ room_1.slots := fun h1 h2 => ⟨by show _ ≤ 601024; omega, by show _ ≤ 7293034; omega⟩
  unfold fL_c17 at h
  refine lv_aload_n hx hb dL_law__1256 rfl (lv_at hl 1 rfl) ?_
  refine lv_aload_n hx hb dL_law__1257 rfl (lv_at hl 0 rfl) ?_
  refine lv_iload hx hb dL_law__1258 (lv_at hl 4 rfl) ?_
  refine lv_iconst (v := (1 : Int32)) hx hb dL_law__1260 (by decide) ?_
  refine lv_iadd hx hb dL_law__1261 ?_
  obtain ⟨b1, h⟩ := rd_some h
  obtain ⟨z2, ez2, h⟩ := lt_some h
  refine va_sld hx hb hX hbl hbA hw.2.2 b1 dL_law__1262 ?_
  refine lv_eqi ez2 ?_
  refine lv_aload_n hx hb dL_law__1263 rfl (lv_at hl 0 rfl) ?_
  refine lv_iload hx hb dL_law__1264 (lv_at hl 4 rfl) ?_
  refine lv_iconst (v := (2 : Int32)) hx hb dL_law__1266 (by decide) ?_
  refine lv_iadd hx hb dL_law__1267 ?_
  obtain ⟨b3, h⟩ := rd_some h
  obtain ⟨z4, ez4, h⟩ := lt_some h
  refine va_sld hx hb hX hbl hbA hw.2.2 b3 dL_law__1268 ?_
  refine lv_eqi ez4 ?_
  refine lv_if_eq (tgt := 1276) hx hb dL_law__1269 (by decide) (fun c67 => ?_) (fun c67 => ?_)
  · rw [if_pos c67] at h
    refine lv_iconst (v := (0 : Int32)) hx hb dL_law__1276 (by decide) ?_
    refine lv_aload_n hx hb dL_law__1277 rfl (lv_at hl 3 rfl) ?_
    obtain ⟨o5, V10, h8, h⟩ := ob_I_some h
    obtain ⟨⟨y7, w6⟩, h9, h⟩ := ob_R_some h
    have h := dt2_eq h
    refine o_SH (n := 4) (As := [.ref (G.2.2 0), .int z2, .int (0 : Int32), .ref oa]) E hw (kL_open (l := l) (G := G) (Z := Z) (oa := oa) ht h8 h9) yw_L_open lw_ini lm_RL_191 ⟨by decide, by decide, by decide +kernel⟩ rfl hl.1 (by decide) (hfc 1 (by decide)) (by decide) rfl (Nat.le_of_ble_eq_true rfl) dL_law__1278 (fun H locs hw => ?_)
    refine lv_istore (lv' := [(5, .int y7), (0, .ref b), (1, .ref (G.2.2 0)), (2, .ref (G.2.2 22)), (3, .ref oa), (4, .int u4)]) hx hb dL_law__1281 hl (by decide) rfl (fun ls hl => ?_)
    refine lv_aload_n hx hb dL_law__1283 rfl (lv_at hl 3 rfl) ?_
    refine lv_aload_n hx hb dL_law__1284 rfl (lv_at hl 1 rfl) ?_
    refine lv_iload hx hb dL_law__1285 (lv_at hl 5 rfl) ?_
    refine lv_iconst (v := (1 : Int32)) hx hb dL_law__1287 (by decide) ?_
    refine lv_iadd hx hb dL_law__1288 ?_
    obtain ⟨b11, h⟩ := rd_some h
    obtain ⟨z12, ez12, h⟩ := lt_some h
    refine va_sld hx hb hX hbl hbA hw.2.2 b11 dL_law__1289 ?_
    refine lv_eqi ez12 ?_
    refine lv_aload_n hx hb dL_law__1290 rfl (lv_at hl 1 rfl) ?_
    refine lv_iload hx hb dL_law__1291 (lv_at hl 5 rfl) ?_
    refine lv_iconst (v := (2 : Int32)) hx hb dL_law__1293 (by decide) ?_
    refine lv_iadd hx hb dL_law__1294 ?_
    obtain ⟨b13, h⟩ := rd_some h
    obtain ⟨z14, ez14, h⟩ := lt_some h
    refine va_sld hx hb hX hbl hbA hw.2.2 b13 dL_law__1295 ?_
    refine lv_eqi ez14 ?_
    refine lv_if_eq (tgt := 1303) hx hb dL_law__1296 (by decide) (fun c35 => ?_) (fun c35 => ?_)
    · rw [if_pos c35] at h
      refine lv_iconst (v := (0 : Int32)) hx hb dL_law__1303 (by decide) ?_
      obtain ⟨y16, V17, h15, h⟩ := ob_I_some h
      refine o_VI (As := [.int z12, .int (0 : Int32)]) E hw (kX10_open (l := l) (G := G) (SG_ok Z) h15) yy_X10_open lm_RL_193 rfl (by decide) rfl rfl hl.1 (by decide) (hf0 (by omega) (by omega)) (by decide) rfl (Nat.le_of_ble_eq_true rfl) dL_law__1304 (fun H locs hw => ?_)
      refine lv_istore (lv' := [(6, .int y16), (5, .int y7), (0, .ref b), (1, .ref (G.2.2 0)), (2, .ref (G.2.2 22)), (3, .ref oa), (4, .int u4)]) hx hb dL_law__1307 hl (by decide) rfl (fun ls hl => ?_)
      refine lv_aload_n hx hb dL_law__1309 rfl (lv_at hl 4 rfl) ?_
      obtain ⟨y19, h18, h⟩ := ob_R_some h
      refine o_VI (As := []) E hw (kX10_thrown (l := l) (G := G) (SG_ok Z) h18) yy_X10_thrown lm_RL_141 rfl (by decide) rfl rfl hl.1 (by decide) (hf0 (by omega) (by omega)) (by decide) rfl (Nat.le_of_ble_eq_true rfl) dL_law__1310 (fun H locs hw => ?_)
      refine lv_iload hx hb dL_law__1313 (lv_at hl 1 rfl) ?_
      refine lv_icmp_eq (tgt := 1320) hx hb dL_law__1315 (by decide) (fun c24 => ?_) (fun c24 => ?_)
      · rw [if_pos c24] at h
        refine lv_iload hx hb dL_law__1320 (lv_at hl 1 rfl) ?_
        refine lv_if_ne (tgt := 1337) hx hb dL_law__1322 (by decide) (fun c23 => ?_) (fun c23 => ?_)
        · rw [if_neg c23] at h
          refine lv_goto (tgt := 2599) hx hb dL_law__1337 (by decide) ?_
          obtain ⟨y20, ey20, h⟩ := lt_some h
          refine lv_iinc (v := y20) (lv' := [(4, .int y20), (6, .int y16), (5, .int y7), (0, .ref b), (1, .ref (G.2.2 0)), (2, .ref (G.2.2 22)), (3, .ref oa)]) hx hb dL_law__2599 hl (k := 6) rfl (by rw [ey20]; rfl) (by decide) rfl (fun ls hl => ?_)
          refine lv_goto (tgt := 23) hx hb dL_law__2602 (by decide) ?_
          subst ey20
          exact kc V17 w6 (Option.some.inj h).symm H locs ls _ _ hw (lv_sub hl [3, 4, 5, 6, 0] rfl) (by omega) (by omega)
        · rw [if_pos c23] at h
          refine lv_aload_n hx hb dL_law__1325 rfl (lv_at hl 5 rfl) ?_
          refine lv_iconst (v := (0 : Int32)) hx hb dL_law__1326 (by decide) ?_
          refine o_ll E hw vp_0_1 dL_law__1327 ?_
          refine lv_iload hx hb dL_law__1328 (lv_at hl 0 rfl) ?_
          refine lv_i2l hx hb dL_law__1330 rfl ?_
          refine W.lcmp hx hb dL_law__1331 ?_
          refine lv_if_eq (tgt := 1337) hx hb dL_law__1332 (by decide) (fun c22 => ?_) (fun c22 => ?_)
          · rw [if_pos c22] at h
            refine lv_goto (tgt := 2599) hx hb dL_law__1337 (by decide) ?_
            obtain ⟨y21, ey21, h⟩ := lt_some h
            refine lv_iinc (v := y21) (lv' := [(4, .int y21), (6, .int y16), (5, .int y7), (0, .ref b), (1, .ref (G.2.2 0)), (2, .ref (G.2.2 22)), (3, .ref oa)]) hx hb dL_law__2599 hl (k := 6) rfl (by rw [ey21]; rfl) (by decide) rfl (fun ls hl => ?_)
            refine lv_goto (tgt := 23) hx hb dL_law__2602 (by decide) ?_
            subst ey21
            exact kc V17 w6 (Option.some.inj h).symm H locs ls _ _ hw (lv_sub hl [3, 4, 5, 6, 0] rfl) (by omega) (by omega)
          · rw [if_neg c22] at h
            refine lv_iconst (v := (0 : Int32)) hx hb dL_law__1335 (by decide) ?_
            exact absurd (k1 _ (Option.some.inj h).symm) (by decide)
      · rw [if_neg c24] at h
        refine lv_iconst (v := (0 : Int32)) hx hb dL_law__1318 (by decide) ?_
        exact absurd (k1 _ (Option.some.inj h).symm) (by decide)
    · rw [if_neg c35] at h
      refine lv_iconst (v := (1 : Int32)) hx hb dL_law__1299 (by decide) ?_
      refine lv_goto (tgt := 1304) hx hb dL_law__1300 (by decide) ?_
      obtain ⟨y26, V27, h25, h⟩ := ob_I_some h
      refine o_VI (As := [.int z12, .int (1 : Int32)]) E hw (kX10_open (l := l) (G := G) (SG_ok Z) h25) yy_X10_open lm_RL_193 rfl (by decide) rfl rfl hl.1 (by decide) (hf0 (by omega) (by omega)) (by decide) rfl (Nat.le_of_ble_eq_true rfl) dL_law__1304 (fun H locs hw => ?_)
      refine lv_istore (lv' := [(6, .int y26), (5, .int y7), (0, .ref b), (1, .ref (G.2.2 0)), (2, .ref (G.2.2 22)), (3, .ref oa), (4, .int u4)]) hx hb dL_law__1307 hl (by decide) rfl (fun ls hl => ?_)
      refine lv_aload_n hx hb dL_law__1309 rfl (lv_at hl 4 rfl) ?_
      obtain ⟨y29, h28, h⟩ := ob_R_some h
      refine o_VI (As := []) E hw (kX10_thrown (l := l) (G := G) (SG_ok Z) h28) yy_X10_thrown lm_RL_141 rfl (by decide) rfl rfl hl.1 (by decide) (hf0 (by omega) (by omega)) (by decide) rfl (Nat.le_of_ble_eq_true rfl) dL_law__1310 (fun H locs hw => ?_)
      refine lv_iload hx hb dL_law__1313 (lv_at hl 1 rfl) ?_
      refine lv_icmp_eq (tgt := 1320) hx hb dL_law__1315 (by decide) (fun c34 => ?_) (fun c34 => ?_)
      · rw [if_pos c34] at h
        refine lv_iload hx hb dL_law__1320 (lv_at hl 1 rfl) ?_
        refine lv_if_ne (tgt := 1337) hx hb dL_law__1322 (by decide) (fun c33 => ?_) (fun c33 => ?_)
        · rw [if_neg c33] at h
          refine lv_goto (tgt := 2599) hx hb dL_law__1337 (by decide) ?_
          obtain ⟨y30, ey30, h⟩ := lt_some h
          refine lv_iinc (v := y30) (lv' := [(4, .int y30), (6, .int y26), (5, .int y7), (0, .ref b), (1, .ref (G.2.2 0)), (2, .ref (G.2.2 22)), (3, .ref oa)]) hx hb dL_law__2599 hl (k := 6) rfl (by rw [ey30]; rfl) (by decide) rfl (fun ls hl => ?_)
          refine lv_goto (tgt := 23) hx hb dL_law__2602 (by decide) ?_
          subst ey30
          exact kc V27 w6 (Option.some.inj h).symm H locs ls _ _ hw (lv_sub hl [3, 4, 5, 6, 0] rfl) (by omega) (by omega)
        · rw [if_pos c33] at h
          refine lv_aload_n hx hb dL_law__1325 rfl (lv_at hl 5 rfl) ?_
          refine lv_iconst (v := (0 : Int32)) hx hb dL_law__1326 (by decide) ?_
          refine o_ll E hw vp_0_1 dL_law__1327 ?_
          refine lv_iload hx hb dL_law__1328 (lv_at hl 0 rfl) ?_
          refine lv_i2l hx hb dL_law__1330 rfl ?_
          refine W.lcmp hx hb dL_law__1331 ?_
          refine lv_if_eq (tgt := 1337) hx hb dL_law__1332 (by decide) (fun c32 => ?_) (fun c32 => ?_)
          · rw [if_pos c32] at h
            refine lv_goto (tgt := 2599) hx hb dL_law__1337 (by decide) ?_
            obtain ⟨y31, ey31, h⟩ := lt_some h
            refine lv_iinc (v := y31) (lv' := [(4, .int y31), (6, .int y26), (5, .int y7), (0, .ref b), (1, .ref (G.2.2 0)), (2, .ref (G.2.2 22)), (3, .ref oa)]) hx hb dL_law__2599 hl (k := 6) rfl (by rw [ey31]; rfl) (by decide) rfl (fun ls hl => ?_)
            refine lv_goto (tgt := 23) hx hb dL_law__2602 (by decide) ?_
            subst ey31
            exact kc V27 w6 (Option.some.inj h).symm H locs ls _ _ hw (lv_sub hl [3, 4, 5, 6, 0] rfl) (by omega) (by omega)
          · rw [if_neg c32] at h
            refine lv_iconst (v := (0 : Int32)) hx hb dL_law__1335 (by decide) ?_
            exact absurd (k1 _ (Option.some.inj h).symm) (by decide)
      · rw [if_neg c34] at h
        refine lv_iconst (v := (0 : Int32)) hx hb dL_law__1318 (by decide) ?_
        exact absurd (k1 _ (Option.some.inj h).symm) (by decide)
  · rw [if_neg c67] at h
    refine lv_iconst (v := (1 : Int32)) hx hb dL_law__1272 (by decide) ?_
    refine lv_goto (tgt := 1277) hx hb dL_law__1273 (by decide) ?_
    refine lv_aload_n hx hb dL_law__1277 rfl (lv_at hl 3 rfl) ?_
    obtain ⟨o36, V41, h39, h⟩ := ob_I_some h
    obtain ⟨⟨y38, w37⟩, h40, h⟩ := ob_R_some h
    have h := dt2_eq h
    refine o_SH (n := 4) (As := [.ref (G.2.2 0), .int z2, .int (1 : Int32), .ref oa]) E hw (kL_open (l := l) (G := G) (Z := Z) (oa := oa) ht h39 h40) yw_L_open lw_ini lm_RL_191 ⟨by decide, by decide, by decide +kernel⟩ rfl hl.1 (by decide) (hfc 1 (by decide)) (by decide) rfl (Nat.le_of_ble_eq_true rfl) dL_law__1278 (fun H locs hw => ?_)
    refine lv_istore (lv' := [(5, .int y38), (0, .ref b), (1, .ref (G.2.2 0)), (2, .ref (G.2.2 22)), (3, .ref oa), (4, .int u4)]) hx hb dL_law__1281 hl (by decide) rfl (fun ls hl => ?_)
    refine lv_aload_n hx hb dL_law__1283 rfl (lv_at hl 3 rfl) ?_
    refine lv_aload_n hx hb dL_law__1284 rfl (lv_at hl 1 rfl) ?_
    refine lv_iload hx hb dL_law__1285 (lv_at hl 5 rfl) ?_
    refine lv_iconst (v := (1 : Int32)) hx hb dL_law__1287 (by decide) ?_
    refine lv_iadd hx hb dL_law__1288 ?_
    obtain ⟨b42, h⟩ := rd_some h
    obtain ⟨z43, ez43, h⟩ := lt_some h
    refine va_sld hx hb hX hbl hbA hw.2.2 b42 dL_law__1289 ?_
    refine lv_eqi ez43 ?_
    refine lv_aload_n hx hb dL_law__1290 rfl (lv_at hl 1 rfl) ?_
    refine lv_iload hx hb dL_law__1291 (lv_at hl 5 rfl) ?_
    refine lv_iconst (v := (2 : Int32)) hx hb dL_law__1293 (by decide) ?_
    refine lv_iadd hx hb dL_law__1294 ?_
    obtain ⟨b44, h⟩ := rd_some h
    obtain ⟨z45, ez45, h⟩ := lt_some h
    refine va_sld hx hb hX hbl hbA hw.2.2 b44 dL_law__1295 ?_
    refine lv_eqi ez45 ?_
    refine lv_if_eq (tgt := 1303) hx hb dL_law__1296 (by decide) (fun c66 => ?_) (fun c66 => ?_)
    · rw [if_pos c66] at h
      refine lv_iconst (v := (0 : Int32)) hx hb dL_law__1303 (by decide) ?_
      obtain ⟨y47, V48, h46, h⟩ := ob_I_some h
      refine o_VI (As := [.int z43, .int (0 : Int32)]) E hw (kX10_open (l := l) (G := G) (SG_ok Z) h46) yy_X10_open lm_RL_193 rfl (by decide) rfl rfl hl.1 (by decide) (hf0 (by omega) (by omega)) (by decide) rfl (Nat.le_of_ble_eq_true rfl) dL_law__1304 (fun H locs hw => ?_)
      refine lv_istore (lv' := [(6, .int y47), (5, .int y38), (0, .ref b), (1, .ref (G.2.2 0)), (2, .ref (G.2.2 22)), (3, .ref oa), (4, .int u4)]) hx hb dL_law__1307 hl (by decide) rfl (fun ls hl => ?_)
      refine lv_aload_n hx hb dL_law__1309 rfl (lv_at hl 4 rfl) ?_
      obtain ⟨y50, h49, h⟩ := ob_R_some h
      refine o_VI (As := []) E hw (kX10_thrown (l := l) (G := G) (SG_ok Z) h49) yy_X10_thrown lm_RL_141 rfl (by decide) rfl rfl hl.1 (by decide) (hf0 (by omega) (by omega)) (by decide) rfl (Nat.le_of_ble_eq_true rfl) dL_law__1310 (fun H locs hw => ?_)
      refine lv_iload hx hb dL_law__1313 (lv_at hl 1 rfl) ?_
      refine lv_icmp_eq (tgt := 1320) hx hb dL_law__1315 (by decide) (fun c55 => ?_) (fun c55 => ?_)
      · rw [if_pos c55] at h
        refine lv_iload hx hb dL_law__1320 (lv_at hl 1 rfl) ?_
        refine lv_if_ne (tgt := 1337) hx hb dL_law__1322 (by decide) (fun c54 => ?_) (fun c54 => ?_)
        · rw [if_neg c54] at h
          refine lv_goto (tgt := 2599) hx hb dL_law__1337 (by decide) ?_
          obtain ⟨y51, ey51, h⟩ := lt_some h
          refine lv_iinc (v := y51) (lv' := [(4, .int y51), (6, .int y47), (5, .int y38), (0, .ref b), (1, .ref (G.2.2 0)), (2, .ref (G.2.2 22)), (3, .ref oa)]) hx hb dL_law__2599 hl (k := 6) rfl (by rw [ey51]; rfl) (by decide) rfl (fun ls hl => ?_)
          refine lv_goto (tgt := 23) hx hb dL_law__2602 (by decide) ?_
          subst ey51
          exact kc V48 w37 (Option.some.inj h).symm H locs ls _ _ hw (lv_sub hl [3, 4, 5, 6, 0] rfl) (by omega) (by omega)
        · rw [if_pos c54] at h
          refine lv_aload_n hx hb dL_law__1325 rfl (lv_at hl 5 rfl) ?_
          refine lv_iconst (v := (0 : Int32)) hx hb dL_law__1326 (by decide) ?_
          refine o_ll E hw vp_0_1 dL_law__1327 ?_
          refine lv_iload hx hb dL_law__1328 (lv_at hl 0 rfl) ?_
          refine lv_i2l hx hb dL_law__1330 rfl ?_
          refine W.lcmp hx hb dL_law__1331 ?_
          refine lv_if_eq (tgt := 1337) hx hb dL_law__1332 (by decide) (fun c53 => ?_) (fun c53 => ?_)
          · rw [if_pos c53] at h
            refine lv_goto (tgt := 2599) hx hb dL_law__1337 (by decide) ?_
            obtain ⟨y52, ey52, h⟩ := lt_some h
            refine lv_iinc (v := y52) (lv' := [(4, .int y52), (6, .int y47), (5, .int y38), (0, .ref b), (1, .ref (G.2.2 0)), (2, .ref (G.2.2 22)), (3, .ref oa)]) hx hb dL_law__2599 hl (k := 6) rfl (by rw [ey52]; rfl) (by decide) rfl (fun ls hl => ?_)
            refine lv_goto (tgt := 23) hx hb dL_law__2602 (by decide) ?_
            subst ey52
            exact kc V48 w37 (Option.some.inj h).symm H locs ls _ _ hw (lv_sub hl [3, 4, 5, 6, 0] rfl) (by omega) (by omega)
          · rw [if_neg c53] at h
            refine lv_iconst (v := (0 : Int32)) hx hb dL_law__1335 (by decide) ?_
            exact absurd (k1 _ (Option.some.inj h).symm) (by decide)
      · rw [if_neg c55] at h
        refine lv_iconst (v := (0 : Int32)) hx hb dL_law__1318 (by decide) ?_
        exact absurd (k1 _ (Option.some.inj h).symm) (by decide)
    · rw [if_neg c66] at h
      refine lv_iconst (v := (1 : Int32)) hx hb dL_law__1299 (by decide) ?_
      refine lv_goto (tgt := 1304) hx hb dL_law__1300 (by decide) ?_
      obtain ⟨y57, V58, h56, h⟩ := ob_I_some h
      refine o_VI (As := [.int z43, .int (1 : Int32)]) E hw (kX10_open (l := l) (G := G) (SG_ok Z) h56) yy_X10_open lm_RL_193 rfl (by decide) rfl rfl hl.1 (by decide) (hf0 (by omega) (by omega)) (by decide) rfl (Nat.le_of_ble_eq_true rfl) dL_law__1304 (fun H locs hw => ?_)
      refine lv_istore (lv' := [(6, .int y57), (5, .int y38), (0, .ref b), (1, .ref (G.2.2 0)), (2, .ref (G.2.2 22)), (3, .ref oa), (4, .int u4)]) hx hb dL_law__1307 hl (by decide) rfl (fun ls hl => ?_)
      refine lv_aload_n hx hb dL_law__1309 rfl (lv_at hl 4 rfl) ?_
      obtain ⟨y60, h59, h⟩ := ob_R_some h
      refine o_VI (As := []) E hw (kX10_thrown (l := l) (G := G) (SG_ok Z) h59) yy_X10_thrown lm_RL_141 rfl (by decide) rfl rfl hl.1 (by decide) (hf0 (by omega) (by omega)) (by decide) rfl (Nat.le_of_ble_eq_true rfl) dL_law__1310 (fun H locs hw => ?_)
      refine lv_iload hx hb dL_law__1313 (lv_at hl 1 rfl) ?_
      refine lv_icmp_eq (tgt := 1320) hx hb dL_law__1315 (by decide) (fun c65 => ?_) (fun c65 => ?_)
      · rw [if_pos c65] at h
        refine lv_iload hx hb dL_law__1320 (lv_at hl 1 rfl) ?_
        refine lv_if_ne (tgt := 1337) hx hb dL_law__1322 (by decide) (fun c64 => ?_) (fun c64 => ?_)
        · rw [if_neg c64] at h
          refine lv_goto (tgt := 2599) hx hb dL_law__1337 (by decide) ?_
          obtain ⟨y61, ey61, h⟩ := lt_some h
          refine lv_iinc (v := y61) (lv' := [(4, .int y61), (6, .int y57), (5, .int y38), (0, .ref b), (1, .ref (G.2.2 0)), (2, .ref (G.2.2 22)), (3, .ref oa)]) hx hb dL_law__2599 hl (k := 6) rfl (by rw [ey61]; rfl) (by decide) rfl (fun ls hl => ?_)
          refine lv_goto (tgt := 23) hx hb dL_law__2602 (by decide) ?_
          subst ey61
          exact kc V58 w37 (Option.some.inj h).symm H locs ls _ _ hw (lv_sub hl [3, 4, 5, 6, 0] rfl) (by omega) (by omega)
        · rw [if_pos c64] at h
          refine lv_aload_n hx hb dL_law__1325 rfl (lv_at hl 5 rfl) ?_
          refine lv_iconst (v := (0 : Int32)) hx hb dL_law__1326 (by decide) ?_
          refine o_ll E hw vp_0_1 dL_law__1327 ?_
          refine lv_iload hx hb dL_law__1328 (lv_at hl 0 rfl) ?_
          refine lv_i2l hx hb dL_law__1330 rfl ?_
          refine W.lcmp hx hb dL_law__1331 ?_
          refine lv_if_eq (tgt := 1337) hx hb dL_law__1332 (by decide) (fun c63 => ?_) (fun c63 => ?_)
          · rw [if_pos c63] at h
            refine lv_goto (tgt := 2599) hx hb dL_law__1337 (by decide) ?_
            obtain ⟨y62, ey62, h⟩ := lt_some h
            refine lv_iinc (v := y62) (lv' := [(4, .int y62), (6, .int y57), (5, .int y38), (0, .ref b), (1, .ref (G.2.2 0)), (2, .ref (G.2.2 22)), (3, .ref oa)]) hx hb dL_law__2599 hl (k := 6) rfl (by rw [ey62]; rfl) (by decide) rfl (fun ls hl => ?_)
            refine lv_goto (tgt := 23) hx hb dL_law__2602 (by decide) ?_
            subst ey62
            exact kc V58 w37 (Option.some.inj h).symm H locs ls _ _ hw (lv_sub hl [3, 4, 5, 6, 0] rfl) (by omega) (by omega)
          · rw [if_neg c63] at h
            refine lv_iconst (v := (0 : Int32)) hx hb dL_law__1335 (by decide) ?_
            exact absurd (k1 _ (Option.some.inj h).symm) (by decide)
      · rw [if_neg c65] at h
        refine lv_iconst (v := (0 : Int32)) hx hb dL_law__1318 (by decide) ?_
        exact absurd (k1 _ (Option.some.inj h).symm) (by decide)
theorem dL_law__1340 : decode cL_law_ 1340 = .ok (.aload_n 1, 1) := by decide +kernel
theorem dL_law__1341 : decode cL_law_ 1341 = .ok (.invokevirtual 194, 3) := by decide +kernel
theorem dL_law__1344 : decode cL_law_ 1344 = .ok (.aload_n 2, 1) := by decide +kernel
theorem dL_law__1345 : decode cL_law_ 1345 = .ok (.invokevirtual 197, 3) := by decide +kernel
theorem dL_law__1348 : decode cL_law_ 1348 = .ok (.if_icmp .eq 1251, 3) := by decide +kernel
theorem dL_law__1351 : decode cL_law_ 1351 = .ok (.iconst 0, 1) := by decide +kernel
theorem dL_law__1352 : decode cL_law_ 1352 = .ok (.ireturn, 1) := by decide +kernel
