/-! ===== String constants: 65 of them by number; what holds beside the static heap ===== -/
def sT : List (String × Nat × String) := [("AllSawIt", 87, "the text of the street is wrong"), ("AllSawIt", 97, "there are 12 texts of the street"), ("AllSawIt", 108, "the text of the law is wrong"), ("AllSawIt", 149, "no such thing of a house"), ("AllSawIt", 170, "no such thing of a deed"), ("AllSawIt", 184, "the deed is so"), ("AllSawIt", 205, "the house cannot say that now"), ("AllSawIt", 216, "the house has 3 mirrors"), ("AllSawIt", 228, "there are 8 houses"), ("AllSawIt", 294, "the tape tells no rows of houses"), ("AllSawIt", 343, "no such thing of the log"), ("AllSawIt", 369, "there is no such house"), ("AllSawIt", 372, "there is no such deed"), ("AllSawIt", 374, "there is no such place"), ("AllSawIt", 376, "there is no such hour"), ("AllSawIt", 378, "the number is none"), ("AllSawIt$LawText", 25, "see"), ("AllSawIt$LawText", 31, "blind"), ("AllSawIt$LawText", 36, "if"), ("AllSawIt$LawText", 60, "and"), ("AllSawIt$LawText", 62, "or"), ("AllSawIt$LawText", 64, "not"), ("AllSawIt$LawText", 77, "up"), ("AllSawIt$LawText", 79, "away"), ("AllSawIt$LawText", 81, "window"), ("AllSawIt$LawText", 97, "house"), ("AllSawIt$LawText", 99, "place"), ("AllSawIt$LawText", 101, "hour"), ("AllSawIt$LawText", 103, "apart"), ("AllSawIt$LawText", 105, "fog"), ("AllSawIt$LawText", 107, "day"), ("AllSawIt$StreetText", 28, "house"), ("AllSawIt$StreetText", 43, "deed"), ("AllSawIt$StreetText", 51, "mists"), ("AllSawIt$StreetText", 59, "away"), ("AllSawIt$StreetText", 72, "sees"), ("AllSawIt$StreetText", 74, "to"), ("AllSawIt$StreetText", 80, "up"), ("AllSawIt$StreetText", 82, "for"), ("AllSawIt$StreetText", 84, "spite"), ("AllSawIt$StreetText", 103, "at"), ("AllSawIt$StreetText", 105, "hangs"), ("AllSawItModel", 122, "sees"), ("AllSawItModel", 128, "to"), ("AllSawItModel", 130, "up"), ("AllSawItModel", 132, "for"), ("AllSawItModel", 134, "spite"), ("AllSawItModel", 139, "at"), ("AllSawItModel", 140, "hangs"), ("AllSawItModel", 142, "house"), ("AllSawItModel", 148, "deed"), ("AllSawItModel", 153, "away"), ("AllSawItModel", 158, "mists"), ("AllSawItModel", 167, "place"), ("AllSawItModel", 169, "hour"), ("AllSawItModel", 171, "apart"), ("AllSawItModel", 173, "fog"), ("AllSawItModel", 175, "day"), ("AllSawItModel", 184, "window"), ("AllSawItModel", 192, "not"), ("AllSawItModel", 203, "and"), ("AllSawItModel", 208, "or"), ("AllSawItModel", 210, "blind"), ("AllSawItModel", 212, "see"), ("AllSawItModel", 214, "if")]
def sY : List (List Int32) := [[116, 104, 101, 32, 116, 101, 120, 116, 32, 111, 102, 32, 116, 104, 101, 32, 115, 116, 114, 101, 101, 116, 32, 105, 115, 32, 119, 114, 111, 110, 103], [116, 104, 101, 114, 101, 32, 97, 114, 101, 32, 49, 50, 32, 116, 101, 120, 116, 115, 32, 111, 102, 32, 116, 104, 101, 32, 115, 116, 114, 101, 101, 116], [116, 104, 101, 32, 116, 101, 120, 116, 32, 111, 102, 32, 116, 104, 101, 32, 108, 97, 119, 32, 105, 115, 32, 119, 114, 111, 110, 103], [110, 111, 32, 115, 117, 99, 104, 32, 116, 104, 105, 110, 103, 32, 111, 102, 32, 97, 32, 104, 111, 117, 115, 101], [110, 111, 32, 115, 117, 99, 104, 32, 116, 104, 105, 110, 103, 32, 111, 102, 32, 97, 32, 100, 101, 101, 100], [116, 104, 101, 32, 100, 101, 101, 100, 32, 105, 115, 32, 115, 111], [116, 104, 101, 32, 104, 111, 117, 115, 101, 32, 99, 97, 110, 110, 111, 116, 32, 115, 97, 121, 32, 116, 104, 97, 116, 32, 110, 111, 119], [116, 104, 101, 32, 104, 111, 117, 115, 101, 32, 104, 97, 115, 32, 51, 32, 109, 105, 114, 114, 111, 114, 115], [116, 104, 101, 114, 101, 32, 97, 114, 101, 32, 56, 32, 104, 111, 117, 115, 101, 115], [116, 104, 101, 32, 116, 97, 112, 101, 32, 116, 101, 108, 108, 115, 32, 110, 111, 32, 114, 111, 119, 115, 32, 111, 102, 32, 104, 111, 117, 115, 101, 115], [110, 111, 32, 115, 117, 99, 104, 32, 116, 104, 105, 110, 103, 32, 111, 102, 32, 116, 104, 101, 32, 108, 111, 103], [116, 104, 101, 114, 101, 32, 105, 115, 32, 110, 111, 32, 115, 117, 99, 104, 32, 104, 111, 117, 115, 101], [116, 104, 101, 114, 101, 32, 105, 115, 32, 110, 111, 32, 115, 117, 99, 104, 32, 100, 101, 101, 100], [116, 104, 101, 114, 101, 32, 105, 115, 32, 110, 111, 32, 115, 117, 99, 104, 32, 112, 108, 97, 99, 101], [116, 104, 101, 114, 101, 32, 105, 115, 32, 110, 111, 32, 115, 117, 99, 104, 32, 104, 111, 117, 114], [116, 104, 101, 32, 110, 117, 109, 98, 101, 114, 32, 105, 115, 32, 110, 111, 110, 101], [115, 101, 101], [98, 108, 105, 110, 100], [105, 102], [97, 110, 100], [111, 114], [110, 111, 116], [117, 112], [97, 119, 97, 121], [119, 105, 110, 100, 111, 119], [104, 111, 117, 115, 101], [112, 108, 97, 99, 101], [104, 111, 117, 114], [97, 112, 97, 114, 116], [102, 111, 103], [100, 97, 121], [104, 111, 117, 115, 101], [100, 101, 101, 100], [109, 105, 115, 116, 115], [97, 119, 97, 121], [115, 101, 101, 115], [116, 111], [117, 112], [102, 111, 114], [115, 112, 105, 116, 101], [97, 116], [104, 97, 110, 103, 115], [115, 101, 101, 115], [116, 111], [117, 112], [102, 111, 114], [115, 112, 105, 116, 101], [97, 116], [104, 97, 110, 103, 115], [104, 111, 117, 115, 101], [100, 101, 101, 100], [97, 119, 97, 121], [109, 105, 115, 116, 115], [112, 108, 97, 99, 101], [104, 111, 117, 114], [97, 112, 97, 114, 116], [102, 111, 103], [100, 97, 121], [119, 105, 110, 100, 111, 119], [110, 111, 116], [97, 110, 100], [111, 114], [98, 108, 105, 110, 100], [115, 101, 101], [105, 102]]
def sO (w : Nat) : String := (sT.getD w ("", 0, "")).1
def sK (w : Nat) : Nat := (sT.getD w ("", 0, "")).2.1
def sX (w : Nat) : String := (sT.getD w ("", 0, "")).2.2
def sL (w : Nat) : Nat := (sY.getD w []).length
def sC (w k : Nat) : Int32 := (sY.getD w []).getD k 0
def SG (Z : Nat → Nat × Nat) : BGt := fun A U H => (∀ w : Nat, w < 65 → va_O "java/lang/String" (Z w).1 A U H ∧ va_OF "java/lang/String" "coder" "B" (.int 0) (Z w).1 A U H ∧ va_OF "java/lang/String" "value" "[B" (.ref (Z w).2) (Z w).1 A U H ∧ va_T .byte (Z w).2 (sL w) (fun j => .int (sC w j)) A U H) ∧ (∀ w : Nat, w < 65 → vk_R (sO w) (sK w) (sX w) (Z w).1 U) ∧ va_Z "java/lang/String" "COMPACT_STRINGS" "Z" (.int 1) A U H ∧ va_Zq "jdk/internal/util/Preconditions" "SIOOBE_FORMATTER" "Ljava/util/function/BiFunction;" A U H ∧ vx_Zq Bundle.tN "UNASSIGNED_STACK" Bundle.steD A U H ∧ vx_Zq Bundle.tN "SUPPRESSED_SENTINEL" Bundle.listD A U H ∧ (∀ (C T : String), Cond.castable C T ∈ lw_tbl → va_Nw (.castable C T) U) ∧ ∀ x : MethodName, Cond.declares x ∈ lw_tbl → va_Nw (.declares x) U
theorem nw_dc {x : MethodName} {s U : State} (hW : s.WarmedH U.vm) (hZ : va_Nw (.declares x) s) : va_Nw (.declares x) U := va_tabs rfl (rfl : (s.setVm U.vm).vm = U.vm) (by rw [Cond.declares_setVm hW.alike]; exact hZ)
theorem SG_ok (Z : Nat → Nat × Nat) : BGok (SG Z) := by
  refine ⟨fun A u U H hW h => ?_, fun A U H H1 h hq => ?_, fun A A' U H h hAB => ?_⟩
  · obtain ⟨h1, h2, h3, h4, h5, h6, h7, h8⟩ := h
    exact ⟨fun w hw => ⟨va_O.moved hW.alike (h1 w hw).1, va_OF.moved hW.alike (h1 w hw).2.1, va_OF.moved hW.alike (h1 w hw).2.2.1, va_T.moved hW.alike (h1 w hw).2.2.2⟩, fun w hw => vk_R.warm hW (h2 w hw), va_Z.moved hW.alike h3, va_Zq.moved hW.alike h4, vx_Zq.moved hW.alike h5, vx_Zq.moved hW.alike h6, fun C T hc => va_Nw.warmC hW (h7 C T hc), fun x hx => nw_dc hW (h8 x hx)⟩
  · obtain ⟨h1, h2, h3, h4, h5, h6, h7, h8⟩ := h
    exact ⟨fun w hw => ⟨(h1 w hw).1.kept hq, (h1 w hw).2.1.kept hq, (h1 w hw).2.2.1.kept hq, (h1 w hw).2.2.2.kept hq⟩, h2, h3.kept hq, h4.kept hq, h5.kept hq, h6.kept hq, h7, h8⟩
  · obtain ⟨h1, h2, h3, h4, h5, h6, h7, h8⟩ := h
    exact ⟨fun w hw => ⟨(h1 w hw).1.narrow hAB, (h1 w hw).2.1.narrow hAB, (h1 w hw).2.2.1.narrow hAB, (h1 w hw).2.2.2.narrow hAB⟩, h2, h3.narrow hAB, h4.narrow hAB, h5.narrow hAB, h6.narrow hAB, h7, h8⟩
section SW
variable {p : Program} {l : Launch} {e : Env} {R : Room} {s : State} {m : MethodId} {args : Array Value} {below : List Frame} {meth : Method} {c : Code} {H : Heap} {locs : List Loc} {cells slots : Nat} {Q : State → Prop}
variable {cc : ByteArray} {pc nL : Nat} {ls : Array Slot} {rest : List Value} {own : String} {ret : Option FieldType} {G : GT} {B : BGt} {V V' : VT} {Z : Nat → Nat × Nat}
theorem en_G (E : En p s m args c meth cc nL own ret G B) : B (gA G s.heap.size) s s.heap := E.2.2.2.2.2.2.2.1
theorem r_rn {r : Int32} {ty : FieldType} (E : En p s m args c meth cc nL own (some ty) G B) (hw : HW G s.heap V H locs) (hn : narrow ty (.int r) = .int r) (hdg : decode cc pc = .ok (.ireturn, 1)) : W p l e R s m args below meth c H locs 0 0 (MQ below (QI G s.heap.size r V) args s 0 0 (gA G s.heap.size)) (F0 m pc ls [.int r]) :=
  W.zret (v := r) (en_x E) (en_b E) E.2.2.2.2.2.2.2.2.2 hn (fun t ht hW => ⟨⟨r, V, rfl, ⟨rfl, rfl⟩, by show va_P _ _ _ t.heap; rw [ht]; exact hw.1⟩, hw.2.2.F ht⟩) hw.2.2.2.2 hdg E.2.2.2.2.2.2.1
/-- ldc of a String constant -/
theorem r_ls {index w : Nat} (E : En p s m args c meth cc nL own ret G (SG Z)) (hw : w < 65) (h1 : sO w = own) (h2 : sK w = index) (hdg : decode cc pc = .ok (.ldc index, 2))
    (kk : W p l e R s m args below meth c H locs cells slots Q (F0 m (pc + 2) ls (.ref (Z w).1 :: rest))) : W p l e R s m args below meth c H locs cells slots Q (F0 m pc ls rest) := by
  have hz := (en_G E).2.1 w hw
  rw [h1, h2] at hz
  exact va_ldcS (en_x E) (en_b E) E.2.2.2.1 hz hdg kk
end SW
section SX
variable {p : Program} {l : Launch} {e : Env} {s : State} {m : MethodId} {args : Array Value} {below : List Frame} {meth : Method} {c : Code} {H : Heap} {locs : List Loc} {Q : State → Prop}
variable {cc : ByteArray} {pc nL : Nat} {ls : Array Slot} {rest : List Value} {own : String} {ret : Option FieldType} {G : GT} {B : BGt} {V V' : VT} {Z : Nat → Nat × Nat}
variable {y : MethodName} {bytes : ByteArray} {maxL : Nat} {rt : Option FieldType} {n d D index : Nat} {As st : List Value}
/-- a method of a String -/
theorem c_TI {r : Int32} {w : Nat} (E : En p s m args c meth cc nL own ret G (SG Z)) (hw : HW G s.heap V H locs) (hC : CI l G (SG Z) y (.code y bytes maxL rt) d (.ref (Z w).1 :: As) V r V') (hY : YV y bytes maxL rt n) (hlk : Cond.methodLink own index y ∈ lw_tbl) (hn : As.length = n) (hi : w < 65) (hqy : y.cls = "java/lang/String") (hl : ls.size = nL) (hd : d + 1 ≤ D) (hL : maxL ≤ 41) (hst : st = As.reverse ++ .ref (Z w).1 :: rest) (hcat : (rest.map fun v => v.category).sum ≤ 8) (hdg : decode cc pc = .ok (.invokevirtual index, 3))
    (kk : ∀ (H : Heap) (locs : List Loc), HW G s.heap V' H locs → W p l e (rmD D) s m args below meth c H locs 0 0 Q (F0 m (pc + 3) ls (.int r :: rest))) : W p l e (rmD D) s m args below meth c H locs 0 0 Q (F0 m pc ls st) := by
  obtain ⟨y1, y2, y3, y4, y5, y6⟩ := hY
  have hrv : ∃ cell : Cell, H[(Z w).1]? = some cell ∧ cell.vm.isStatics = false ∧ s.vm.findClass y.cls = some cell.cls := by
    obtain ⟨cell, h1, h2, h3, -⟩ := (((en_G E).1 w hi).1).kept hw.2.2.2.1
    exact ⟨cell, h1, h2, by rw [hqy]; exact h3⟩
  refine va_calli (post := fun r2 (u : VT) => r2 = r ∧ u = V') (B := fun u t => va_P G.1 vwCl (wl G u) t.heap) (A1 := gA G H.size) (va_runV (C := y.cls) (b := (Z w).1) (As := As) (rest := rest) (Ts := []) ⟨E.1, E.2.1, E.2.2.1, E.2.2.2.1, fun _ h => nomatch h⟩ (hC H.size) ⟨cb_of E y1 y2 y5 y6 hlk hd hL, en_w E y3 rfl, en_w E y4 rfl⟩ ⟨pre_blind E.2.2.2.2.2.2.2.2.1, hrv, fun U hU hW => ⟨rfl, pre_at E hw hU hW⟩⟩ rfl hn hl hst (lv_room hcat) hdg ⟨Nat.zero_le _, Nat.zero_le _⟩) hw.2.2 (fun q _ h => gA_in hw q h) (gA_in hw) (fun r1 u t H1 locs1 ht hvm hp hb hz hk hS => ?_)
  obtain ⟨rfl, rfl⟩ := hp
  exact kk H1 locs1 (hw_back hw ht hb hS)
end SX
theorem dJ0_coder_7d493_0 : decode cJ0_coder_7d493 0 = .ok (.getstatic 38, 3) := by decide +kernel
theorem dJ0_coder_7d493_3 : decode cJ0_coder_7d493 3 = .ok (.ifCond .eq 10, 3) := by decide +kernel
theorem dJ0_coder_7d493_6 : decode cJ0_coder_7d493 6 = .ok (.aload_n 0, 1) := by decide +kernel
theorem dJ0_coder_7d493_7 : decode cJ0_coder_7d493 7 = .ok (.getfield 15, 3) := by decide +kernel
theorem dJ0_coder_7d493_10 : decode cJ0_coder_7d493 10 = .ok (.goto 4, 3) := by decide +kernel
theorem dJ0_coder_7d493_13 : decode cJ0_coder_7d493 13 = .ok (.iconst 1, 1) := by decide +kernel
theorem dJ0_coder_7d493_14 : decode cJ0_coder_7d493 14 = .ok (.ireturn, 1) := by decide +kernel
theorem dJ0_isLatin1_aae02_0 : decode cJ0_isLatin1_aae02 0 = .ok (.getstatic 38, 3) := by decide +kernel
theorem dJ0_isLatin1_aae02_3 : decode cJ0_isLatin1_aae02 3 = .ok (.ifCond .eq 14, 3) := by decide +kernel
theorem dJ0_isLatin1_aae02_6 : decode cJ0_isLatin1_aae02 6 = .ok (.aload_n 0, 1) := by decide +kernel
theorem dJ0_isLatin1_aae02_7 : decode cJ0_isLatin1_aae02 7 = .ok (.getfield 15, 3) := by decide +kernel
theorem dJ0_isLatin1_aae02_10 : decode cJ0_isLatin1_aae02 10 = .ok (.ifCond .ne 7, 3) := by decide +kernel
theorem dJ0_isLatin1_aae02_13 : decode cJ0_isLatin1_aae02 13 = .ok (.iconst 1, 1) := by decide +kernel
theorem dJ0_isLatin1_aae02_14 : decode cJ0_isLatin1_aae02 14 = .ok (.goto 4, 3) := by decide +kernel
theorem dJ0_isLatin1_aae02_17 : decode cJ0_isLatin1_aae02 17 = .ok (.iconst 0, 1) := by decide +kernel
theorem dJ0_isLatin1_aae02_18 : decode cJ0_isLatin1_aae02 18 = .ok (.ireturn, 1) := by decide +kernel
theorem dJ0_length_8abf5_0 : decode cJ0_length_8abf5 0 = .ok (.aload_n 0, 1) := by decide +kernel
theorem dJ0_length_8abf5_1 : decode cJ0_length_8abf5 1 = .ok (.getfield 9, 3) := by decide +kernel
theorem dJ0_length_8abf5_4 : decode cJ0_length_8abf5 4 = .ok (.arraylength, 1) := by decide +kernel
theorem dJ0_length_8abf5_5 : decode cJ0_length_8abf5 5 = .ok (.aload_n 0, 1) := by decide +kernel
theorem dJ0_length_8abf5_6 : decode cJ0_length_8abf5 6 = .ok (.invokevirtual 335, 3) := by decide +kernel
theorem dJ0_length_8abf5_9 : decode cJ0_length_8abf5 9 = .ok (.ishr, 1) := by decide +kernel
theorem dJ0_length_8abf5_10 : decode cJ0_length_8abf5 10 = .ok (.ireturn, 1) := by decide +kernel
theorem dJ3_checkIndex_8e157_0 : decode cJ3_checkIndex_8e157 0 = .ok (.iload_n 0, 1) := by decide +kernel
theorem dJ3_checkIndex_8e157_1 : decode cJ3_checkIndex_8e157 1 = .ok (.ifCond .lt 8, 3) := by decide +kernel
theorem dJ3_checkIndex_8e157_4 : decode cJ3_checkIndex_8e157 4 = .ok (.iload_n 0, 1) := by decide +kernel
theorem dJ3_checkIndex_8e157_5 : decode cJ3_checkIndex_8e157 5 = .ok (.iload_n 1, 1) := by decide +kernel
theorem dJ3_checkIndex_8e157_6 : decode cJ3_checkIndex_8e157 6 = .ok (.if_icmp .lt 10, 3) := by decide +kernel
theorem dJ3_checkIndex_8e157_9 : decode cJ3_checkIndex_8e157 9 = .ok (.aload_n 2, 1) := by decide +kernel
theorem dJ3_checkIndex_8e157_10 : decode cJ3_checkIndex_8e157 10 = .ok (.iload_n 0, 1) := by decide +kernel
theorem dJ3_checkIndex_8e157_11 : decode cJ3_checkIndex_8e157 11 = .ok (.iload_n 1, 1) := by decide +kernel
theorem dJ3_checkIndex_8e157_12 : decode cJ3_checkIndex_8e157 12 = .ok (.invokestatic 95, 3) := by decide +kernel
theorem dJ3_checkIndex_8e157_15 : decode cJ3_checkIndex_8e157 15 = .ok (.athrow, 1) := by decide +kernel
theorem dJ3_checkIndex_8e157_16 : decode cJ3_checkIndex_8e157 16 = .ok (.iload_n 0, 1) := by decide +kernel
theorem dJ3_checkIndex_8e157_17 : decode cJ3_checkIndex_8e157 17 = .ok (.ireturn, 1) := by decide +kernel
theorem dJ0_checkIndex_df160_0 : decode cJ0_checkIndex_df160 0 = .ok (.iload_n 0, 1) := by decide +kernel
theorem dJ0_checkIndex_df160_1 : decode cJ0_checkIndex_df160 1 = .ok (.iload_n 1, 1) := by decide +kernel
theorem dJ0_checkIndex_df160_2 : decode cJ0_checkIndex_df160 2 = .ok (.getstatic 1053, 3) := by decide +kernel
theorem dJ0_checkIndex_df160_5 : decode cJ0_checkIndex_df160 5 = .ok (.invokestatic 1059, 3) := by decide +kernel
theorem dJ0_checkIndex_df160_8 : decode cJ0_checkIndex_df160 8 = .ok (.pop, 1) := by decide +kernel
theorem dJ0_checkIndex_df160_9 : decode cJ0_checkIndex_df160 9 = .ok (.return_, 1) := by decide +kernel
theorem dJ1_charAt_3b067_0 : decode cJ1_charAt_3b067 0 = .ok (.iload_n 1, 1) := by decide +kernel
theorem dJ1_charAt_3b067_1 : decode cJ1_charAt_3b067 1 = .ok (.aload_n 0, 1) := by decide +kernel
theorem dJ1_charAt_3b067_2 : decode cJ1_charAt_3b067 2 = .ok (.arraylength, 1) := by decide +kernel
theorem dJ1_charAt_3b067_3 : decode cJ1_charAt_3b067 3 = .ok (.invokestatic 9, 3) := by decide +kernel
theorem dJ1_charAt_3b067_6 : decode cJ1_charAt_3b067 6 = .ok (.aload_n 0, 1) := by decide +kernel
theorem dJ1_charAt_3b067_7 : decode cJ1_charAt_3b067 7 = .ok (.iload_n 1, 1) := by decide +kernel
theorem dJ1_charAt_3b067_8 : decode cJ1_charAt_3b067 8 = .ok (.baload, 1) := by decide +kernel
theorem dJ1_charAt_3b067_9 : decode cJ1_charAt_3b067 9 = .ok (.sipush 255, 3) := by decide +kernel
theorem dJ1_charAt_3b067_12 : decode cJ1_charAt_3b067 12 = .ok (.iand, 1) := by decide +kernel
theorem dJ1_charAt_3b067_13 : decode cJ1_charAt_3b067 13 = .ok (.i2c, 1) := by decide +kernel
theorem dJ1_charAt_3b067_14 : decode cJ1_charAt_3b067 14 = .ok (.ireturn, 1) := by decide +kernel
theorem dJ0_charAt_5068e_0 : decode cJ0_charAt_5068e 0 = .ok (.aload_n 0, 1) := by decide +kernel
theorem dJ0_charAt_5068e_1 : decode cJ0_charAt_5068e 1 = .ok (.invokevirtual 492, 3) := by decide +kernel
theorem dJ0_charAt_5068e_4 : decode cJ0_charAt_5068e 4 = .ok (.ifCond .eq 12, 3) := by decide +kernel
theorem dJ0_charAt_5068e_7 : decode cJ0_charAt_5068e 7 = .ok (.aload_n 0, 1) := by decide +kernel
theorem dJ0_charAt_5068e_8 : decode cJ0_charAt_5068e 8 = .ok (.getfield 9, 3) := by decide +kernel
theorem dJ0_charAt_5068e_11 : decode cJ0_charAt_5068e 11 = .ok (.iload_n 1, 1) := by decide +kernel
theorem dJ0_charAt_5068e_12 : decode cJ0_charAt_5068e 12 = .ok (.invokestatic 495, 3) := by decide +kernel
theorem dJ0_charAt_5068e_15 : decode cJ0_charAt_5068e 15 = .ok (.ireturn, 1) := by decide +kernel
theorem dJ0_charAt_5068e_16 : decode cJ0_charAt_5068e 16 = .ok (.aload_n 0, 1) := by decide +kernel
theorem dJ0_charAt_5068e_17 : decode cJ0_charAt_5068e 17 = .ok (.getfield 9, 3) := by decide +kernel
theorem dJ0_charAt_5068e_20 : decode cJ0_charAt_5068e 20 = .ok (.iload_n 1, 1) := by decide +kernel
theorem dJ0_charAt_5068e_21 : decode cJ0_charAt_5068e 21 = .ok (.invokestatic 498, 3) := by decide +kernel
theorem dJ0_charAt_5068e_24 : decode cJ0_charAt_5068e 24 = .ok (.ireturn, 1) := by decide +kernel
theorem yy_J0_coder_7d493 : YV yJ0_coder_7d493 cJ0_coder_7d493 1 (some .byte) 0 := ⟨(tb_2 (List.mem_of_getElem? (i := 239) (by decide +kernel))), (tb_1 (List.mem_of_getElem? (i := 11) (by decide +kernel))), (tb_2 (List.mem_of_getElem? (i := 237) (by decide +kernel))), (tb_2 (List.mem_of_getElem? (i := 238) (by decide +kernel))), ⟨by decide, by decide⟩, by decide +kernel⟩
theorem yy_J0_isLatin1_aae02 : YV yJ0_isLatin1_aae02 cJ0_isLatin1_aae02 1 (some .boolean) 0 := ⟨(tb_3 (List.mem_of_getElem? (i := 9) (by decide +kernel))), (tb_1 (List.mem_of_getElem? (i := 11) (by decide +kernel))), (tb_3 (List.mem_of_getElem? (i := 7) (by decide +kernel))), (tb_3 (List.mem_of_getElem? (i := 8) (by decide +kernel))), ⟨by decide, by decide⟩, by decide +kernel⟩
theorem yy_J0_length_8abf5 : YV yJ0_length_8abf5 cJ0_length_8abf5 1 (some .int) 0 := ⟨(tb_2 (List.mem_of_getElem? (i := 235) (by decide +kernel))), (tb_1 (List.mem_of_getElem? (i := 11) (by decide +kernel))), (tb_2 (List.mem_of_getElem? (i := 233) (by decide +kernel))), (tb_2 (List.mem_of_getElem? (i := 234) (by decide +kernel))), ⟨by decide, by decide⟩, by decide +kernel⟩
theorem yy_J3_checkIndex_8e157 : YS yJ3_checkIndex_8e157 cJ3_checkIndex_8e157 3 (some .int) 3 := ⟨(tb_3 (List.mem_of_getElem? (i := 20) (by decide +kernel))), (tb_1 (List.mem_of_getElem? (i := 13) (by decide +kernel))), (tb_3 (List.mem_of_getElem? (i := 19) (by decide +kernel))), ⟨by decide, by decide⟩, by decide +kernel⟩
theorem yy_J0_checkIndex_df160 : YS yJ0_checkIndex_df160 cJ0_checkIndex_df160 2 none 2 := ⟨(tb_3 (List.mem_of_getElem? (i := 15) (by decide +kernel))), (tb_1 (List.mem_of_getElem? (i := 11) (by decide +kernel))), (tb_3 (List.mem_of_getElem? (i := 14) (by decide +kernel))), ⟨by decide, by decide⟩, by decide +kernel⟩
theorem yy_J1_charAt_3b067 : YS yJ1_charAt_3b067 cJ1_charAt_3b067 2 (some .char) 2 := ⟨(tb_3 (List.mem_of_getElem? (i := 12) (by decide +kernel))), (tb_1 (List.mem_of_getElem? (i := 12) (by decide +kernel))), (tb_3 (List.mem_of_getElem? (i := 11) (by decide +kernel))), ⟨by decide, by decide⟩, by decide +kernel⟩
theorem yy_J0_charAt_5068e : YV yJ0_charAt_5068e cJ0_charAt_5068e 2 (some .char) 1 := ⟨(tb_3 (List.mem_of_getElem? (i := 5) (by decide +kernel))), (tb_1 (List.mem_of_getElem? (i := 11) (by decide +kernel))), (tb_3 (List.mem_of_getElem? (i := 3) (by decide +kernel))), (tb_3 (List.mem_of_getElem? (i := 4) (by decide +kernel))), ⟨by decide, by decide⟩, by decide +kernel⟩
theorem lg_38 : Cond.fieldLink RJ0 38 "java/lang/String" "COMPACT_STRINGS" "Z" ∈ lw_tbl := (tb_3 (List.mem_of_getElem? (i := 0) (by decide +kernel)))
theorem lg_9 : Cond.fieldLink RJ0 9 "java/lang/String" "value" "[B" ∈ lw_tbl := (tb_8 (List.mem_of_getElem? (i := 171) (by decide +kernel)))
theorem lg_15 : Cond.fieldLink RJ0 15 "java/lang/String" "coder" "B" ∈ lw_tbl := (tb_8 (List.mem_of_getElem? (i := 172) (by decide +kernel)))
theorem lg_1053 : Cond.fieldLink RJ0 1053 "jdk/internal/util/Preconditions" "SIOOBE_FORMATTER" "Ljava/util/function/BiFunction;" ∈ lw_tbl := (tb_3 (List.mem_of_getElem? (i := 16) (by decide +kernel)))
set_option maxHeartbeats 4000000 in
set_option maxRecDepth 100000 in
theorem kJ0_coder_7d493 {l : Launch} {G : GT} {Z : Nat → Nat × Nat} {V : VT} {w : Nat} (hz : w < 65) : CI l G (SG Z) yJ0_coder_7d493 (.code yJ0_coder_7d493 cJ0_coder_7d493 1 (some .byte)) 1 [.ref (Z w).1] V 0 V := by
  intro sz
  refine met_of (Qs := fun sz => QI G sz 0 V) (SG_ok Z) (by decide) (Nat.le_of_ble_eq_true rfl) ?_ sz
  intro p e s m args below meth c ls E hw hl
  have hx := en_x E
  have hb := en_b E
  have hl : lv_has ls 1 [(0, .ref (Z w).1)] := hl
  refine va_gets hx hb (en_G E).2.2.1 hw.2.2 E.2.2.2.1 (en_w E lg_38 rfl) (fun _ h => h) dJ0_coder_7d493_0 ?_
  refine lv_if_eq (tgt := 13) hx hb dJ0_coder_7d493_3 (by decide) (fun c1 => absurd c1 (by decide)) (fun _ => ?_)
  refine lv_aload_n hx hb dJ0_coder_7d493_6 rfl (lv_at hl 0 rfl) ?_
  refine vk_getf hx hb ((en_G E).1 w hz).2.1 hw.2.2 E.2.2.2.1 (en_w E lg_15 rfl) (fun _ h => h) dJ0_coder_7d493_7 ?_
  refine lv_goto (tgt := 14) hx hb dJ0_coder_7d493_10 (by decide) ?_
  exact r_rn E hw rfl dJ0_coder_7d493_14
set_option maxHeartbeats 4000000 in
set_option maxRecDepth 100000 in
theorem kJ0_isLatin1_aae02 {l : Launch} {G : GT} {Z : Nat → Nat × Nat} {V : VT} {w : Nat} (hz : w < 65) : CI l G (SG Z) yJ0_isLatin1_aae02 (.code yJ0_isLatin1_aae02 cJ0_isLatin1_aae02 1 (some .boolean)) 1 [.ref (Z w).1] V 1 V := by
  intro sz
  refine met_of (Qs := fun sz => QI G sz 1 V) (SG_ok Z) (by decide) (Nat.le_of_ble_eq_true rfl) ?_ sz
  intro p e s m args below meth c ls E hw hl
  have hx := en_x E
  have hb := en_b E
  have hl : lv_has ls 1 [(0, .ref (Z w).1)] := hl
  refine va_gets hx hb (en_G E).2.2.1 hw.2.2 E.2.2.2.1 (en_w E lg_38 rfl) (fun _ h => h) dJ0_isLatin1_aae02_0 ?_
  refine lv_if_eq (tgt := 17) hx hb dJ0_isLatin1_aae02_3 (by decide) (fun c1 => absurd c1 (by decide)) (fun _ => ?_)
  refine lv_aload_n hx hb dJ0_isLatin1_aae02_6 rfl (lv_at hl 0 rfl) ?_
  refine vk_getf hx hb ((en_G E).1 w hz).2.1 hw.2.2 E.2.2.2.1 (en_w E lg_15 rfl) (fun _ h => h) dJ0_isLatin1_aae02_7 ?_
  refine lv_if_ne (tgt := 17) hx hb dJ0_isLatin1_aae02_10 (by decide) (fun c1 => absurd rfl c1) (fun _ => ?_)
  refine lv_iconst (v := 1) hx hb dJ0_isLatin1_aae02_13 (by decide) ?_
  refine lv_goto (tgt := 18) hx hb dJ0_isLatin1_aae02_14 (by decide) ?_
  exact r_rn E hw rfl dJ0_isLatin1_aae02_18
set_option maxHeartbeats 4000000 in
set_option maxRecDepth 100000 in
theorem kJ0_length_8abf5 {l : Launch} {G : GT} {Z : Nat → Nat × Nat} {V : VT} {w : Nat} (hz : w < 65) : CI l G (SG Z) yJ0_length_8abf5 (.code yJ0_length_8abf5 cJ0_length_8abf5 1 (some .int)) 2 [.ref (Z w).1] V (nI (sL w)) V := by
  intro sz
  refine met_of (Qs := fun sz => QI G sz (nI (sL w)) V) (SG_ok Z) (by decide) (Nat.le_of_ble_eq_true rfl) ?_ sz
  intro p e s m args below meth c ls E hw hl
  have hx := en_x E
  have hb := en_b E
  have hl : lv_has ls 1 [(0, .ref (Z w).1)] := hl
  refine lv_aload_n hx hb dJ0_length_8abf5_0 rfl (lv_at hl 0 rfl) ?_
  refine vk_getf hx hb ((en_G E).1 w hz).2.2.1 hw.2.2 E.2.2.2.1 (en_w E lg_9 rfl) (fun _ h => h) dJ0_length_8abf5_1 ?_
  refine va_tlen hx hb ((en_G E).1 w hz).2.2.2 hw.2.2 rfl dJ0_length_8abf5_4 ?_
  refine lv_aload_n hx hb dJ0_length_8abf5_5 rfl (lv_at hl 0 rfl) ?_
  refine c_TI E hw (kJ0_coder_7d493 (l := l) (G := G) hz) yy_J0_coder_7d493 lm_RJ0_335 rfl hz rfl hl.1 (by decide) (by decide) rfl (Nat.le_of_ble_eq_true rfl) dJ0_length_8abf5_6 (fun H locs hw => ?_)
  refine lv_ishr hx hb dJ0_length_8abf5_9 ?_
  refine lv_eqi (sb_shr0 _).symm ?_
  exact r_ri E hw dJ0_length_8abf5_10
set_option maxHeartbeats 4000000 in
set_option maxRecDepth 100000 in
theorem kJ3_checkIndex_8e157 {l : Launch} {G : GT} {Z : Nat → Nat × Nat} {V : VT} {i n : Int32} {v : Value} (hv : v = .null ∨ ∃ a, v = .ref a) (h1 : ¬ i < 0) (h2 : i < n) : CI l G (SG Z) yJ3_checkIndex_8e157 (.code yJ3_checkIndex_8e157 cJ3_checkIndex_8e157 3 (some .int)) 1 [.int i, .int n, v] V i V := by
  intro sz
  refine met_of (Qs := fun sz => QI G sz i V) (SG_ok Z) (by decide) (by rcases hv with rfl | ⟨a, rfl⟩ <;> exact Nat.le_of_ble_eq_true rfl) ?_ sz
  intro p e s m args below meth c ls E hw hl
  have hx := en_x E
  have hb := en_b E
  have hl : lv_has ls 3 [(0, .int i), (1, .int n)] := by rcases hv with rfl | ⟨a, rfl⟩ <;> exact lv_sub hl [0, 1] rfl
  refine lv_iload_n hx hb dJ3_checkIndex_8e157_0 rfl (lv_at hl 0 rfl) ?_
  refine lv_if_lt (tgt := 9) hx hb dJ3_checkIndex_8e157_1 (by decide) (fun c1 => absurd c1 h1) (fun _ => ?_)
  refine lv_iload_n hx hb dJ3_checkIndex_8e157_4 rfl (lv_at hl 0 rfl) ?_
  refine lv_iload_n hx hb dJ3_checkIndex_8e157_5 rfl (lv_at hl 1 rfl) ?_
  refine lv_icmp_lt (tgt := 16) hx hb dJ3_checkIndex_8e157_6 (by decide) (fun _ => ?_) (fun c1 => absurd h2 c1)
  refine lv_iload_n hx hb dJ3_checkIndex_8e157_16 rfl (lv_at hl 0 rfl) ?_
  exact r_ri E hw dJ3_checkIndex_8e157_17
set_option maxHeartbeats 4000000 in
set_option maxRecDepth 100000 in
theorem kJ0_checkIndex_df160 {l : Launch} {G : GT} {Z : Nat → Nat × Nat} {V : VT} {i n : Int32} (h1 : ¬ i < 0) (h2 : i < n) : CV l G (SG Z) yJ0_checkIndex_df160 (.code yJ0_checkIndex_df160 cJ0_checkIndex_df160 2 none) 2 [.int i, .int n] V V := by
  intro sz
  refine met_of (Qs := fun sz => QV G sz V) (SG_ok Z) (by decide) (Nat.le_of_ble_eq_true rfl) ?_ sz
  intro p e s m args below meth c ls E hw hl
  have hx := en_x E
  have hb := en_b E
  have hl : lv_has ls 2 [(0, .int i), (1, .int n)] := hl
  refine lv_iload_n hx hb dJ0_checkIndex_df160_0 rfl (lv_at hl 0 rfl) ?_
  refine lv_iload_n hx hb dJ0_checkIndex_df160_1 rfl (lv_at hl 1 rfl) ?_
  have key : ∀ v : Value, (v = .null ∨ ∃ a, v = .ref a) → W p l e (rmD 2) s m args below meth c s.heap [] 0 0 (MQ below (QV G s.heap.size V) args s 0 0 (gA G s.heap.size)) (F0 m 5 ls [v, .int n, .int i]) := by
    intro v hv
    refine c_SI E hw (kJ3_checkIndex_8e157 (l := l) (G := G) (Z := Z) (V := V) hv h1 h2) yy_J3_checkIndex_8e157 lm_RJ0_1059 rfl hl.1 (by decide) (by decide) rfl (Nat.le_of_ble_eq_true rfl) dJ0_checkIndex_df160_5 (fun H locs hw => ?_)
    refine lv_pop hx hb dJ0_checkIndex_df160_8 rfl ?_
    exact r_rv E hw dJ0_checkIndex_df160_9
  rcases (en_G E).2.2.2.1 with hq | ⟨t, hq⟩
  · refine va_gets hx hb hq hw.2.2 E.2.2.2.1 (en_w E lg_1053 rfl) (fun _ h => h) dJ0_checkIndex_df160_2 ?_
    exact key _ (Or.inl rfl)
  · refine va_gets hx hb hq hw.2.2 E.2.2.2.1 (en_w E lg_1053 rfl) (fun _ h => h) dJ0_checkIndex_df160_2 ?_
    exact key _ (Or.inr ⟨t, rfl⟩)
set_option maxHeartbeats 4000000 in
set_option maxRecDepth 100000 in
theorem kJ1_charAt_3b067 {l : Launch} {G : GT} {Z : Nat → Nat × Nat} {V : VT} {w : Nat} (hz : w < 65) {i : Int32} (hi : vp_in i (sL w)) (hlt : i < nI (sL w)) : CI l G (SG Z) yJ1_charAt_3b067 (.code yJ1_charAt_3b067 cJ1_charAt_3b067 2 (some .char)) 3 [.ref (Z w).2, .int i] V ((sC w i.toNatClampNeg &&& 255).toUInt32 % 65536).toInt32 V := by
  intro sz
  refine met_of (Qs := fun sz => QI G sz ((sC w i.toNatClampNeg &&& 255).toUInt32 % 65536).toInt32 V) (SG_ok Z) (by decide) (Nat.le_of_ble_eq_true rfl) ?_ sz
  intro p e s m args below meth c ls E hw hl
  have hx := en_x E
  have hb := en_b E
  have hl : lv_has ls 2 [(0, .ref (Z w).2), (1, .int i)] := hl
  refine lv_iload_n hx hb dJ1_charAt_3b067_0 rfl (lv_at hl 1 rfl) ?_
  refine lv_aload_n hx hb dJ1_charAt_3b067_1 rfl (lv_at hl 0 rfl) ?_
  refine va_tlen hx hb ((en_G E).1 w hz).2.2.2 hw.2.2 rfl dJ1_charAt_3b067_2 ?_
  refine c_SV E hw (kJ0_checkIndex_df160 (l := l) (G := G) (Z := Z) (V := V) (fun h => hi (Or.inl h)) hlt) yy_J0_checkIndex_df160 lm_RJ1_9 rfl hl.1 (by decide) (by decide) rfl (Nat.le_of_ble_eq_true rfl) dJ1_charAt_3b067_3 (fun H locs hw => ?_)
  refine lv_aload_n hx hb dJ1_charAt_3b067_6 rfl (lv_at hl 0 rfl) ?_
  refine lv_iload_n hx hb dJ1_charAt_3b067_7 rfl (lv_at hl 1 rfl) ?_
  refine va_tb hx hb ((en_G E).1 w hz).2.2.2 hw.2.2 hi rfl dJ1_charAt_3b067_8 ?_
  refine lv_sipush (v := 255) hx hb dJ1_charAt_3b067_9 (by decide) ?_
  refine lv_iand hx hb dJ1_charAt_3b067_12 ?_
  refine lv_i2c hx hb dJ1_charAt_3b067_13 rfl ?_
  exact r_rn E hw (pk_nc _) dJ1_charAt_3b067_14
set_option maxHeartbeats 4000000 in
set_option maxRecDepth 100000 in
theorem kJ0_charAt_5068e {l : Launch} {G : GT} {Z : Nat → Nat × Nat} {V : VT} {w : Nat} (hz : w < 65) {i : Int32} (hi : vp_in i (sL w)) (hlt : i < nI (sL w)) : CI l G (SG Z) yJ0_charAt_5068e (.code yJ0_charAt_5068e cJ0_charAt_5068e 2 (some .char)) 4 [.ref (Z w).1, .int i] V ((sC w i.toNatClampNeg &&& 255).toUInt32 % 65536).toInt32 V := by
  intro sz
  refine met_of (Qs := fun sz => QI G sz ((sC w i.toNatClampNeg &&& 255).toUInt32 % 65536).toInt32 V) (SG_ok Z) (by decide) (Nat.le_of_ble_eq_true rfl) ?_ sz
  intro p e s m args below meth c ls E hw hl
  have hx := en_x E
  have hb := en_b E
  have hl : lv_has ls 2 [(0, .ref (Z w).1), (1, .int i)] := hl
  refine lv_aload_n hx hb dJ0_charAt_5068e_0 rfl (lv_at hl 0 rfl) ?_
  refine c_TI E hw (kJ0_isLatin1_aae02 (l := l) (G := G) hz) yy_J0_isLatin1_aae02 lm_RJ0_492 rfl hz rfl hl.1 (by decide) (by decide) rfl (Nat.le_of_ble_eq_true rfl) dJ0_charAt_5068e_1 (fun H locs hw => ?_)
  refine lv_if_eq (tgt := 16) hx hb dJ0_charAt_5068e_4 (by decide) (fun c1 => absurd c1 (by decide)) (fun _ => ?_)
  refine lv_aload_n hx hb dJ0_charAt_5068e_7 rfl (lv_at hl 0 rfl) ?_
  refine vk_getf hx hb ((en_G E).1 w hz).2.2.1 hw.2.2 E.2.2.2.1 (en_w E lg_9 rfl) (fun _ h => h) dJ0_charAt_5068e_8 ?_
  refine lv_iload_n hx hb dJ0_charAt_5068e_11 rfl (lv_at hl 1 rfl) ?_
  refine c_SI E hw (kJ1_charAt_3b067 (l := l) (G := G) hz hi hlt) yy_J1_charAt_3b067 lm_RJ0_495 rfl hl.1 (by decide) (by decide) rfl (Nat.le_of_ble_eq_true rfl) dJ0_charAt_5068e_12 (fun H locs hw => ?_)
  exact r_rn E hw (pk_nc _) dJ0_charAt_5068e_15
theorem sL_lt : ∀ w, w < 65 → sL w < 100 := by decide
theorem sL_in {w : Nat} (hz : w < 65) {i : Int32} (h : vp_in i (sL w)) : i < nI (sL w) := by
  obtain ⟨j, hj, rfl⟩ := vp_in_of h (by have := sL_lt w hz; omega)
  exact nI_lt hj (by have := sL_lt w hz; omega)
/-- the char of a String constant at a place -/
def sH (w : Nat) (i : Int32) : Int32 := ((sC w i.toNatClampNeg &&& 255).toUInt32 % 65536).toInt32
