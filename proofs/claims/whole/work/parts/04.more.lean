/-! ===== which cells are States and Laws; small rows ===== -/
def isSt (i : Nat) : Prop := 2 ≤ i ∧ i < 17
def isLo (i : Nat) : Prop := 17 ≤ i ∧ i < 20
theorem st_cases {P : Nat → Prop} (h : ∀ i, i < 17 → 2 ≤ i → P i) {i : Nat} (hi : isSt i) : P i := h i hi.2 hi.1
theorem st_lt {i : Nat} (h : isSt i) : i < 23 := by have := h.2; omega
theorem st_C {i : Nat} (h : isSt i) : sh_C i = 3 := by obtain ⟨h1, h2⟩ := h; unfold sh_C; rw [if_neg (by omega), if_neg (by omega), if_pos h2]
theorem st_c {i : Nat} (h : isSt i) : vwCl[sh_C i]? = some (RX6, TX6, 13) := by rw [st_C h]; rfl
theorem st_N {i : Nat} (h : isSt i) : sh_N i = 13 := by obtain ⟨h1, h2⟩ := h; unfold sh_N; rw [if_neg (by omega), if_neg (by omega), if_pos h2]
theorem st_R {i k : Nat} (h : isSt i) (hk : k < 3) : sh_R i k = some (18 + 3 * i + k) := by obtain ⟨h1, h2⟩ := h; unfold sh_R; rw [if_neg (by omega), if_neg (by omega), if_pos h2, if_pos hk]
theorem st_n {i k : Nat} (h : isSt i) (hk : 3 ≤ k) : sh_R i k = none := by obtain ⟨h1, h2⟩ := h; unfold sh_R; rw [if_neg (by omega), if_neg (by omega), if_pos h2, if_neg (by omega)]
theorem st_a1 {i t : Nat} (h : isSt i) (ht : t < 3) : 23 ≤ 18 + 3 * i + t := by obtain ⟨h1, h2⟩ := h; omega
theorem st_a2 {i t : Nat} (h : isSt i) (ht : t < 3) : 18 + 3 * i + t < 88 := by obtain ⟨h1, h2⟩ := h; omega
theorem st_a3 {i t : Nat} (h : isSt i) (ht : t < 3) : 18 + 3 * i + t ≠ 72 := by obtain ⟨h1, h2⟩ := h; omega
theorem st_a4 {i t : Nat} (h : isSt i) (ht : t < 3) : sh_Y (18 + 3 * i + t) = 1 := by obtain ⟨h1, h2⟩ := h; unfold sh_Y; rw [if_neg (by omega), if_neg (by omega), if_neg (by omega)]
theorem st_L0 {i : Nat} (h : isSt i) : sh_L (18 + 3 * i + 0) = 56 := by obtain ⟨h1, h2⟩ := h; unfold sh_L; rw [if_neg (by omega), if_pos (by omega), if_pos (by omega)]
theorem st_L1 {i : Nat} (h : isSt i) : sh_L (18 + 3 * i + 1) = 50 := by obtain ⟨h1, h2⟩ := h; unfold sh_L; rw [if_neg (by omega), if_pos (by omega), if_neg (by omega), if_pos (by omega)]
theorem st_L2 {i : Nat} (h : isSt i) : sh_L (18 + 3 * i + 2) = 60 := by obtain ⟨h1, h2⟩ := h; unfold sh_L; rw [if_neg (by omega), if_pos (by omega), if_neg (by omega), if_neg (by omega)]
theorem lo_lt {i : Nat} (h : isLo i) : i < 23 := by have := h.2; omega
theorem lo_C {i : Nat} (h : isLo i) : sh_C i = 1 := by obtain ⟨h1, h2⟩ := h; unfold sh_C; rw [if_neg (by omega), if_neg (by omega), if_neg (by omega), if_pos h2]
theorem lo_c {i : Nat} (h : isLo i) : vwCl[sh_C i]? = some (RX3, TX3, 10) := by rw [lo_C h]; rfl
theorem lo_N {i : Nat} (h : isLo i) : sh_N i = 10 := by obtain ⟨h1, h2⟩ := h; unfold sh_N; rw [if_neg (by omega), if_neg (by omega), if_neg (by omega), if_pos h2]
theorem lo_R {i k : Nat} (h : isLo i) (hk : k = 0) : sh_R i k = some (i + 52) := by obtain ⟨h1, h2⟩ := h; unfold sh_R; rw [if_neg (by omega), if_neg (by omega), if_neg (by omega), if_pos h2, if_pos hk]
theorem lo_n {i k : Nat} (h : isLo i) (hk : 1 ≤ k) : sh_R i k = none := by obtain ⟨h1, h2⟩ := h; unfold sh_R; rw [if_neg (by omega), if_neg (by omega), if_neg (by omega), if_pos h2, if_neg (by omega)]
theorem lo_a1 {i : Nat} (h : isLo i) : 23 ≤ i + 52 := by omega
theorem lo_a2 {i : Nat} (h : isLo i) : i + 52 < 88 := by have := h.2; omega
theorem lo_a3 {i : Nat} (h : isLo i) : i + 52 ≠ 72 := by have := h.2; omega
theorem lo_a4 {i : Nat} (h : isLo i) : sh_Y (i + 52) = 1 := by obtain ⟨h1, h2⟩ := h; unfold sh_Y; rw [if_neg (by omega), if_neg (by omega), if_neg (by omega)]
theorem lo_L {i : Nat} (h : isLo i) : sh_L (i + 52) = 400 := by obtain ⟨h1, h2⟩ := h; unfold sh_L; rw [if_neg (by omega), if_neg (by omega), if_pos (by omega)]
def dt2_ {a b r : Type} (q : a × b) (k : a → b → r) : r := k q.1 q.2
def dt3_ {a b c r : Type} (q : a × b × c) (k : a → b → c → r) : r := k q.1 q.2.1 q.2.2
def dt4_ {a b c d r : Type} (q : a × b × c × d) (k : a → b → c → d → r) : r := k q.1 q.2.1 q.2.2.1 q.2.2.2
def dt5_ {a b c d e r : Type} (q : a × b × c × d × e) (k : a → b → c → d → e → r) : r := k q.1 q.2.1 q.2.2.1 q.2.2.2.1 q.2.2.2.2
def dt6_ {a b c d e f r : Type} (q : a × b × c × d × e × f) (k : a → b → c → d → e → f → r) : r := k q.1 q.2.1 q.2.2.1 q.2.2.2.1 q.2.2.2.2.1 q.2.2.2.2.2
theorem tb_0 {w : Cond} (h : w ∈ k2_sels lw_privs) : w ∈ lw_tbl := List.mem_append_left _ h
theorem tb_1 {w : Cond} (h : w ∈ tables_1_1) : w ∈ lw_tbl := List.mem_append_right _ (List.mem_append_left _ h)
theorem tb_2 {w : Cond} (h : w ∈ tables_1_2) : w ∈ lw_tbl := List.mem_append_right _ (List.mem_append_right _ (List.mem_append_left _ h))
theorem tb_3 {w : Cond} (h : w ∈ tables_1_3) : w ∈ lw_tbl := List.mem_append_right _ (List.mem_append_right _ (List.mem_append_right _ (List.mem_append_left _ h)))
theorem tb_4 {w : Cond} (h : w ∈ tables_1_4) : w ∈ lw_tbl := List.mem_append_right _ (List.mem_append_right _ (List.mem_append_right _ (List.mem_append_right _ (List.mem_append_left _ h))))
theorem tb_5 {w : Cond} (h : w ∈ tables_1_5) : w ∈ lw_tbl := List.mem_append_right _ (List.mem_append_right _ (List.mem_append_right _ (List.mem_append_right _ (List.mem_append_right _ (List.mem_append_left _ h)))))
theorem tb_6 {w : Cond} (h : w ∈ tables_1_6) : w ∈ lw_tbl := List.mem_append_right _ (List.mem_append_right _ (List.mem_append_right _ (List.mem_append_right _ (List.mem_append_right _ (List.mem_append_right _ (List.mem_append_left _ h))))))
theorem tb_7 {w : Cond} (h : w ∈ tables_1_7) : w ∈ lw_tbl := List.mem_append_right _ (List.mem_append_right _ (List.mem_append_right _ (List.mem_append_right _ (List.mem_append_right _ (List.mem_append_right _ (List.mem_append_right _ (List.mem_append_left _ h)))))))
theorem tb_8 {w : Cond} (h : w ∈ tables_1_8) : w ∈ lw_tbl := List.mem_append_right _ (List.mem_append_right _ (List.mem_append_right _ (List.mem_append_right _ (List.mem_append_right _ (List.mem_append_right _ (List.mem_append_right _ (List.mem_append_right _ h)))))))
/-- an array's run of places copied: nothing out of range -/
def cp_ {α : Type} (sp dp n : Int32) (ls ld : Nat) (x : Option α) : Option α := if sp < 0 ∨ dp < 0 ∨ n < 0 ∨ ls < sp.toNatClampNeg + n.toNatClampNeg ∨ ld < dp.toNatClampNeg + n.toNatClampNeg then none else x
theorem cp_some {α : Type} {sp dp n : Int32} {ls ld : Nat} {x : Option α} {r : α} (h : cp_ sp dp n ls ld x = some r) : ¬ (sp < 0 ∨ dp < 0 ∨ n < 0 ∨ ls < sp.toNatClampNeg + n.toNatClampNeg ∨ ld < dp.toNatClampNeg + n.toNatClampNeg) ∧ x = some r := by
  unfold cp_ at h
  by_cases hc : sp < 0 ∨ dp < 0 ∨ n < 0 ∨ ls < sp.toNatClampNeg + n.toNatClampNeg ∨ ld < dp.toNatClampNeg + n.toNatClampNeg
  · rw [if_pos hc] at h; cases h
  · rw [if_neg hc] at h; exact ⟨hc, h⟩
section MW
variable {p : Program} {l : Launch} {e : Env} {R : Room} {s : State} {m : MethodId} {args : Array Value} {below : List Frame} {meth : Method} {c : Code} {H : Heap} {locs : List Loc} {cells slots : Nat} {Q : State → Prop}
variable {cc : ByteArray} {pc nL D : Nat} {ls : Array Slot} {rest : List Value} {own : String} {ret : Option FieldType} {G : GT} {B : BGt} {V V' : VT}
theorem en_B (E : En p s m args c meth cc nL own ret G B) : BGok B := E.2.2.2.2.2.2.2.2.1
theorem lv_eqi {x y : Int32} (h : y = x) (k : W p l e R s m args below meth c H locs cells slots Q (F0 m pc ls (.int y :: rest))) : W p l e R s m args below meth c H locs cells slots Q (F0 m pc ls (.int x :: rest)) := h ▸ k
theorem lv_eql {x y : Int64} (h : y = x) (k : W p l e R s m args below meth c H locs cells slots Q (F0 m pc ls (.long y :: rest))) : W p l e R s m args below meth c H locs cells slots Q (F0 m pc ls (.long x :: rest)) := h ▸ k
end MW
