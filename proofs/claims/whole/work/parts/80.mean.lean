/-! ===== what a law's codes and steps mean ===== -/
def cL (F : Fa) : List Int32 → Tr → Tr
  | [], q => q
  | c :: cs, q => cL F cs (cw F c q)
def mL (F : Fa) : List (Int32 × Int32) → List Int32 → Option (List Int32)
  | [], st => some st
  | x :: xs, st => match mw F x.1 x.2 st with | some s => mL F xs s | none => none
theorem cL_app {F : Fa} : ∀ {a b : List Int32} {q : Tr}, cL F (a ++ b) q = cL F b (cL F a q)
  | [], b, q => rfl
  | c :: a, b, q => cL_app (a := a)
theorem mL_app {F : Fa} : ∀ {a b : List (Int32 × Int32)} {st : List Int32} {s : List Int32}, mL F a st = some s → mL F (a ++ b) st = mL F b s
  | [], b, st, s, h => by cases h; rfl
  | c :: a, b, st, s, h => by
    show (match mw F c.1 c.2 st with | some s => mL F (a ++ b) s | none => none) = _
    have h : (match mw F c.1 c.2 st with | some s => mL F a s | none => none) = some s := h
    cases e : mw F c.1 c.2 st with
    | none => rw [e] at h; cases h
    | some s1 => rw [e] at h; exact mL_app h
theorem cP_n {t : Nat} {b : Bool} (h : t < 2 ^ 31) : cP (nI t) b = nI (2 * t + b.toNat) := by
  unfold cP
  rw [pk_shlN (1 &&& 31) 1 (by decide) (by omega), show t * 2 ^ 1 = 2 ^ 1 * t by omega]
  cases b
  · exact fa_or_sum (k := 1) (a := 0) t (by omega)
  · exact fa_or_sum (k := 1) (a := 1) t (by omega)
theorem c2_n {t r : Nat} {b : Bool} (h : t < 2 ^ 29) (hr : r < 4) : c2 (nI (4 * t + r)) b = nI (2 * t + b.toNat) := by
  unfold c2
  rw [pk_ushrN (by omega) 2 2 (by decide), show (4 * t + r) / 2 ^ 2 = t by omega]
  exact cP_n (by omega)
theorem x1_n {t : Nat} {b : Bool} (h : t < 2 ^ 30) : nI (2 * t + b.toNat) ^^^ 1 = nI (2 * t + (!b).toNat) := by
  rw [show (1 : Int32) = nI 1 from rfl, fb_xorI]
  congr 1
  apply Nat.eq_of_testBit_eq
  intro k
  rw [Nat.testBit_xor]
  cases k with
  | zero =>
    simp only [Nat.testBit_zero]
    cases b <;> simp <;> omega
  | succ k =>
    simp only [Nat.testBit_succ]
    rw [show (2 * t + b.toNat) / 2 = t by cases b <;> simp <;> omega, show (2 * t + (!b).toNat) / 2 = t by cases b <;> simp <;> omega, show 1 / 2 = 0 by omega, Nat.zero_testBit]
    simp
theorem a3_n {t r : Nat} (hr : r < 4) : nI (4 * t + r) &&& 3 = nI r := by
  rw [pk_and (nI (4 * t + r)) 2 (by decide)]
  congr 1
  show (4 * t + r) % 2 ^ 32 % 4 = r
  omega
/-- a sum's codes and steps -/
def SemS (cs : List Int32) (ss : List (Int32 × Int32)) (v : Fa → Int32) : Prop := (∀ F T s l, cL F cs (T, s, l) = (T, s + v F, l)) ∧ (∀ F st, mL F ss st = some (v F :: st)) ∧ ∀ c, c ∈ cs → c < 10 ∨ ¬ c < 12
/-- a condition's codes and steps -/
def SemB (cs : List Int32) (ss : List (Int32 × Int32)) (d : Fa → Bool) (h : Nat) : Prop := (∀ F t m l, t < 2 ^ m → m + h ≤ 31 → ∃ l2, cL F cs (nI t, 0, l) = (nI (2 * t + (d F).toNat), 0, l2)) ∧ (∀ F st, mL F ss st = some (bI (d F) :: st)) ∧ ∀ c, c ∈ cs → c < 10 ∨ ¬ c < 12
theorem SemB.up {cs : List Int32} {ss : List (Int32 × Int32)} {d : Fa → Bool} {h h' : Nat} (a : SemB cs ss d h) (hh : h ≤ h') : SemB cs ss d h' := ⟨fun F t m l h1 h2 => a.1 F t m l h1 (by omega), a.2⟩
theorem ok_app {a b : List Int32} (h1 : ∀ c, c ∈ a → c < 10 ∨ ¬ c < 12) (h2 : ∀ c, c ∈ b → c < 10 ∨ ¬ c < (12 : Int32)) : ∀ c, c ∈ a ++ b → c < 10 ∨ ¬ c < 12 := fun c h => by
  rcases List.mem_append.1 h with h | h
  · exact h1 c h
  · exact h2 c h
theorem SemS.plus {cs cs' : List Int32} {ss ss' : List (Int32 × Int32)} {v w : Fa → Int32} (a : SemS cs ss v) (b : SemS cs' ss' w) : SemS (cs ++ cs') (ss ++ ss' ++ [(10, 0)]) (fun F => v F + w F) := by
  refine ⟨fun F T s l => ?_, fun F st => ?_, ok_app a.2.2 b.2.2⟩
  · rw [cL_app, a.1, b.1, Int32.add_assoc]
  · rw [List.append_assoc, mL_app (a.2.1 F st), mL_app (b.2.1 F _)]
    rfl
theorem cw_8 {F : Fa} {T s l : Int32} : cw F 8 (T, s, l) = (cP T (decide (¬ s ≤ l)), 0, l) := by
  unfold cw
  rw [if_pos (by decide), if_neg (by decide), if_neg (by decide), if_neg (by decide), if_neg (by decide), if_neg (by decide), if_neg (by decide), if_neg (by decide), if_pos rfl]
theorem cw_9 {F : Fa} {T s l : Int32} : cw F 9 (T, s, l) = (cP T (decide (¬ l ≤ s)), 0, l) := by
  unfold cw
  rw [if_pos (by decide), if_neg (by decide), if_neg (by decide), if_neg (by decide), if_neg (by decide), if_neg (by decide), if_neg (by decide), if_neg (by decide), if_neg (by decide), if_pos rfl]
theorem mw_11 {F : Fa} {a b : Int32} {r : List Int32} : mL F [(11, 0)] (b :: a :: r) = some (bI (decide (¬ b ≤ a)) :: r) := by
  have : mw F 11 0 (b :: a :: r) = some (bI (decide (¬ b ≤ a)) :: r) := by
    unfold mw
    rw [if_pos (by decide), if_neg (by decide)]
    show some (mB 11 a b :: r) = _
    unfold mB
    rw [if_neg (by decide), if_pos rfl]
  unfold mL
  rw [this]
  rfl
theorem mw_12 {F : Fa} {a b : Int32} {r : List Int32} : mL F [(12, 0)] (b :: a :: r) = some (bI (decide (¬ a ≤ b)) :: r) := by
  have : mw F 12 0 (b :: a :: r) = some (bI (decide (¬ a ≤ b)) :: r) := by
    unfold mw
    rw [if_pos (by decide), if_neg (by decide)]
    show some (mB 12 a b :: r) = _
    unfold mB
    rw [if_neg (by decide), if_neg (by decide), if_pos rfl]
  unfold mL
  rw [this]
  rfl
theorem SemS.cmp {cs cs' : List Int32} {ss ss' : List (Int32 × Int32)} {v w : Fa → Int32} (a : SemS cs ss v) (b : SemS cs' ss' w) (lt : Bool) : SemB (cs ++ [7] ++ cs' ++ [if lt then 8 else 9]) (ss ++ ss' ++ [(if lt then 11 else 12, 0)]) (fun F => if lt then decide (¬ w F ≤ v F) else decide (¬ v F ≤ w F)) 1 := by
  refine ⟨fun F t m l h1 h2 => ?_, fun F st => ?_, ?_⟩
  · have hm : 2 ^ m ≤ 2 ^ 30 := Nat.pow_le_pow_right (by omega) (by omega)
    rw [cL_app, cL_app, cL_app, a.1]
    show ∃ l2, cL F [_] (cL F cs' (nI t, 0, 0 + v F)) = _
    rw [b.1, Int32.zero_add, Int32.zero_add]
    cases lt
    · exact ⟨_, by
        show cw F 9 (nI t, w F, v F) = _
        rw [cw_9, cP_n (by omega)]; rfl⟩
    · exact ⟨_, by
        show cw F 8 (nI t, w F, v F) = _
        rw [cw_8, cP_n (by omega)]; rfl⟩
  · rw [List.append_assoc, mL_app (a.2.1 F st), mL_app (b.2.1 F _)]
    cases lt
    · exact mw_12
    · exact mw_11
  · refine ok_app (ok_app (ok_app a.2.2 ?_) b.2.2) ?_
    · intro c h
      rw [List.mem_singleton.1 h]; decide
    · intro c h
      rw [List.mem_singleton.1 h]
      cases lt <;> decide
theorem SemB.neg {cs : List Int32} {ss : List (Int32 × Int32)} {d : Fa → Bool} {h : Nat} (a : SemB cs ss d h) (h0 : 1 ≤ h) : SemB (cs ++ [4]) (ss ++ [(13, 0)]) (fun F => !d F) h := by
  refine ⟨fun F t m l h1 h2 => ?_, fun F st => ?_, ok_app a.2.2 (fun c h => by rw [List.mem_singleton.1 h]; decide)⟩
  · have hm : 2 ^ m ≤ 2 ^ 30 := Nat.pow_le_pow_right (by omega) (by omega)
    obtain ⟨l2, e⟩ := a.1 F t m l h1 h2
    rw [cL_app, e]
    exact ⟨l2, by
      show (nI (2 * t + (d F).toNat) ^^^ 1, (0 : Int32), l2) = _
      rw [x1_n (by omega)]⟩
  · rw [mL_app (a.2.1 F st)]
    show some ((1 - bI (d F)) :: st) = some (bI (!d F) :: st)
    cases d F <;> rfl
theorem SemB.two {cs cs' : List Int32} {ss ss' : List (Int32 × Int32)} {d e : Fa → Bool} {h h' : Nat} (a : SemB cs ss d h) (b : SemB cs' ss' e h') (hh : h' + 1 ≤ h) (an : Bool) : SemB (cs ++ cs' ++ [if an then 5 else 6]) (ss ++ ss' ++ [(if an then 14 else 15, 0)]) (fun F => if an then d F && e F else d F || e F) (h + 1) := by
  refine ⟨fun F t m l h1 h2 => ?_, fun F st => ?_, ok_app (ok_app a.2.2 b.2.2) ?_⟩
  · have hm : 2 ^ m ≤ 2 ^ 29 := Nat.pow_le_pow_right (by omega) (by omega)
    obtain ⟨l2, e2⟩ := a.1 F t m l h1 (by omega)
    obtain ⟨l3, e3⟩ := b.1 F (2 * t + (d F).toNat) (m + 1) l2 (by rw [Nat.pow_succ]; cases d F <;> simp <;> omega) (by omega)
    rw [cL_app, cL_app, e2, e3]
    refine ⟨l3, ?_⟩
    rw [show 2 * (2 * t + (d F).toNat) + (e F).toNat = 4 * t + (2 * (d F).toNat + (e F).toNat) by omega]
    have hr : 2 * (d F).toNat + (e F).toNat < 4 := by cases d F <;> cases e F <;> decide
    cases an
    · show (c2 (nI (4 * t + _)) (decide (¬ nI (4 * t + _) &&& 3 = 0)), (0 : Int32), l3) = _
      rw [a3_n hr, c2_n (by omega) hr]
      show _ = (nI (2 * t + (d F || e F).toNat), (0 : Int32), l3)
      cases d F <;> cases e F <;> rfl
    · show (c2 (nI (4 * t + _)) (decide (nI (4 * t + _) &&& 3 = 3)), (0 : Int32), l3) = _
      rw [a3_n hr, c2_n (by omega) hr]
      show _ = (nI (2 * t + (d F && e F).toNat), (0 : Int32), l3)
      cases d F <;> cases e F <;> rfl
  · rw [List.append_assoc, mL_app (a.2.1 F st), mL_app (b.2.1 F _)]
    cases an
    · show some (mB 15 (bI (d F)) (bI (e F)) :: st) = some (bI (d F || e F) :: st)
      cases d F <;> cases e F <;> rfl
    · show some (mB 14 (bI (d F)) (bI (e F)) :: st) = some (bI (d F && e F) :: st)
      cases d F <;> cases e F <;> rfl
  · intro c h
    rw [List.mem_singleton.1 h]
    cases an <;> decide
