/-! ===== the model's steps ===== -/
def mV (F : Fa) (s n : Int32) : Int32 := if s = 0 then F.1 else if s = 1 then F.2.1 else if s = 2 then F.2.2.1 else if s = 3 then F.2.2.2.1 else if s = 4 then F.2.2.2.2.1 else if s = 5 then F.2.2.2.2.2.1 else if s = 6 then bI F.2.2.2.2.2.2.1 else if s = 7 then bI F.2.2.2.2.2.2.2.1 else if s = 8 then bI F.2.2.2.2.2.2.2.2 else n
def mB (s a b : Int32) : Int32 := if s = 10 then a + b else bI (if s = 11 then decide (¬ b ≤ a) else if s = 12 then decide (¬ a ≤ b) else if s = 14 then decide (a + b = 2) else decide (¬ a + b ≤ 0))
def mw (F : Fa) (s n : Int32) (st : List Int32) : Option (List Int32) :=
  if 9 < s then (if s = 13 then (match st with | a :: r => some ((1 - a) :: r) | [] => none) else (match st with | b :: a :: r => some (mB s a b :: r) | _ => none)) else some (mV F s n :: st)
def mR (F : Fa) (W : Nat → Int32) (i : Nat) : Nat → List Int32 → Option (List Int32)
  | 0, st => some st
  | m + 1, st => match mR F W i m st with
    | some st => mw F (W (351 + 2 * (i + m))) (W (352 + 2 * (i + m))) st
    | none => none
def LawW (W : Nat → Int32) (n : Nat) (ty : Nat → Bool) (t : Nat → Fa → Bool) : Prop :=
  W 314 = nI n ∧ ∃ a b : Nat → Nat, ∀ j, j < n → W (315 + 3 * j) = bI (ty j) ∧ W (316 + 3 * j) = nI (a j) ∧ W (317 + 3 * j) = nI (b j) ∧ a j ≤ b j ∧ b j ≤ 400 ∧
    ∀ F, (∀ m, m ≤ b j - a j → ∃ st, mR F W (a j) m [] = some st) ∧ ((mR F W (a j) (b j - a j) [] = some [] ∧ t j F = true) ∨ mR F W (a j) (b j - a j) [] = some [bI (t j F)])
def LM (W : Nat → Int32) (L : Fa → Bool) : Prop :=
  (W 3 = 0 ∧ L = l0) ∨ ∃ n ty t, W 3 = 1 ∧ n ≤ 12 ∧ LawW W n ty t ∧ L = lam n ty t
/-- the row of values holds a stack -/
def Sk (f : Nat → Int32) : List Int32 → Prop
  | [] => True
  | x :: r => f r.length = x ∧ Sk f r
theorem Sk.up {f : Nat → Int32} {x : Int32} : ∀ {r : List Int32} {k : Nat}, Sk f r → r.length ≤ k → Sk (upd f k x) r
  | [], _, _, _ => trivial
  | y :: r, k, h, hk => by
    have hk : r.length + 1 ≤ k := hk
    exact ⟨by rw [pk_un (by omega)]; exact h.1, h.2.up (by omega)⟩
theorem mw_len {F : Fa} {s n : Int32} {st st' : List Int32} (h : mw F s n st = some st') : st'.length ≤ st.length + 1 := by
  unfold mw at h
  split at h
  · split at h
    · cases st with
      | nil => cases h
      | cons a r => cases h; simp
    · cases st with
      | nil => cases h
      | cons b r =>
        cases r with
        | nil => cases h
        | cons a r => cases h; simp
  · cases h; simp
theorem mR_len {F : Fa} {W : Nat → Int32} {i : Nat} : ∀ {m : Nat} {st : List Int32}, mR F W i m [] = some st → st.length ≤ m
  | 0, st, h => by cases h; simp
  | m + 1, st, h => by
    unfold mR at h
    cases e : mR F W i m [] with
    | none => rw [e] at h; cases h
    | some st0 =>
      rw [e] at h
      have := mR_len e
      have := mw_len h
      omega
/-- what a look of the model's writes: its notes, and the row of values -/
def My (V V' : VT) : Prop := (∀ j, j ≠ 22 → j ≠ 83 → V' j = V j) ∧ ∀ k, k < 18 ∨ 24 < k → V' 22 k = V 22 k
theorem My.rf {V : VT} : My V V := ⟨fun _ _ _ => rfl, fun _ _ => rfl⟩
theorem My.tr {V V1 V2 : VT} (h1 : My V V1) (h2 : My V1 V2) : My V V2 := ⟨fun j hj hj2 => (h2.1 j hj hj2).trans (h1.1 j hj hj2), fun k hk => (h2.2 k hk).trans (h1.2 k hk)⟩
theorem My.v {V : VT} {f : Nat → Int32} : My V (va_up V 83 f) := ⟨fun j _ hj => va_n hj, fun k _ => by rw [va_n (by omega)]⟩
theorem My.n {V : VT} {k : Nat} {x : Int32} (h : 18 ≤ k) (h2 : k ≤ 24) : My V (va_up V 22 (upd (V 22) k x)) := ⟨fun j hj _ => va_n hj, fun m hm => by rw [va_s, pk_un (by omega)]⟩
/-- the notes of a look -/
def MF (V : VT) (A : AT) (h p t fog m : Nat) (up away : Bool) : Prop := V 22 18 = nI h ∧ V 22 19 = nI p ∧ V 22 20 = nI t ∧ V 22 21 = nI fog ∧ V 22 22 = nI m ∧ V 22 23 = bI up ∧ V 22 24 = bI away
section ML
variable {V : VT} {A : AT}
theorem m_lowOf (hM : RM (V 76) A) (hW : WA A) {h m : Nat} (hh : h < aS A 0) (hm : m ≤ 3) : fX10_lowOf V (nI h) (nI m) = some (nI (aH A h 1 - m)) := by
  have hb := hW.2.1 h hh
  unfold fX10_lowOf
  have e1 : fX10_of V (nI h) 1 = some (nI (aH A h 1)) := m_of hM hW hh (k := 1) (by omega)
  rw [e1, q_R]
  by_cases hc : aH A h 1 ≤ m
  · have : ¬ (0 : Int32) < nI (aH A h 1) - nI m := by
      rw [fa_lt, pk_sub_toInt (by omega) (by omega)]
      have : (0 : Int32).toInt = 0 := by decide
      omega
    rw [if_neg this, show aH A h 1 - m = 0 by omega]; rfl
  · rw [pk_sub (by omega), if_pos (show (0 : Int32) < nI (aH A h 1 - m) from nI_lt (a := 0) (b := aH A h 1 - m) (by omega) (by omega))]
theorem m_highOf (hM : RM (V 76) A) (hW : WA A) {h m : Nat} (hh : h < aS A 0) (hm : m ≤ 3) : fX10_highOf V (nI h) (nI m) = some (nI (min 23 (aH A h 2 + m))) := by
  have hb := hW.2.1 h hh
  unfold fX10_highOf
  have e1 : fX10_of V (nI h) 2 = some (nI (aH A h 2)) := m_of hM hW hh (k := 2) (by omega)
  rw [e1, q_R, nI_add, q_lit]
  by_cases hc : aH A h 2 + m < 23
  · rw [if_pos (nI_lt hc (by omega)), show min 23 (aH A h 2 + m) = aH A h 2 + m by omega]
  · rw [if_neg (nI_nlt (by omega) (by omega)), show min 23 (aH A h 2 + m) = 23 by omega]
theorem m_in {a b c : Nat} (ha : a < 2 ^ 31) (hb : b < 2 ^ 31) (hc : c < 2 ^ 31) : fX10_in V (nI a) (nI b) (nI c) = some (bI (decide (b ≤ a ∧ a ≤ c))) := by
  unfold fX10_in
  by_cases h1 : a < b
  · rw [if_pos (nI_lt h1 hb), q_zo0, decide_eq_false (by omega)]; rfl
  · rw [if_neg (nI_nlt (by omega) ha)]
    by_cases h2 : c < a
    · rw [if_pos (nI_lt h2 ha), q_zo0, decide_eq_false (by omega)]; rfl
    · rw [if_neg (nI_nlt (by omega) hc), q_zo1, decide_eq_true (by omega)]; rfl
theorem m_isInWindow (hM : RM (V 76) A) (hW : WA A) {h p t fog m : Nat} {up away : Bool} (hh : h < aS A 0) (hp : p < 24) (hm : m ≤ 3) (hF : MF V A h p t fog m up away) : fX10_isInWindow V = some (bI (winB A h p m)) := by
  have hb := hW.2.1 h hh
  unfold fX10_isInWindow
  rw [hF.1, hF.2.1, hF.2.2.2.2.1, m_lowOf hM hW hh hm, q_R, m_highOf hM hW hh hm, q_R, m_in (by omega) (by omega) (by omega), q_R, q_zo]
  unfold winB
  congr 3
  apply propext
  omega
theorem m_factOf (hM : RM (V 76) A) (hW : WA A) {h p t fog m : Nat} {up away : Bool} (hh : h < aS A 0) (hp : p < 24) (hm : m ≤ 3) (hF : MF V A h p t fog m up away) (s n : Int32) : fX10_factOf V s n = some (mV (fa_ A h p t fog m up away) s n) := by
  have hb := hW.2.1 h hh
  unfold fX10_factOf mV
  have e0 : fX10_of V (nI h) 0 = some (nI (aH A h 0)) := m_of hM hW hh (k := 0) (by omega)
  have e4 : V 76 4 = nI (aS A 4) := hM.1 4 (by omega)
  rw [m_isInWindow hM hW hh hp hm hF, hF.1, hF.2.1, hF.2.2.1, hF.2.2.2.1, hF.2.2.2.2.2.1, hF.2.2.2.2.2.2, e0, q_R, q_R, q_abs (by omega) (by omega), show rd_ (4 : Int32) 1988 (some (V 76 (4 : Int32).toNatClampNeg)) = some (nI (aS A 4)) from by rw [q_lit, q_rd (by omega) (by omega), nI_clamp (by omega), e4]]
  simp only [q_ifb]
  by_cases c0 : s = 0; · simp only [if_pos c0]; rfl
  simp only [if_neg c0]
  by_cases c1 : s = 1; · simp only [if_pos c1]; rfl
  simp only [if_neg c1]
  by_cases c2 : s = 2; · simp only [if_pos c2]; rfl
  simp only [if_neg c2]
  by_cases c3 : s = 3; · simp only [if_pos c3]; rfl
  simp only [if_neg c3]
  by_cases c4 : s = 4; · simp only [if_pos c4]; rfl
  simp only [if_neg c4]
  by_cases c5 : s = 5; · simp only [if_pos c5]; rfl
  simp only [if_neg c5]
  by_cases c6 : s = 6; · simp only [if_pos c6]; cases up <;> rfl
  simp only [if_neg c6]
  by_cases c7 : s = 7; · simp only [if_pos c7]; cases away <;> rfl
  simp only [if_neg c7]
  by_cases c8 : s = 8
  · simp only [if_pos c8]
    show _ = some (bI (winB A h p m))
    cases winB A h p m <;> rfl
  simp only [if_neg c8]
theorem mR_S {F : Fa} {W : Nat → Int32} {i m : Nat} {st st2 : List Int32} (h : mR F W i m [] = some st) (h2 : mR F W i (m + 1) [] = some st2) : mw F (W (351 + 2 * (i + m))) (W (352 + 2 * (i + m))) st = some st2 := by
  unfold mR at h2
  rw [h] at h2
  exact h2
theorem m_step (hM : RM (V 76) A) (hW : WA A) {h p t fog m : Nat} {up away : Bool} (hh : h < aS A 0) (hp : p < 24) (hm : m ≤ 3) (hF : MF V A h p t fog m up away) {j a b k : Nat} (hj : j < 12) (hab : a ≤ b) (hb : b ≤ 400) (hw : V 76 (317 + 3 * j) = nI b) (hk : k < b - a) {V' : VT} {st st2 : List Int32} (hV : ∀ q, q ≠ 83 → V' q = V q) (h1 : mR (fa_ A h p t fog m up away) (V 76) a k [] = some st) (h2 : mR (fa_ A h p t fog m up away) (V 76) a (k + 1) [] = some st2) (hs : Sk (V' 83) st) :
    ∃ V2, iX10_holdsLine_L20 (V', nI st.length, nI (315 + 3 * j), nI (a + k)) = some (.inl (V2, nI st2.length, nI (315 + 3 * j), nI (a + (k + 1)))) ∧ (∀ q, q ≠ 83 → V2 q = V q) ∧ Sk (V2 83) st2 := by
  have hlen := mR_len h1
  have hst := mR_S h1 h2
  have e76 : V' 76 = V 76 := hV 76 (by omega)
  have e22 : V' 22 = V 22 := hV 22 (by omega)
  have hM' : RM (V' 76) A := by rw [e76]; exact hM
  have hF' : MF V' A h p t fog m up away := by unfold MF; rw [e22]; exact hF
  unfold iX10_holdsLine_L20 fX10_holdsLine_L20
  simp only []
  rw [e76]
  simp only [q_mulL, q_addL, q_add]
  rw [q_rd (by omega) (by omega), nI_clamp (by omega), show 315 + 3 * j + 2 = 317 + 3 * j by omega, hw, if_neg (nI_ge (by omega) (by omega)), q_rd (by omega) (by omega), nI_clamp (by omega), q_lt]
  unfold mw at hst
  by_cases c9 : (9 : Int32) < V 76 (351 + 2 * (a + k))
  · rw [if_pos c9] at hst
    rw [if_pos c9]
    by_cases c13 : V 76 (351 + 2 * (a + k)) = 13
    · rw [if_pos c13] at hst
      rw [if_pos c13]
      cases st with
      | nil => cases hst
      | cons x r =>
        cases hst
        have hl : r.length + 1 ≤ k := hlen
        have e1 : nI (x :: r).length - 1 = nI r.length := nI_pred r.length
        rw [e1, q_rd (by omega) (by omega), q_rd (by omega) (by omega), q_lt, q_lt, nI_clamp (by omega), hs.1]
        refine ⟨_, rfl, fun q hq => by rw [va_n hq]; exact hV q hq, ?_⟩
        rw [va_s]
        exact ⟨pk_us, hs.2.up (Nat.le_refl _)⟩
    · rw [if_neg c13] at hst
      rw [if_neg c13]
      cases st with
      | nil => cases hst
      | cons y r =>
        cases r with
        | nil => cases hst
        | cons x r =>
          cases hst
          have hl : r.length + 1 + 1 ≤ k := hlen
          have e1 : nI (y :: x :: r).length + (-1) = nI (r.length + 1) := pk_m1 (r.length + 1)
          have e2 : nI (r.length + 1) - 1 = nI r.length := nI_pred r.length
          have s1 : V' 83 (r.length + 1) = y := hs.1
          have s2 : V' 83 r.length = x := hs.2.1
          rw [e1, q_lt, e2, q_rd (by omega) (by omega), q_lt, nI_clamp (by omega), q_rd (by omega) (by omega), q_lt, nI_clamp (by omega), s1, s2]
          have key : ∀ (u : Bool), fX10_holdsLine_j218_20 V' (nI (r.length + 1)) (nI (315 + 3 * j)) (nI (a + k)) (V 76 (351 + 2 * (a + k))) x y (bI u) = some (.inl (va_up V' 83 (upd (V' 83) r.length (if V 76 (351 + 2 * (a + k)) = 10 then x + y else bI u)), nI (r.length + 1), nI (315 + 3 * j), nI (a + (k + 1)))) := by
            intro u
            unfold fX10_holdsLine_j218_20
            rw [e2, q_rd (by omega) (by omega), nI_clamp (by omega), nI_1]
            by_cases c10 : V 76 (351 + 2 * (a + k)) = 10
            · rw [if_pos c10, if_pos c10]; rfl
            · rw [if_neg c10, if_neg c10]
              cases u
              · rw [if_pos (show bI false = 0 from rfl), q_rd (by omega) (by omega)]; rfl
              · rw [if_neg (show ¬ bI true = 0 by decide), q_rd (by omega) (by omega)]; rfl
          have fin : ∀ u : Bool, mB (V 76 (351 + 2 * (a + k))) x y = (if V 76 (351 + 2 * (a + k)) = 10 then x + y else bI u) → ∃ V2, fX10_holdsLine_j218_20 V' (nI (r.length + 1)) (nI (315 + 3 * j)) (nI (a + k)) (V 76 (351 + 2 * (a + k))) x y (bI u) = some (.inl (V2, nI (mB (V 76 (351 + 2 * (a + k))) x y :: r).length, nI (315 + 3 * j), nI (a + (k + 1)))) ∧ (∀ q, q ≠ 83 → V2 q = V q) ∧ Sk (V2 83) (mB (V 76 (351 + 2 * (a + k))) x y :: r) := by
            intro u hu
            refine ⟨_, key u, fun q hq => by rw [va_n hq]; exact hV q hq, ?_⟩
            rw [va_s, hu]
            exact ⟨pk_us, hs.2.2.up (Nat.le_refl _)⟩
          by_cases c11 : V 76 (351 + 2 * (a + k)) = 11
          · rw [if_pos c11]
            have hB : ∀ u : Bool, u = decide (¬ y ≤ x) → mB (V 76 (351 + 2 * (a + k))) x y = (if V 76 (351 + 2 * (a + k)) = 10 then x + y else bI u) := by intro u hu; unfold mB; rw [if_pos c11, hu]
            by_cases cc : y ≤ x
            · rw [if_pos cc]; exact fin false (hB false (by simp [cc]))
            · rw [if_neg cc]; exact fin true (hB true (by simp [cc]))
          rw [if_neg c11]
          by_cases c12 : V 76 (351 + 2 * (a + k)) = 12
          · rw [if_pos c12]
            have hB : ∀ u : Bool, u = decide (¬ x ≤ y) → mB (V 76 (351 + 2 * (a + k))) x y = (if V 76 (351 + 2 * (a + k)) = 10 then x + y else bI u) := by intro u hu; unfold mB; rw [if_neg c11, if_pos c12, hu]
            by_cases cc : x ≤ y
            · rw [if_pos cc]; exact fin false (hB false (by simp [cc]))
            · rw [if_neg cc]; exact fin true (hB true (by simp [cc]))
          rw [if_neg c12]
          by_cases c14 : V 76 (351 + 2 * (a + k)) = 14
          · rw [if_pos c14]
            have hB : ∀ u : Bool, u = decide (x + y = 2) → mB (V 76 (351 + 2 * (a + k))) x y = (if V 76 (351 + 2 * (a + k)) = 10 then x + y else bI u) := by intro u hu; unfold mB; rw [if_neg c11, if_neg c12, if_pos c14, hu]
            by_cases cc : x + y = 2
            · rw [if_pos cc]; exact fin true (hB true (by simp [cc]))
            · rw [if_neg cc]; exact fin false (hB false (by simp [cc]))
          rw [if_neg c14]
          have hB : ∀ u : Bool, u = decide (¬ x + y ≤ 0) → mB (V 76 (351 + 2 * (a + k))) x y = (if V 76 (351 + 2 * (a + k)) = 10 then x + y else bI u) := by intro u hu; unfold mB; rw [if_neg c11, if_neg c12, if_neg c14, hu]
          by_cases cc : x + y ≤ 0
          · rw [if_pos cc]; exact fin false (hB false (by simp [cc]))
          · rw [if_neg cc]; exact fin true (hB true (by simp [cc]))
  · rw [if_neg c9] at hst
    cases hst
    rw [if_neg c9, m_factOf hM' hW hh hp hm hF', q_R, q_rd (by omega) (by omega), q_rd (by omega) (by omega), q_lt, nI_clamp (by omega), nI_clamp (by omega)]
    refine ⟨_, rfl, fun q hq => by rw [va_n hq]; exact hV q hq, ?_⟩
    rw [va_s, show 351 + 2 * (a + k) + 1 = 352 + 2 * (a + k) by omega]
    exact ⟨pk_us, hs.up (Nat.le_refl _)⟩
end ML
