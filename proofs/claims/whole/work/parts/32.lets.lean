/-! ===== what a law says of facts: house, place, hour, apart, fog, day, up, away, in the window ===== -/
abbrev Fa : Type := Int32 × Int32 × Int32 × Int32 × Int32 × Int32 × Bool × Bool × Bool
def l0 (F : Fa) : Bool := F.2.2.2.2.2.2.1 && F.2.2.2.2.2.2.2.2 && !F.2.2.2.2.2.2.2.1 && decide (¬ (12 : Int32) - F.2.2.2.2.1 < F.2.2.2.1)
def anyB (p : Nat → Bool) : Nat → Bool
  | 0 => false
  | n + 1 => anyB p n || p n
def lam (n : Nat) (ty : Nat → Bool) (t : Nat → Fa → Bool) (F : Fa) : Bool := anyB (fun j => !ty j && t j F) n && !anyB (fun j => ty j && t j F) n
theorem anyB_iff {p : Nat → Bool} : ∀ {n : Nat}, anyB p n = true ↔ ∃ k, k < n ∧ p k = true
  | 0 => by simp [anyB]
  | n + 1 => by
    unfold anyB
    rw [Bool.or_eq_true, anyB_iff]
    constructor
    · rintro (⟨k, h1, h2⟩ | h)
      · exact ⟨k, by omega, h2⟩
      · exact ⟨n, by omega, h⟩
    · rintro ⟨k, h1, h2⟩
      by_cases hk : k = n
      · subst hk; exact Or.inr h2
      · exact Or.inl ⟨k, by omega, h2⟩
theorem anyB_mono {p : Nat → Bool} {m n : Nat} (h : anyB p m = true) (hm : m ≤ n) : anyB p n = true := by
  obtain ⟨k, h1, h2⟩ := anyB_iff.1 h
  exact anyB_iff.2 ⟨k, by omega, h2⟩
/-! ===== the class's codes ===== -/
def cV (F : Fa) (c : Int32) : Int32 := if c = 12 then F.1 else if c = 13 then F.2.1 else if c = 14 then F.2.2.1 else if c = 15 then F.2.2.2.1 else if c = 16 then F.2.2.2.2.1 else if c = 17 then F.2.2.2.2.2.1 else c - 100
def cP (T : Int32) (b : Bool) : Int32 := (T <<< ((1 : Int32) &&& 31)) ||| bI b
def c2 (T : Int32) (b : Bool) : Int32 := ((T.toUInt32 >>> ((2 : Int32).toUInt32 &&& Int32.toUInt32 31)).toInt32 <<< ((1 : Int32) &&& 31)) ||| bI b
abbrev Tr : Type := Int32 × Int32 × Int32
def cw (F : Fa) (c : Int32) (q : Tr) : Tr :=
  if c < 12 then
    (if c = 0 then (cP q.1 F.2.2.2.2.2.2.1, q.2.1, q.2.2) else if c = 1 then (cP q.1 F.2.2.2.2.2.2.2.1, q.2.1, q.2.2) else if c = 2 then (cP q.1 F.2.2.2.2.2.2.2.2, q.2.1, q.2.2)
    else if c = 4 then (q.1 ^^^ 1, q.2.1, q.2.2) else if c = 5 then (c2 q.1 (decide (q.1 &&& 3 = 3)), q.2.1, q.2.2) else if c = 6 then (c2 q.1 (decide (¬ q.1 &&& 3 = 0)), q.2.1, q.2.2)
    else if c = 7 then (q.1, 0, q.2.1) else if c = 8 then (cP q.1 (decide (¬ q.2.1 ≤ q.2.2)), 0, q.2.2) else if c = 9 then (cP q.1 (decide (¬ q.2.2 ≤ q.2.1)), 0, q.2.2) else (cP q.1 true, q.2.1, q.2.2))
  else (q.1, q.2.1 + cV F c, q.2.2)
def cR (F : Fa) (codes : Nat → Int32) (i : Nat) : Nat → Tr → Tr
  | 0, q => q
  | m + 1, q => cw F (codes (i + m)) (cR F codes i m q)
/-- the class's codes say n lines of which line j is blind or not, and holds or not -/
def LawD (sz : Int32) (codes : Nat → Int32) (n : Nat) (ty : Nat → Bool) (t : Nat → Fa → Bool) : Prop :=
  ∃ c : Nat → Nat, c 0 = 0 ∧ sz = nI (c n) ∧ c n ≤ 400 ∧ ∀ j, j < n → c j < c (j + 1) ∧ codes (c (j + 1) - 1) = (if ty j then 11 else 10) ∧
    (∀ k, c j ≤ k → k < c (j + 1) - 1 → codes k < 10 ∨ ¬ codes k < 12) ∧ ∀ F l, ∃ T l2, cR F codes (c j) (c (j + 1) - 1 - c j) (0, 0, l) = (T, 0, l2) ∧ ((T &&& 1 = 1) ↔ t j F = true)
def LD (ln sz : Int32) (codes : Nat → Int32) (L : Fa → Bool) : Prop :=
  (ln = -1 ∧ L = l0) ∨ ∃ n ty t, ln = nI n ∧ n ≤ 12 ∧ LawD sz codes n ty t ∧ L = lam n ty t
/-! ===== a look: what the class writes at it ===== -/
def Ly (V V' : VT) : Prop := (∀ j, j ≠ 17 → V' j = V j) ∧ ∀ k, k < 3 → V' 17 k = V 17 k
theorem Ly.rf {V : VT} : Ly V V := ⟨fun _ _ => rfl, fun _ _ => rfl⟩
theorem Ly.tr {V V1 V2 : VT} (h1 : Ly V V1) (h2 : Ly V1 V2) : Ly V V2 := ⟨fun j hj => (h2.1 j hj).trans (h1.1 j hj), fun k hk => (h2.2 k hk).trans (h1.2 k hk)⟩
theorem Ly.up {V : VT} {k : Nat} {x : Int32} (h : 3 ≤ k) : Ly V (va_up V 17 (upd (V 17) k x)) := ⟨fun j hj => va_n hj, fun m hm => by rw [va_s, pk_un (by omega)]⟩
theorem RS.ly {V V' : VT} {i : Nat} {A : AT} (h : RS V i A) (hi : i < 17) (hl : Ly V V') : RS V' i A := by
  have e0 := hl.1 i (by omega)
  have e1 := hl.1 (18 + 3 * i + 0) (by omega)
  have e2 := hl.1 (18 + 3 * i + 1) (by omega)
  have e3 := hl.1 (18 + 3 * i + 2) (by omega)
  unfold RS
  rw [e0, e1, e2, e3]
  exact h
def Lz (F : Fa) (V : VT) (q : Tr) : Prop := V 17 3 = bI F.2.2.2.2.2.2.1 ∧ V 17 4 = bI F.2.2.2.2.2.2.2.1 ∧ V 17 5 = bI F.2.2.2.2.2.2.2.2 ∧ V 17 6 = F.2.2.2.1 ∧ V 17 7 = q.1 ∧ V 17 8 = q.2.1 ∧ V 17 9 = q.2.2
theorem c_push {V : VT} {b : Bool} {F : Fa} {q : Tr} (h : Lz F V q) : ∃ V', fX3_push V (bI b) = some V' ∧ Ly V V' ∧ Lz F V' (cP q.1 b, q.2.1, q.2.2) := by
  obtain ⟨h3, h4, h5, h6, h7, h8, h9⟩ := h
  refine ⟨va_up V 17 (upd (V 17) 7 (cP q.1 b)), ?_, Ly.up (by omega), ?_⟩
  · unfold fX3_push
    rw [h7]
    cases b
    · rw [if_pos (show bI false = 0 from rfl)]; rfl
    · rw [if_neg (show ¬ bI true = 0 by decide)]; rfl
  · unfold Lz
    simp only [va_s, pk_us, pk_un (show (3 : Nat) ≠ 7 by omega), pk_un (show (4 : Nat) ≠ 7 by omega), pk_un (show (5 : Nat) ≠ 7 by omega), pk_un (show (6 : Nat) ≠ 7 by omega), pk_un (show (8 : Nat) ≠ 7 by omega), pk_un (show (9 : Nat) ≠ 7 by omega)]
    exact ⟨h3, h4, h5, h6, trivial, h8, h9⟩
theorem c_two {V : VT} {b : Bool} {F : Fa} {q : Tr} (h : Lz F V q) : ∃ V', fX3_putForTwo V (bI b) = some V' ∧ Ly V V' ∧ Lz F V' (c2 q.1 b, q.2.1, q.2.2) := by
  obtain ⟨h3, h4, h5, h6, h7, h8, h9⟩ := h
  refine ⟨va_up V 17 (upd (V 17) 7 (c2 q.1 b)), ?_, Ly.up (by omega), ?_⟩
  · unfold fX3_putForTwo
    rw [h7]
    cases b
    · rw [if_pos (show bI false = 0 from rfl)]; rfl
    · rw [if_neg (show ¬ bI true = 0 by decide)]; rfl
  · unfold Lz
    simp only [va_s, pk_us, pk_un (show (3 : Nat) ≠ 7 by omega), pk_un (show (4 : Nat) ≠ 7 by omega), pk_un (show (5 : Nat) ≠ 7 by omega), pk_un (show (6 : Nat) ≠ 7 by omega), pk_un (show (8 : Nat) ≠ 7 by omega), pk_un (show (9 : Nat) ≠ 7 by omega)]
    exact ⟨h3, h4, h5, h6, trivial, h8, h9⟩
theorem Lz.t {F : Fa} {V : VT} {q : Tr} (h : Lz F V q) (x : Int32) : Lz F (va_up V 17 (upd (V 17) 7 x)) (x, q.2.1, q.2.2) := by
  obtain ⟨h3, h4, h5, h6, h7, h8, h9⟩ := h
  unfold Lz
  simp only [va_s, pk_us, pk_un (show (3 : Nat) ≠ 7 by omega), pk_un (show (4 : Nat) ≠ 7 by omega), pk_un (show (5 : Nat) ≠ 7 by omega), pk_un (show (6 : Nat) ≠ 7 by omega), pk_un (show (8 : Nat) ≠ 7 by omega), pk_un (show (9 : Nat) ≠ 7 by omega)]
  exact ⟨h3, h4, h5, h6, trivial, h8, h9⟩
theorem Lz.s {F : Fa} {V : VT} {q : Tr} (h : Lz F V q) (x : Int32) : Lz F (va_up V 17 (upd (V 17) 8 x)) (q.1, x, q.2.2) := by
  obtain ⟨h3, h4, h5, h6, h7, h8, h9⟩ := h
  unfold Lz
  simp only [va_s, pk_us, pk_un (show (3 : Nat) ≠ 8 by omega), pk_un (show (4 : Nat) ≠ 8 by omega), pk_un (show (5 : Nat) ≠ 8 by omega), pk_un (show (6 : Nat) ≠ 8 by omega), pk_un (show (7 : Nat) ≠ 8 by omega), pk_un (show (9 : Nat) ≠ 8 by omega)]
  exact ⟨h3, h4, h5, h6, h7, trivial, h9⟩
theorem Lz.l {F : Fa} {V : VT} {q : Tr} (h : Lz F V q) (x : Int32) : Lz F (va_up V 17 (upd (V 17) 9 x)) (q.1, q.2.1, x) := by
  obtain ⟨h3, h4, h5, h6, h7, h8, h9⟩ := h
  unfold Lz
  simp only [va_s, pk_us, pk_un (show (3 : Nat) ≠ 9 by omega), pk_un (show (4 : Nat) ≠ 9 by omega), pk_un (show (5 : Nat) ≠ 9 by omega), pk_un (show (6 : Nat) ≠ 9 by omega), pk_un (show (7 : Nat) ≠ 9 by omega), pk_un (show (8 : Nat) ≠ 9 by omega)]
  exact ⟨h3, h4, h5, h6, h7, h8, trivial⟩
theorem c_weigh {V : VT} {c : Int32} {F : Fa} {q : Tr} (h : Lz F V q) (hc : c < 10) : ∃ V', fX3_weigh V c = some V' ∧ Ly V V' ∧ Lz F V' (cw F c q) := by
  have hc12 : c < 12 := by
    rw [fa_lt] at hc ⊢
    have : (10 : Int32).toInt = 10 := by decide
    have : (12 : Int32).toInt = 12 := by decide
    omega
  unfold fX3_weigh cw
  rw [if_pos hc12]
  by_cases h0 : c = 0
  · rw [if_pos h0, if_pos h0, h.1]
    obtain ⟨V', e, r⟩ := c_push (b := F.2.2.2.2.2.2.1) h
    rw [e]; exact ⟨V', rfl, r⟩
  rw [if_neg h0, if_neg h0]
  by_cases h1 : c = 1
  · rw [if_pos h1, if_pos h1, h.2.1]
    obtain ⟨V', e, r⟩ := c_push (b := F.2.2.2.2.2.2.2.1) h
    rw [e]; exact ⟨V', rfl, r⟩
  rw [if_neg h1, if_neg h1]
  by_cases h2 : c = 2
  · rw [if_pos h2, if_pos h2, h.2.2.1]
    obtain ⟨V', e, r⟩ := c_push (b := F.2.2.2.2.2.2.2.2) h
    rw [e]; exact ⟨V', rfl, r⟩
  rw [if_neg h2, if_neg h2]
  by_cases h4 : c = 4
  · rw [if_pos h4, if_pos h4, h.2.2.2.2.1]
    exact ⟨_, rfl, Ly.up (by omega), h.t _⟩
  rw [if_neg h4, if_neg h4]
  by_cases h5 : c = 5
  · rw [if_pos h5, if_pos h5, h.2.2.2.2.1]
    by_cases hq : q.1 &&& 3 = 3
    · rw [if_pos hq]
      obtain ⟨V', e, r⟩ := c_two (b := true) h
      have e : fX3_putForTwo V 1 = some V' := e
      rw [e]; refine ⟨V', rfl, r.1, ?_⟩
      rw [decide_eq_true hq]; exact r.2
    · rw [if_neg hq]
      obtain ⟨V', e, r⟩ := c_two (b := false) h
      have e : fX3_putForTwo V 0 = some V' := e
      rw [e]; refine ⟨V', rfl, r.1, ?_⟩
      rw [decide_eq_false hq]; exact r.2
  rw [if_neg h5, if_neg h5]
  by_cases h6 : c = 6
  · rw [if_pos h6, if_pos h6, h.2.2.2.2.1]
    by_cases hq : q.1 &&& 3 = 0
    · rw [if_pos hq]
      obtain ⟨V', e, r⟩ := c_two (b := false) h
      have e : fX3_putForTwo V 0 = some V' := e
      rw [e]; refine ⟨V', rfl, r.1, ?_⟩
      rw [decide_eq_false (fun h => h hq)]; exact r.2
    · rw [if_neg hq]
      obtain ⟨V', e, r⟩ := c_two (b := true) h
      have e : fX3_putForTwo V 1 = some V' := e
      rw [e]; refine ⟨V', rfl, r.1, ?_⟩
      rw [decide_eq_true hq]; exact r.2
  rw [if_neg h6, if_neg h6]
  by_cases h7 : c = 7
  · rw [if_pos h7, if_pos h7, h.2.2.2.2.2.1]
    exact ⟨_, rfl, (Ly.up (by omega)).tr (Ly.up (by omega)), (h.l _).s _⟩
  rw [if_neg h7, if_neg h7]
  by_cases h8 : c = 8
  · rw [if_pos h8, if_pos h8, h.2.2.2.2.2.1, h.2.2.2.2.2.2]
    by_cases hq : q.2.1 ≤ q.2.2
    · rw [if_pos hq]
      obtain ⟨V', e, r⟩ := c_push (b := false) h
      have e : fX3_push V 0 = some V' := e
      rw [e]; refine ⟨_, rfl, r.1.tr (Ly.up (by omega)), ?_⟩
      rw [decide_eq_false (fun h => h hq)]; exact r.2.s 0
    · rw [if_neg hq]
      obtain ⟨V', e, r⟩ := c_push (b := true) h
      have e : fX3_push V 1 = some V' := e
      rw [e]; refine ⟨_, rfl, r.1.tr (Ly.up (by omega)), ?_⟩
      rw [decide_eq_true hq]; exact r.2.s 0
  rw [if_neg h8, if_neg h8]
  by_cases h9 : c = 9
  · rw [if_pos h9, if_pos h9, h.2.2.2.2.2.1, h.2.2.2.2.2.2]
    by_cases hq : q.2.2 ≤ q.2.1
    · rw [if_pos hq]
      obtain ⟨V', e, r⟩ := c_push (b := false) h
      have e : fX3_push V 0 = some V' := e
      rw [e]; refine ⟨_, rfl, r.1.tr (Ly.up (by omega)), ?_⟩
      rw [decide_eq_false (fun h => h hq)]; exact r.2.s 0
    · rw [if_neg hq]
      obtain ⟨V', e, r⟩ := c_push (b := true) h
      have e : fX3_push V 1 = some V' := e
      rw [e]; refine ⟨_, rfl, r.1.tr (Ly.up (by omega)), ?_⟩
      rw [decide_eq_true hq]; exact r.2.s 0
  rw [if_neg h9, if_neg h9]
  obtain ⟨V', e, r⟩ := c_push (b := true) h
  have e : fX3_push V 1 = some V' := e
  rw [e]; exact ⟨V', rfl, r⟩
/-! ===== the facts of a house, a place and an hour ===== -/
def upB (A : AT) (h t : Nat) : Bool := decide ((t + 24 - aH A h 3) % 24 < aH A h 4)
def winB (A : AT) (h p m : Nat) : Bool := decide (aH A h 1 ≤ p + m ∧ p ≤ aH A h 2 + m)
def apN (A : AT) (h p : Nat) : Nat := if aH A h 0 ≤ p then p - aH A h 0 else aH A h 0 - p
def fa_ (A : AT) (h p t fog m : Nat) (up away : Bool) : Fa := (nI h, nI p, nI t, nI (apN A h p), nI fog, nI (aS A 4), up, away, winB A h p m)
def fc (A : AT) (h p t : Nat) : Fa := fa_ A h p t (aS A 5) (aH A h 6) (upB A h t) (aw A h)
theorem q_fm0 : ∀ t, t < 24 → ∀ f, f < 24 → fJ9_floorMod_7cf53 (fun _ _ => 0) (nI t - nI f) 24 = some (nI ((t + 24 - f) % 24)) := by decide +kernel
theorem q_fm {V : VT} {t f : Nat} (ht : t < 24) (hf : f < 24) : fJ9_floorMod_7cf53 V (nI t - nI f) 24 = some (nI ((t + 24 - f) % 24)) := q_fm0 t ht f hf
theorem q_sublt {a b c : Nat} (ha : a < 2 ^ 30) (hb : b < 2 ^ 30) (hc : c < 2 ^ 30) : (nI a < nI b - nI c) ↔ a + c < b := by
  rw [fa_lt, pk_sub_toInt hb hc, nI_toInt (by omega)]
  omega
theorem q_abs {a b : Nat} (ha : a < 2 ^ 30) (hb : b < 2 ^ 30) : (if 0 ≤ nI a - nI b then nI a - nI b else 0 - (nI a - nI b)) = nI (if b ≤ a then a - b else b - a) := by
  by_cases h : b ≤ a
  · rw [if_pos h, pk_sub h, if_pos (nI_pos' (by omega))]
  · have h1 : ¬ (0 : Int32) ≤ nI a - nI b := by
      rw [fa_le, pk_sub_toInt ha hb]
      have : (0 : Int32).toInt = 0 := by decide
      omega
    rw [if_neg h, if_neg h1, ← pk_sub (show a ≤ b by omega)]
    have e : ∀ x y : Int32, 0 - (x - y) = y - x := by
      intro x y
      apply Int32.toBitVec_inj.1
      simp only [Int32.toBitVec_sub]
      rw [show ((0 : Int32)).toBitVec = 0#32 from rfl]
      apply BitVec.eq_of_toInt_eq
      simp only [BitVec.toInt_sub]
      simp
      congr 1
      omega
    exact e _ _
section CL
variable {V : VT} {i : Nat} {A : AT}
theorem c_isUp (hR : RS V i A) (hW : WA A) {h t : Nat} (hh : h < aS A 0) (ht : t < 24) : fX6_isUp V i (nI h) (nI t) = some (bI (upB A h t)) := by
  have hb := hW.2.1 h hh
  unfold fX6_isUp
  have e3 : fX6_ofHouse V i (nI h) 3 = some (nI (aH A h 3)) := c_ofHouse hR hW hh (k := 3) (by omega)
  have e4 : fX6_ofHouse V i (nI h) 4 = some (nI (aH A h 4)) := c_ofHouse hR hW hh (k := 4) (by omega)
  rw [e3, q_R, q_fm ht (by omega), q_R, e4, q_R]
  have hm : (t + 24 - aH A h 3) % 24 < 24 := Nat.mod_lt _ (by omega)
  unfold upB
  by_cases hc : (t + 24 - aH A h 3) % 24 < aH A h 4
  · rw [if_neg (nI_ge hc (by omega)), q_zo1, decide_eq_true hc]; rfl
  · rw [if_pos (nI_le (by omega) (by omega)), q_zo0, decide_eq_false hc]; rfl
theorem c_inWindow (hR : RS V i A) (hW : WA A) {h p : Nat} (hh : h < aS A 0) (hp : p < 24) : fX6_inWindow V i (nI h) (nI p) = some (bI (winB A h p (aH A h 6))) := by
  have hb := hW.2.1 h hh
  unfold fX6_inWindow
  have e6 : fX6_ofHouse V i (nI h) 6 = some (nI (aH A h 6)) := c_ofHouse hR hW hh (k := 6) (by omega)
  have e1 : fX6_ofHouse V i (nI h) 1 = some (nI (aH A h 1)) := c_ofHouse hR hW hh (k := 1) (by omega)
  have e2 : fX6_ofHouse V i (nI h) 2 = some (nI (aH A h 2)) := c_ofHouse hR hW hh (k := 2) (by omega)
  rw [e6, q_R, e1, q_R, e2, q_R, nI_add]
  unfold winB
  by_cases c1 : p + aH A h 6 < aH A h 1
  · rw [if_pos ((q_sublt (by omega) (by omega) (by omega)).2 c1), q_zo0, decide_eq_false (by omega)]; rfl
  · rw [if_neg (fun e => c1 ((q_sublt (by omega) (by omega) (by omega)).1 e))]
    by_cases c2 : aH A h 2 + aH A h 6 < p
    · rw [if_pos (nI_lt c2 (by omega)), q_zo0, decide_eq_false (by omega)]; rfl
    · rw [if_neg (nI_nlt (by omega) (by omega)), q_zo1, decide_eq_true (by omega)]; rfl
theorem c_apart (hR : RS V i A) (hW : WA A) {h p : Nat} (hh : h < aS A 0) (hp : p < 24) : fX6_apart V i (nI h) (nI p) = some (nI (apN A h p)) := by
  have hb := hW.2.1 h hh
  unfold fX6_apart
  have e0 : fX6_ofHouse V i (nI h) 0 = some (nI (aH A h 0)) := c_ofHouse hR hW hh (k := 0) (by omega)
  rw [e0, q_R, q_abs (by omega) (by omega)]
  rfl
theorem c_value (hR : RS V i A) {F : Fa} {q : Tr} {h p t : Nat} {c : Int32} (hz : Lz F V q) (hF : F = fc A h p t) : fX3_valueOf V i c (nI h) (nI p) (nI t) = some (cV F c) := by
  unfold fX3_valueOf cV
  rw [hz.2.2.2.1, hR.1.2.2.2.2.2.1, hR.1.2.2.2.2.2.2.2.1, hF]
  repeat' split
  all_goals rfl
end CL
