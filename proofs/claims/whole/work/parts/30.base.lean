/-! ===== the mathematics: small words ===== -/
def bI (b : Bool) : Int32 := if b then 1 else 0
theorem bI_t : bI true = 1 := rfl
theorem bI_f : bI false = 0 := rfl
theorem bI_0 {b : Bool} : bI b = 0 ↔ b = false := by cases b <;> decide
theorem bI_1 {b : Bool} : bI b = 1 ↔ b = true := by cases b <;> decide
theorem bI_inj {a b : Bool} : bI a = bI b ↔ a = b := by cases a <;> cases b <;> decide
theorem bI_nI {b : Bool} : bI b = nI (if b then 1 else 0) := by cases b <;> rfl
theorem q_zo {α : Type} {b : Bool} {x : Option α} : zo_ (bI b) x = x := by
  cases b
  · exact if_pos (Or.inl rfl)
  · exact if_pos (Or.inr rfl)
theorem q_zo0 {α : Type} {x : Option α} : zo_ 0 x = x := q_zo (b := false)
theorem q_zo1 {α : Type} {x : Option α} : zo_ 1 x = x := q_zo (b := true)
theorem q_zn0 {α : Type} {x : Option α} : zo_ (nI 0) x = x := q_zo (b := false)
theorem q_zn1 {α : Type} {x : Option α} : zo_ (nI 1) x = x := q_zo (b := true)
theorem q_ifb {α : Type} {b : Bool} {x y : α} : (if bI b = 0 then x else y) = if b = true then y else x := by
  cases b <;> rfl
theorem q_rd {α : Type} {k n : Nat} {x : Option α} (h : k < n) (hn : n < 2 ^ 31) : rd_ (nI k) n x = x := by
  unfold rd_
  rw [if_neg (nI_in h hn)]
theorem q_lit (n : Nat) : (OfNat.ofNat n : Int32) = nI (OfNat.ofNat n) := rfl
theorem q_add (a c : Nat) : nI a + (no_index (OfNat.ofNat c : Int32)) = nI (a + OfNat.ofNat c) := nI_add a c
theorem q_addL (a c : Nat) : (no_index (OfNat.ofNat c : Int32)) + nI a = nI (OfNat.ofNat c + a) := nI_add c a
theorem q_mul (a c : Nat) : nI a * (no_index (OfNat.ofNat c : Int32)) = nI (a * OfNat.ofNat c) := pk_mul a c
theorem q_mulL (a c : Nat) : (no_index (OfNat.ofNat c : Int32)) * nI a = nI (OfNat.ofNat c * a) := pk_mul c a
theorem q_rdl {α : Type} {c n : Nat} {x : Option α} (h : (OfNat.ofNat c : Nat) < n) (hn : n < 2 ^ 31) : rd_ (no_index (OfNat.ofNat c : Int32)) n x = x := q_rd h hn
theorem q_cl {c : Nat} (h : (OfNat.ofNat c : Nat) < 2 ^ 31) : (no_index (OfNat.ofNat c : Int32)).toNatClampNeg = OfNat.ofNat c := nI_clamp h
theorem q_lt {α β : Type} (e : α) (k : α → β) : lt_ e k = k e := rfl
theorem q_R {α β : Type} (x : α) (k : α → Option β) : ob_R (some x) k = k x := rfl
theorem q_I {α β : Type} (x : α) (V : VT) (k : α → VT → Option β) : ob_I (some (x, V)) k = k x V := rfl
theorem q_m1 {n : Nat} (h : n < 2 ^ 31) : ¬ nI n = -1 := by
  intro e
  have := congrArg Int32.toInt e
  rw [nI_toInt h] at this
  have h2 : ((-1 : Int32)).toInt = -1 := by decide
  rw [h2] at this
  omega
/-! ===== cells ===== -/
theorem va_s {α : Type} {f : Nat → α} {k : Nat} {v : α} : va_up f k v k = v := by simp [va_up]
theorem va_n {α : Type} {f : Nat → α} {k j : Nat} {v : α} (h : j ≠ k) : va_up f k v j = f j := by simp [va_up, h]
/-! ===== loops ===== -/
theorem it_for {σ ρ : Type} {f : σ → Option (σ ⊕ ρ)} {F : Nat} (n : Nat) (P : Nat → σ → Prop) (Q : ρ → Prop) (hs : ∀ k s, k < n → P k s → ∃ t, f s = some (.inl t) ∧ P (k + 1) t) (he : ∀ s, P n s → ∃ r, f s = some (.inr r) ∧ Q r) (hn : n < F) {s : σ} (h0 : P 0 s) : ∃ r, it_ f F s = some r ∧ Q r := by
  have key : ∀ m k F s, k + m = n → m < F → P k s → ∃ r, it_ f F s = some r ∧ Q r := by
    intro m
    induction m with
    | zero =>
      intro k F s hk hF hP
      obtain ⟨F, rfl⟩ : ∃ g, F = g + 1 := ⟨F - 1, by omega⟩
      have : k = n := by omega
      subst this
      obtain ⟨r, h1, h2⟩ := he s hP
      exact ⟨r, by unfold it_; rw [h1], h2⟩
    | succ m ih =>
      intro k F s hk hF hP
      obtain ⟨F, rfl⟩ : ∃ g, F = g + 1 := ⟨F - 1, by omega⟩
      obtain ⟨t, h1, h2⟩ := hs k s (by omega) hP
      obtain ⟨r, h3, h4⟩ := ih (k + 1) F t (by omega) (by omega) h2
      exact ⟨r, by unfold it_; rw [h1]; exact h3, h4⟩
  exact key n 0 F s (by omega) hn h0
/-- a loop that may leave early -/
theorem it_forE {σ ρ : Type} {f : σ → Option (σ ⊕ ρ)} {F : Nat} (n : Nat) (P : Nat → σ → Prop) (Q : ρ → Prop) (hs : ∀ k s, k < n → P k s → (∃ t, f s = some (.inl t) ∧ P (k + 1) t) ∨ (∃ r, f s = some (.inr r) ∧ Q r)) (he : ∀ s, P n s → ∃ r, f s = some (.inr r) ∧ Q r) (hn : n < F) {s : σ} (h0 : P 0 s) : ∃ r, it_ f F s = some r ∧ Q r := by
  have key : ∀ m k F s, k + m = n → m < F → P k s → ∃ r, it_ f F s = some r ∧ Q r := by
    intro m
    induction m with
    | zero =>
      intro k F s hk hF hP
      obtain ⟨F, rfl⟩ : ∃ g, F = g + 1 := ⟨F - 1, by omega⟩
      have : k = n := by omega
      subst this
      obtain ⟨r, h1, h2⟩ := he s hP
      exact ⟨r, by unfold it_; rw [h1], h2⟩
    | succ m ih =>
      intro k F s hk hF hP
      obtain ⟨F, rfl⟩ : ∃ g, F = g + 1 := ⟨F - 1, by omega⟩
      rcases hs k s (by omega) hP with ⟨t, h1, h2⟩ | ⟨r, h1, h2⟩
      · obtain ⟨r, h3, h4⟩ := ih (k + 1) F t (by omega) (by omega) h2
        exact ⟨r, by unfold it_; rw [h1]; exact h3, h4⟩
      · exact ⟨r, by unfold it_; rw [h1], h2⟩
  exact key n 0 F s (by omega) hn h0
/-- a loop by a measure -/
theorem it_mu {σ ρ : Type} {f : σ → Option (σ ⊕ ρ)} {F : Nat} (μ : σ → Nat) (P : σ → Prop) (Q : ρ → Prop) (hs : ∀ s, P s → (∃ t, f s = some (.inl t) ∧ P t ∧ μ t < μ s) ∨ (∃ r, f s = some (.inr r) ∧ Q r)) {s : σ} (h0 : P s) (hn : μ s < F) : ∃ r, it_ f F s = some r ∧ Q r := by
  have key : ∀ F s, μ s < F → P s → ∃ r, it_ f F s = some r ∧ Q r := by
    intro F
    induction F with
    | zero => intro s h; exact absurd h (Nat.not_lt_zero _)
    | succ F ih =>
      intro s hF hP
      rcases hs s hP with ⟨t, h1, h2, h3⟩ | ⟨r, h1, h2⟩
      · obtain ⟨r, h3, h4⟩ := ih t (by omega) h2
        exact ⟨r, by unfold it_; rw [h1]; exact h3, h4⟩
      · exact ⟨r, by unfold it_; rw [h1], h2⟩
  exact key F s hn h0
/-! ===== shifts and bits ===== -/
theorem q_sl : ∀ n, n < 32 → ((nI n &&& 31).toBitVec.smod 32).toNat = n := by decide +kernel
theorem q_su : ∀ n, n < 32 → (((nI n).toUInt32 &&& Int32.toUInt32 31).toBitVec % 32).toNat = n := by decide +kernel
theorem q_shl {k : Nat} (h : k < 31) : (1 : Int32) <<< (nI k &&& 31) = nI (2 ^ k) := by
  have := pk_shlN (n := 1) (nI k &&& 31) k (q_sl k (by omega)) (by have := Nat.pow_lt_pow_right (a := 2) (by omega) h; omega)
  rw [Nat.one_mul] at this
  exact this
theorem q_shr {x k : Nat} (hx : x < 2 ^ 31) (h : k < 32) : nI x >>> (nI k &&& 31) = nI (x / 2 ^ k) := pk_shrN hx _ k (q_sl k h)
theorem q_and1 (x : Nat) : nI x &&& 1 = nI (x % 2) := by
  have := fa_mask x 1
  exact this
theorem q_mod2 (x k : Nat) : x / 2 ^ k % 2 = if x.testBit k then 1 else 0 := by
  rw [← Nat.shiftRight_eq_div_pow]
  have h := Nat.testBit_eq_decide_div_mod_eq (x := x) (i := k)
  rw [h, Nat.shiftRight_eq_div_pow]
  by_cases h2 : x / 2 ^ k % 2 = 1
  · simp [h2]
  · simp [h2]; omega
theorem q_bit {x k : Nat} (hx : x < 2 ^ 31) (h : k < 32) : ((nI x >>> (nI k &&& 31)) &&& 1 = 1) ↔ x.testBit k = true := by
  rw [q_shr hx h, q_and1, q_mod2]
  by_cases h2 : x.testBit k = true
  · simp [h2]; rfl
  · simp [h2]; exact (by decide : ¬ nI 0 = 1)
theorem q_or (a b : Nat) : nI a ||| nI b = nI (a ||| b) := fa_or a b
theorem q_all {n : Nat} (h : n < 31) : ((1 : Int32) <<< (nI n &&& 31)) - 1 = nI (2 ^ n - 1) := by
  rw [q_shl h]
  exact pk_sub (b := 1) (Nat.one_le_two_pow)
/-! ===== a set as a number ===== -/
def bs (f : Nat → Bool) : Nat → Nat
  | 0 => 0
  | n + 1 => bs f n ||| (if f n then 2 ^ n else 0)
theorem bs_lt (f : Nat → Bool) : ∀ n, bs f n < 2 ^ n
  | 0 => by simp [bs]
  | n + 1 => by
    have h := bs_lt f n
    unfold bs
    apply Nat.or_lt_two_pow
    · have := Nat.pow_lt_pow_right (a := 2) (by omega) (Nat.lt_succ_self n); omega
    · split
      · exact Nat.pow_lt_pow_right (by omega) (Nat.lt_succ_self n)
      · exact Nat.two_pow_pos _
theorem bs_bit (f : Nat → Bool) : ∀ n k, (bs f n).testBit k = (decide (k < n) && f k)
  | 0, k => by simp [bs]
  | n + 1, k => by
    unfold bs
    rw [Nat.testBit_or, bs_bit f n k]
    by_cases hk : k = n
    · subst hk
      cases f k <;> simp
    · cases h : f n
      · simp only [Bool.false_eq_true, if_false, Nat.zero_testBit, Bool.or_false]
        by_cases h2 : k < n
        · simp [h2, Nat.lt_succ_of_lt h2]
        · have : ¬ k < n + 1 := by omega
          simp [h2, this]
      · simp only [if_true, Nat.testBit_two_pow]
        by_cases h2 : k < n
        · simp [h2, Nat.lt_succ_of_lt h2, show ¬ n = k by omega]
        · have : ¬ k < n + 1 := by omega
          simp [h2, this, show ¬ n = k by omega]
theorem bs_cong {f g : Nat → Bool} : ∀ {n : Nat}, (∀ k, k < n → f k = g k) → bs f n = bs g n
  | 0, _ => rfl
  | n + 1, h => by
    unfold bs
    rw [bs_cong (fun k hk => h k (by omega)), h n (by omega)]
theorem bs_of {x n : Nat} (h : x < 2 ^ n) : bs x.testBit n = x := by
  apply Nat.eq_of_testBit_eq
  intro k
  rw [bs_bit]
  by_cases hk : k < n
  · simp [hk]
  · have : x.testBit k = false := Nat.testBit_lt_two_pow (Nat.lt_of_lt_of_le h (Nat.pow_le_pow_right (by omega) (by omega)))
    simp [hk, this]
theorem bs_all (f : Nat → Bool) (n : Nat) : bs f n = 2 ^ n - 1 ↔ ∀ k, k < n → f k = true := by
  constructor
  · intro h k hk
    have := congrArg (fun x => x.testBit k) h
    simp only [bs_bit, Nat.testBit_two_pow_sub_one, hk, decide_true, Bool.true_and] at this
    exact this
  · intro h
    apply Nat.eq_of_testBit_eq
    intro k
    rw [bs_bit, Nat.testBit_two_pow_sub_one]
    by_cases hk : k < n
    · simp [hk, h k hk]
    · simp [hk]
theorem bs_0 (f : Nat → Bool) (n : Nat) : bs f n = 0 ↔ ∀ k, k < n → f k = false := by
  constructor
  · intro h k hk
    have := congrArg (fun x => x.testBit k) h
    simpa [bs_bit, hk] using this
  · intro h
    apply Nat.eq_of_testBit_eq
    intro k
    rw [bs_bit]
    by_cases hk : k < n
    · simp [hk, h k hk]
    · simp [hk]
