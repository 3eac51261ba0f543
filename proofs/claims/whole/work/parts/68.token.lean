/-! ===== texts: runs of bytes ===== -/
def cl (b : Nat → Int32) (n lo hi k : Nat) : Bool := decide (k < n ∧ lo ≤ ubN (b k) ∧ ubN (b k) ≤ hi)
def ru (b : Nat → Int32) (n lo hi p : Nat) : Nat := p + fa_first (fun j => !cl b n lo hi (p + j)) (n - p)
section TK
variable {b : Nat → Int32} {n lo hi p : Nat}
theorem ru_ge : p ≤ ru b n lo hi p := Nat.le_add_right _ _
theorem ru_le (hp : p ≤ n) : ru b n lo hi p ≤ n := by
  have := fa_first_le (fun j => !cl b n lo hi (p + j)) (n - p)
  unfold ru
  omega
theorem ru_in {k : Nat} (h1 : p ≤ k) (h2 : k < ru b n lo hi p) : cl b n lo hi k = true := by
  have := fa_first_no (fun j => !cl b n lo hi (p + j)) (n - p) (k - p) (by unfold ru at h2; omega)
  rw [show p + (k - p) = k by omega] at this
  cases h : cl b n lo hi k
  · rw [h] at this; cases this
  · rfl
theorem ru_out (hp : p ≤ n) : cl b n lo hi (ru b n lo hi p) = false := by
  rcases Nat.lt_or_ge (fa_first (fun j => !cl b n lo hi (p + j)) (n - p)) (n - p) with h | h
  · have := fa_first_yes (fun j => !cl b n lo hi (p + j)) (n - p) h
    unfold ru
    cases e : cl b n lo hi (p + fa_first (fun j => !cl b n lo hi (p + j)) (n - p))
    · rfl
    · simp only [e] at this
      cases this
  · have h2 := fa_first_le (fun j => !cl b n lo hi (p + j)) (n - p)
    exact decide_eq_false (fun h3 => by unfold ru at h3; omega)
theorem ru_0 (hp : p ≤ n) (h : cl b n lo hi p = false) : ru b n lo hi p = p := by
  rcases Nat.lt_or_ge p (ru b n lo hi p) with h2 | h2
  · have := ru_in (b := b) (n := n) (lo := lo) (hi := hi) (Nat.le_refl p) h2
    rw [h] at this; cases this
  · have := ru_ge (b := b) (n := n) (lo := lo) (hi := hi) (p := p)
    omega
theorem ru_1 (hp : p ≤ n) (h : cl b n lo hi p = true) : p < ru b n lo hi p := by
  rcases Nat.lt_or_ge p (ru b n lo hi p) with h2 | h2
  · exact h2
  · have e : ru b n lo hi p = p := by have := ru_ge (b := b) (n := n) (lo := lo) (hi := hi) (p := p); omega
    have := ru_out (b := b) (n := n) (lo := lo) (hi := hi) hp
    rw [e, h] at this; cases this
end TK
abbrev sk (b : Nat → Int32) (n p : Nat) : Nat := ru b n 32 32 p
abbrev le_ (b : Nat → Int32) (n p : Nat) : Nat := ru b n 97 122 p
abbrev di_ (b : Nat → Int32) (n p : Nat) : Nat := ru b n 48 57 p
theorem sk_sk {b : Nat → Int32} {n p : Nat} (hp : p ≤ n) : sk b n (sk b n p) = sk b n p := ru_0 (ru_le hp) (ru_out hp)
/-- what kind of thing begins at B -/
def kd (b : Nat → Int32) (n B : Nat) : Nat := if n ≤ B then 0 else if cl b n 48 57 B then 2 else if cl b n 97 122 B then 1 else 3
def eE (b : Nat → Int32) (n B : Nat) : Nat := if kd b n B = 0 then B else if kd b n B = 2 then di_ b n B else if kd b n B = 1 then le_ b n B else B + 1
def cN (b : Nat → Int32) (B : Nat) : Nat → Nat
  | 0 => 0
  | k + 1 => min 9999 (cN b B k * 10 + (ubN (b (B + k)) - 48))
def vN (b : Nat → Int32) (B : Nat) : Nat → Nat
  | 0 => 0
  | k + 1 => 10 * vN b B k + (ubN (b (B + k)) - 48)
theorem cN_le {b : Nat → Int32} {B : Nat} : ∀ k, cN b B k ≤ 9999
  | 0 => by show 0 ≤ 9999; omega
  | k + 1 => Nat.min_le_left _ _
theorem vN_b {b : Nat → Int32} {n B : Nat} (hd : ∀ k, B ≤ k → k < di_ b n B → cl b n 48 57 k = true) : ∀ k, k ≤ 3 → B + k ≤ di_ b n B → vN b B k < 10 ^ k
  | 0, _, _ => by show 0 < 10 ^ 0; omega
  | k + 1, h1, h2 => by
    have ih := vN_b hd k (by omega) (by omega)
    have := of_decide_eq_true (hd (B + k) (by omega) (by omega))
    show 10 * vN b B k + (ubN (b (B + k)) - 48) < 10 ^ (k + 1)
    rw [Nat.pow_succ]
    omega
theorem cN_v {b : Nat → Int32} {n B : Nat} (hd : ∀ k, B ≤ k → k < di_ b n B → cl b n 48 57 k = true) : ∀ k, k ≤ 3 → B + k ≤ di_ b n B → cN b B k = vN b B k
  | 0, _, _ => rfl
  | k + 1, h1, h2 => by
    have ih := cN_v hd k (by omega) (by omega)
    have hv := vN_b hd (k + 1) h1 h2
    have hp : 10 ^ (k + 1) ≤ 10 ^ 3 := Nat.pow_le_pow_right (by omega) h1
    have e : vN b B (k + 1) = 10 * vN b B k + (ubN (b (B + k)) - 48) := rfl
    show min 9999 (cN b B k * 10 + (ubN (b (B + k)) - 48)) = _
    rw [ih]
    omega
/-- the class's reader stands at the first thing from p on -/
def TK (V : VT) (b : Nat → Int32) (n p : Nat) : Prop := V 1 1 = nI n ∧ (∀ k, k < 400 → V 23 k = b k) ∧ V 1 3 = nI (sk b n p) ∧ V 1 2 = nI (kd b n (sk b n p)) ∧ V 1 4 = nI (eE b n (sk b n p)) ∧ (kd b n (sk b n p) = 2 → V 1 5 = nI (cN b (sk b n p) (di_ b n (sk b n p) - sk b n p)))
def Tf (V V' : VT) : Prop := (∀ q, q ≠ 1 → V' q = V q) ∧ V' 1 1 = V 1 1
theorem Tf.rf {V : VT} : Tf V V := ⟨fun _ _ => rfl, rfl⟩
theorem Tf.tr {V V1 V2 : VT} (h1 : Tf V V1) (h2 : Tf V1 V2) : Tf V V2 := ⟨fun q hq => (h2.1 q hq).trans (h1.1 q hq), h2.2.trans h1.2⟩
theorem Tf.u {V : VT} {k : Nat} {x : Int32} (hk : k ≠ 1) : Tf V (va_up V 1 (upd (V 1) k x)) := ⟨fun q hq => va_n hq, by rw [va_s, pk_un (by omega)]⟩
section CT
variable {V : VT} {b : Nat → Int32} {n p : Nat}
theorem c_digit {x : Nat} (hx : x < 2 ^ 31) : fX8_isDigit V (nI x) = some (bI (decide (48 ≤ x ∧ x ≤ 57))) := by
  unfold fX8_isDigit
  by_cases c1 : x < 48
  · rw [if_pos (show nI x < 48 from nI_lt (b := 48) c1 (by omega)), q_zo0, decide_eq_false (by omega)]; rfl
  · rw [if_neg (show ¬ nI x < 48 from nI_nlt (b := 48) (by omega) hx)]
    by_cases c2 : 57 < x
    · rw [if_pos (show (57 : Int32) < nI x from nI_lt (a := 57) c2 hx), q_zo0, decide_eq_false (by omega)]; rfl
    · rw [if_neg (show ¬ (57 : Int32) < nI x from nI_nlt (a := 57) (by omega) (by omega)), q_zo1, decide_eq_true (by omega)]; rfl
theorem c_letter {x : Nat} (hx : x < 2 ^ 31) : fX8_isLetter V (nI x) = some (bI (decide (97 ≤ x ∧ x ≤ 122))) := by
  unfold fX8_isLetter
  by_cases c1 : x < 97
  · rw [if_pos (show nI x < 97 from nI_lt (b := 97) c1 (by omega)), q_zo0, decide_eq_false (by omega)]; rfl
  · rw [if_neg (show ¬ nI x < 97 from nI_nlt (b := 97) (by omega) hx)]
    by_cases c2 : 122 < x
    · rw [if_pos (show (122 : Int32) < nI x from nI_lt (a := 122) c2 hx), q_zo0, decide_eq_false (by omega)]; rfl
    · rw [if_neg (show ¬ (122 : Int32) < nI x from nI_nlt (a := 122) (by omega) (by omega)), q_zo1, decide_eq_true (by omega)]; rfl
theorem cl_at {lo hi k : Nat} (hk : k < n) : cl b n lo hi k = decide (lo ≤ ubN (b k) ∧ ubN (b k) ≤ hi) := by
  unfold cl
  apply decide_eq_decide.2
  exact ⟨fun h => h.2, fun h => ⟨hk, h⟩⟩
/-- a run of the class's, its place in slot s -/
theorem c_run {f : VT → Option (VT ⊕ VT)} {lo hi : Nat} (s : Nat) (N : Nat → VT → Prop) (hp : p ≤ n) (hn : n ≤ 400) (hN : N p V) (hs : V 1 s = nI p)
    (step : ∀ k V', p ≤ k → k < ru b n lo hi p → V' 1 s = nI k → N k V' → Tf V V' → ∃ V2, f V' = some (.inl V2) ∧ V2 1 s = nI (k + 1) ∧ N (k + 1) V2 ∧ Tf V V2)
    (stop : ∀ V', V' 1 s = nI (ru b n lo hi p) → Tf V V' → cl b n lo hi (ru b n lo hi p) = false → f V' = some (.inr V')) : ∃ V', it_ f FV V = some V' ∧ V' 1 s = nI (ru b n lo hi p) ∧ N (ru b n lo hi p) V' ∧ Tf V V' := by
  have h1 := ru_ge (b := b) (n := n) (lo := lo) (hi := hi) (p := p)
  have h2 := ru_le (b := b) (lo := lo) (hi := hi) hp
  obtain ⟨r, e, hr⟩ := it_for (F := FV) (f := f) (ru b n lo hi p - p) (fun k V' => V' 1 s = nI (p + k) ∧ N (p + k) V' ∧ Tf V V') (fun V' => V' 1 s = nI (ru b n lo hi p) ∧ N (ru b n lo hi p) V' ∧ Tf V V')
    (by
      rintro k V' hk ⟨a1, a2, a3⟩
      obtain ⟨V2, x1, x2, x3, x4⟩ := step (p + k) V' (by omega) (by omega) a1 a2 a3
      exact ⟨V2, x1, x2, x3, x4⟩)
    (by
      rintro V' ⟨a1, a2, a3⟩
      rw [show p + (ru b n lo hi p - p) = ru b n lo hi p by omega] at a1 a2
      exact ⟨V', stop V' a1 a3 (ru_out hp), a1, a2, a3⟩) (by have := FV_ge; omega) (s := V) ⟨hs, hN, Tf.rf⟩
  exact ⟨r, e, hr⟩
theorem c_step (h1 : V 1 1 = nI n) (hn : n ≤ 400) (hb : ∀ k, k < 400 → V 23 k = b k) (hp : p ≤ n) (h4 : V 1 4 = nI p) : ∃ V', fX8_step V = some V' ∧ TK V' b n p ∧ Tf V V' := by
  unfold fX8_step
  rw [h4, q_lt]
  have hB := ru_le (b := b) (lo := 32) (hi := 32) hp
  obtain ⟨V9, e9, s9, -, t9⟩ := c_run (b := b) (n := n) (p := p) (V := va_up V 1 (upd (V 1) 3 (nI p))) (f := iX8_step_L8) (lo := 32) (hi := 32) 3 (fun _ _ => True) hp hn trivial (by rw [va_s, pk_us])
    (by
      intro k V' k1 k2 a1 _ a3
      have hkn : k < n := by omega
      have f1 : V' 1 1 = nI n := by rw [a3.2, va_s, pk_un (by omega)]; exact h1
      have f2 : ∀ k, k < 400 → V' 23 k = b k := by rw [a3.1 23 (by omega), va_n (by omega)]; exact hb
      have hc := of_decide_eq_true (ru_in (b := b) (n := n) (lo := 32) (hi := 32) k1 k2)
      unfold iX8_step_L8 fX8_step_L8
      rw [f1, a1, if_neg (nI_ge hkn (by omega)), c_byteAt f1 hn f2 hkn, q_R, show ubN (b k) = 32 by omega, if_pos (show nI 32 = 32 from rfl), nI_1, q_lt]
      exact ⟨_, rfl, by rw [va_s, pk_us], trivial, a3.tr (Tf.u (by omega))⟩)
    (by
      intro V' a1 a3 hout
      have f1 : V' 1 1 = nI n := by rw [a3.2, va_s, pk_un (by omega)]; exact h1
      have f2 : ∀ k, k < 400 → V' 23 k = b k := by rw [a3.1 23 (by omega), va_n (by omega)]; exact hb
      unfold iX8_step_L8 fX8_step_L8
      rw [f1, a1]
      by_cases c : ru b n 32 32 p < n
      · have hu := ub_lt (b (ru b n 32 32 p))
        rw [cl_at c] at hout
        have hout := of_decide_eq_false hout
        rw [if_neg (nI_ge c (by omega)), c_byteAt f1 hn f2 c, q_R, if_neg (show ¬ nI (ubN (b (ru b n 32 32 p))) = 32 from fun e => hout (by have := (nI_eq (b := 32) (by omega) (by omega)).1 e; omega))]
      · rw [if_pos (nI_le (by omega) (by omega))])
  have e9 : it_ iX8_step_L8 FV (va_up V 1 (upd (V 1) 3 (nI p))) = _ := e9
  rw [e9, q_R, q_lt]
  have t9' : Tf V V9 := (Tf.u (by omega)).tr t9
  clear e9 t9
  generalize hBB : ru b n 32 32 p = B at s9 hB
  have ek : sk b n p = B := hBB
  unfold fX8_step_j45
  rw [s9, q_lt]
  refine lt_ex (fun V11 e11 => ?_)
  have w11 : V11 1 1 = nI n ∧ V11 1 3 = nI B ∧ V11 1 4 = nI B ∧ V11 1 5 = 0 ∧ Tf V V11 := by
    rw [e11]
    refine ⟨?_, ?_, ?_, ?_, (t9'.tr (Tf.u (by omega))).tr (Tf.u (by omega))⟩
    · rw [va_s, pk_un (by omega), va_s, pk_un (by omega), t9'.2]; exact h1
    · rw [va_s, pk_un (by omega), va_s, pk_un (by omega)]; exact s9
    · rw [va_s, pk_un (by omega), va_s, pk_us]
    · rw [va_s, pk_us]
  clear e11
  obtain ⟨f1, f3, f4, f5, t11⟩ := w11
  have f2 : ∀ k, k < 400 → V11 23 k = b k := by rw [t11.1 23 (by omega)]; exact hb
  rw [f3]
  by_cases c : B < n
  · have hu := ub_lt (b B)
    rw [c_byteAt f1 hn f2 c, q_R, if_neg (q_m1 (by omega)), c_digit (by omega), q_R, c_letter (by omega), q_R, ← cl_at (n := n) c, ← cl_at (n := n) c, q_ifb, q_ifb]
    cases hd : cl b n 48 57 B
    · rw [if_neg (by decide)]
      cases hl : cl b n 97 122 B
      · rw [if_neg (by decide)]
        have hk : kd b n B = 3 := by unfold kd; rw [if_neg (by omega), hd, if_neg (by decide), hl, if_neg (by decide)]
        have he : eE b n B = B + 1 := by unfold eE; rw [hk, if_neg (by omega), if_neg (by omega), if_neg (by omega)]
        rw [q_lt, va_s, pk_un (by omega), f4, nI_1, q_lt]
        refine ⟨_, rfl, ?_, ⟨fun q hq => by rw [va_n hq, va_n hq]; exact t11.1 q hq, by rw [va_s, pk_un (by omega), pk_un (by omega)]; exact t11.2⟩⟩
        unfold TK
        rw [ek, hk, he]
        refine ⟨by rw [va_s, pk_un (by omega), pk_un (by omega)]; exact f1, by rw [va_n (by omega), va_n (by omega)]; exact f2, by rw [va_s, pk_un (by omega), pk_un (by omega)]; exact f3, by rw [va_s, pk_un (by omega), pk_us]; rfl, by rw [va_s, pk_us], fun h => by omega⟩
      · rw [if_pos rfl, q_lt]
        have hk : kd b n B = 1 := by unfold kd; rw [if_neg (by omega), hd, if_neg (by decide), hl, if_pos rfl]
        have he : eE b n B = le_ b n B := by unfold eE; rw [hk, if_neg (by omega), if_neg (by omega), if_pos rfl]
        obtain ⟨V12, e12, s12, ⟨m1, m2⟩, t12⟩ := c_run (b := b) (n := n) (p := B) (V := va_up V11 1 (upd (V11 1) 2 1)) (f := iX8_step_L171) (lo := 97) (hi := 122) 4 (fun _ V' => V' 1 2 = 1 ∧ V' 1 3 = nI B) hB hn ⟨by rw [va_s, pk_us], by rw [va_s, pk_un (by omega)]; exact f3⟩ (by rw [va_s, pk_un (by omega)]; exact f4)
          (by
            rintro k V' k1 k2 a1 ⟨m1, m2⟩ a3
            have hkn : k < n := by have := ru_le (b := b) (lo := 97) (hi := 122) hB; omega
            have g1 : V' 1 1 = nI n := by rw [a3.2, va_s, pk_un (by omega)]; exact f1
            have g2 : ∀ k, k < 400 → V' 23 k = b k := by rw [a3.1 23 (by omega), va_n (by omega)]; exact f2
            have hc := ru_in (b := b) (n := n) (lo := 97) (hi := 122) k1 k2
            have hu := ub_lt (b k)
            unfold iX8_step_L171 fX8_step_L171
            rw [g1, a1, if_neg (nI_ge hkn (by omega)), c_byteAt g1 hn g2 hkn, q_R, c_letter (by omega), q_R, ← cl_at (n := n) hkn, hc, if_neg (show ¬ bI true = 0 by decide), nI_1, q_lt]
            exact ⟨_, rfl, by rw [va_s, pk_us], ⟨by rw [va_s, pk_un (by omega)]; exact m1, by rw [va_s, pk_un (by omega)]; exact m2⟩, a3.tr (Tf.u (by omega))⟩)
          (by
            intro V' a1 a3 hout
            have g1 : V' 1 1 = nI n := by rw [a3.2, va_s, pk_un (by omega)]; exact f1
            have g2 : ∀ k, k < 400 → V' 23 k = b k := by rw [a3.1 23 (by omega), va_n (by omega)]; exact f2
            have hr := ru_le (b := b) (lo := 97) (hi := 122) hB
            unfold iX8_step_L171 fX8_step_L171
            rw [g1, a1]
            by_cases c2 : ru b n 97 122 B < n
            · have hu := ub_lt (b (ru b n 97 122 B))
              rw [if_neg (nI_ge c2 (by omega)), c_byteAt g1 hn g2 c2, q_R, c_letter (by omega), q_R, ← cl_at (n := n) c2, hout, if_pos (show bI false = 0 from rfl)]
            · rw [if_pos (nI_le (by omega) (by omega))])
        rw [e12, q_R]
        have t12' : Tf V V12 := (t11.tr (Tf.u (by omega))).tr t12
        refine ⟨_, rfl, ?_, t12'⟩
        unfold TK
        rw [ek, hk, he]
        exact ⟨by rw [t12'.2]; exact h1, by rw [t12'.1 23 (by omega)]; exact hb, m2, m1, s12, fun h => by omega⟩
    · rw [if_pos rfl, q_lt]
      have hk : kd b n B = 2 := by unfold kd; rw [if_neg (by omega), hd, if_pos rfl]
      have he : eE b n B = di_ b n B := by unfold eE; rw [hk, if_neg (by omega), if_pos rfl]
      obtain ⟨V12, e12, s12, ⟨m1, m2, m3⟩, t12⟩ := c_run (b := b) (n := n) (p := B) (V := va_up V11 1 (upd (V11 1) 2 2)) (f := iX8_step_L92) (lo := 48) (hi := 57) 4 (fun k V' => V' 1 2 = 2 ∧ V' 1 3 = nI B ∧ V' 1 5 = nI (cN b B (k - B))) hB hn ⟨by rw [va_s, pk_us], by rw [va_s, pk_un (by omega)]; exact f3, by rw [va_s, pk_un (by omega), Nat.sub_self]; exact f5⟩ (by rw [va_s, pk_un (by omega)]; exact f4)
        (by
          rintro k V' k1 k2 a1 ⟨m1, m2, m3⟩ a3
          have hkn : k < n := by have := ru_le (b := b) (lo := 48) (hi := 57) hB; omega
          have g1 : V' 1 1 = nI n := by rw [a3.2, va_s, pk_un (by omega)]; exact f1
          have g2 : ∀ k, k < 400 → V' 23 k = b k := by rw [a3.1 23 (by omega), va_n (by omega)]; exact f2
          have hc := ru_in (b := b) (n := n) (lo := 48) (hi := 57) k1 k2
          have hc2 := of_decide_eq_true hc
          have hu := ub_lt (b k)
          have hcn := cN_le (b := b) (B := B) (k - B)
          unfold iX8_step_L92 fX8_step_L92
          rw [g1, a1, if_neg (nI_ge hkn (by omega)), c_byteAt g1 hn g2 hkn, q_R, c_digit (by omega), q_R, ← cl_at (n := n) hkn, hc, if_neg (show ¬ bI true = 0 by decide), q_R, m3, show nI (cN b B (k - B)) * 10 + nI (ubN (b k)) - 48 = nI (cN b B (k - B) * 10 + (ubN (b k) - 48)) by
            rw [show (10 : Int32) = nI 10 from rfl, show (48 : Int32) = nI 48 from rfl, pk_mul, nI_add, pk_sub (by omega)]
            exact congrArg nI (by omega), show (9999 : Int32) = nI 9999 from rfl, q_mi (by omega) (by omega), q_lt, va_s, pk_un (by omega), a1, nI_1, q_lt]
          refine ⟨_, rfl, by rw [va_s, pk_us], ⟨by rw [va_s, pk_un (by omega), pk_un (by omega)]; exact m1, by rw [va_s, pk_un (by omega), pk_un (by omega)]; exact m2, ?_⟩, ⟨fun q hq => by rw [va_n hq, va_n hq]; exact a3.1 q hq, by rw [va_s, pk_un (by omega), pk_un (by omega)]; exact a3.2⟩⟩
          rw [va_s, pk_un (by omega), pk_us, show k + 1 - B = (k - B) + 1 by omega]
          show _ = nI (min 9999 (cN b B (k - B) * 10 + (ubN (b (B + (k - B))) - 48)))
          rw [show B + (k - B) = k by omega])
        (by
          intro V' a1 a3 hout
          have g1 : V' 1 1 = nI n := by rw [a3.2, va_s, pk_un (by omega)]; exact f1
          have g2 : ∀ k, k < 400 → V' 23 k = b k := by rw [a3.1 23 (by omega), va_n (by omega)]; exact f2
          have hr := ru_le (b := b) (lo := 48) (hi := 57) hB
          unfold iX8_step_L92 fX8_step_L92
          rw [g1, a1]
          by_cases c2 : ru b n 48 57 B < n
          · have hu := ub_lt (b (ru b n 48 57 B))
            rw [if_neg (nI_ge c2 (by omega)), c_byteAt g1 hn g2 c2, q_R, c_digit (by omega), q_R, ← cl_at (n := n) c2, hout, if_pos (show bI false = 0 from rfl)]
          · rw [if_pos (nI_le (by omega) (by omega))])
      rw [e12, q_R]
      have t12' : Tf V V12 := (t11.tr (Tf.u (by omega))).tr t12
      refine ⟨_, rfl, ?_, t12'⟩
      unfold TK
      rw [ek, hk, he]
      exact ⟨by rw [t12'.2]; exact h1, by rw [t12'.1 23 (by omega)]; exact hb, m2, m1, s12, fun _ => m3⟩
  · have hk : kd b n B = 0 := by unfold kd; rw [if_pos (by omega)]
    have he : eE b n B = B := by unfold eE; rw [if_pos hk]
    have hx : fX8_byteAt V11 (nI B) = some (-1) := by
      unfold fX8_byteAt
      rw [if_neg (nI_pos (by omega)), f1, if_pos (nI_le (by omega) (by omega))]
    rw [hx, q_R, if_pos rfl, q_lt]
    refine ⟨_, rfl, ?_, t11.tr (Tf.u (by omega))⟩
    unfold TK
    rw [ek, hk, he]
    exact ⟨by rw [va_s, pk_un (by omega)]; exact f1, by rw [va_n (by omega)]; exact f2, by rw [va_s, pk_un (by omega)]; exact f3, by rw [va_s, pk_us]; rfl, by rw [va_s, pk_un (by omega)]; exact f4, fun h => by omega⟩
end CT
