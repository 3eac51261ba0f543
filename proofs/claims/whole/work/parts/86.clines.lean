/-! ===== a law's lines: the class ===== -/
section CT
variable {V V1 : VT} {b : Nat → Int32} {n p ln : Nat} {C : List Int32}
theorem c_endLine (y : Bool) (h : Cr V C ln) (hc : C.length < 400) : ∃ V', fX3_endLine V (bI (!y)) = some V' ∧ Cr V' (C ++ [if y then 11 else 10]) (ln + 1) ∧ Pf V V' := by
  unfold fX3_endLine
  have key : ∀ x : Int32, ∃ V', (ob_R (fX3_put V x) fun V2 => lt_ (va_up V2 18 (upd (V2 18) 2 ((V2 18 2) + (1 : Int32)))) fun V3 => some V3) = some V' ∧ Cr V' (C ++ [x]) (ln + 1) ∧ Pf V V' := fun x => by
    obtain ⟨V2, e2, r2, f2⟩ := c_put x h hc
    rw [e2, q_R, r2.2.1, nI_1, q_lt]
    refine ⟨_, rfl, ⟨?_, ?_, ?_⟩, fun q a c => by rw [va_n a]; exact f2 q a c⟩
    · rw [va_s, pk_un (by omega)]; exact r2.1
    · rw [va_s, pk_us]
    · rw [va_n (by omega)]; exact r2.2.2
  cases y
  · rw [if_neg (show ¬ bI (!false) = 0 by decide)]
    exact key 10
  · rw [if_pos (show bI (!true) = 0 from rfl)]
    exact key 11
/-- the class reads a line: up to its end -/
theorem c_line_ (hT : TK V b n p) (hp : p ≤ n) (hn : n ≤ 400) {j : Nat} (hj : j < 12) (hC : Cr V C j) (hl : C.length ≤ p) (S : List (Int32 × Int32)) (Y : YT) :
    (∃ f V', liL b n j p C S Y = .inl f ∧ fX4_read_L19 V (nI j) = some (.inr (0, V')) ∧ V' 1 3 = nI f ∧ Fl V V') ∨
    (∃ C' S' Y' q V2, liL b n j p C S Y = .inr (C', S', Y', q) ∧ fX4_read_L19 V (nI j) = (ob_R (fX8_isEnd V2 ) fun y21 => if y21 = 0 then (ob_I (fX8_takeSign V2 (59 : Int32)) fun y23 V24 => if y23 = 0 then (zo_ (0 : Int32) (some (.inr (((0 : Int32), V24))))) else (lt_ (nI j + (1 : Int32)) fun y25 => some (.inl (V24, y25)))) else (zo_ (1 : Int32) (some (.inr (((1 : Int32), V2)))))) ∧ TK V2 b n q ∧ Cr V2 C' (j + 1) ∧ Fl V V2) := by
  have hB := sk_le (b := b) hp
  have hg : p ≤ sk b n p := ru_ge
  unfold fX4_read_L19 liL
  rw [if_neg (show ¬ (12 : Int32) ≤ nI j from nI_ge (b := 12) hj (by omega)), c_isWord hT hp hn (by omega) (by omega), q_R, c_isWord hT hp hn (by omega) (by omega), q_R, q_ifb, q_ifb]
  have key : ∀ (w : Nat), w < 65 → 16 ≤ w → 3 ≤ sL w → wdB b n (sk b n p) w = true → wdB b n (sk b n p) 16 = !wdB b n (sk b n p) 17 →
      (∃ f V', (sb (lbP b n (le_ b n (sk b n p)) C S) fun x => (.inr (x.1 ++ [if wdB b n (sk b n p) 17 then 11 else 10], x.2.1, upY Y j (wdB b n (sk b n p) 17, S.length, x.2.1.length), x.2.2) : Nat ⊕ (List Int32 × List (Int32 × Int32) × YT × Nat))) = .inl f ∧ fX4_read_j47_19 V (nI j) (bI (wdB b n (sk b n p) 16)) = some (.inr (0, V')) ∧ V' 1 3 = nI f ∧ Fl V V') ∨
      (∃ C' S' Y' q V2, (sb (lbP b n (le_ b n (sk b n p)) C S) fun x => (.inr (x.1 ++ [if wdB b n (sk b n p) 17 then 11 else 10], x.2.1, upY Y j (wdB b n (sk b n p) 17, S.length, x.2.1.length), x.2.2) : Nat ⊕ (List Int32 × List (Int32 × Int32) × YT × Nat))) = .inr (C', S', Y', q) ∧ fX4_read_j47_19 V (nI j) (bI (wdB b n (sk b n p) 16)) = (ob_R (fX8_isEnd V2 ) fun y21 => if y21 = 0 then (ob_I (fX8_takeSign V2 (59 : Int32)) fun y23 V24 => if y23 = 0 then (zo_ (0 : Int32) (some (.inr (((0 : Int32), V24))))) else (lt_ (nI j + (1 : Int32)) fun y25 => some (.inl (V24, y25)))) else (zo_ (1 : Int32) (some (.inr (((1 : Int32), V2)))))) ∧ TK V2 b n q ∧ Cr V2 C' (j + 1) ∧ Fl V V2) := by
    intro w hw hw2 h3 cw hsee
    rw [hsee]
    generalize wdB b n (sk b n p) 17 = y
    have hk := wd_len cw
    have hL := le_le (b := b) hB
    obtain ⟨V3, e3, t3, f3⟩ := c_word hp hn hw hw2 cw V hT
    have r3 := hC.t f3
    generalize le_ b n (sk b n p) = q0 at hk hL t3
    have hS := sk_le (b := b) hL
    have hg0 : q0 ≤ sk b n q0 := ru_ge
    obtain ⟨V4, e4, t4, f4⟩ := c_takeWord t3 hL hn (w := 18) (by omega) (by omega)
    have r4 := r3.t f4
    unfold fX4_read_j47_19 fX4_read_j79_19 lbP
    rw [e3, q_R, e4, q_I, q_ifb]
    by_cases c1 : wdB b n (sk b n q0) 18 = true
    · have hk2 : le_ b n (sk b n q0) = sk b n q0 + 2 := wd_len c1
      rw [if_pos c1] at t4
      rw [if_pos c1, if_pos c1]
      have hc := c_cond hn (atP_ok 6) (c_atP (b := b) (n := n) hn 6 10 (by omega) (by omega)) V4 (le_ b n (sk b n q0)) C S j t4 (le_le hS) r4 (by omega)
      rcases hc with ⟨f, V', x1, x2, x3, x4⟩ | ⟨C1, S1, q, V5, x1, x2, t5, r5, w5⟩
      · rw [x1, show fX4_readConditionC V4 0 = _ from x2, q_I, if_pos rfl, q_zo0]
        exact .inl ⟨f, V', rfl, rfl, x3, (f3.fl.tr f4.fl).tr x4⟩
      · obtain ⟨k1, k2, k3, -⟩ := (coP_ok (atP_ok 6) (by omega)).len (le_le hS) x1
        obtain ⟨V6, e6, r6, f6⟩ := c_endLine y r5 (by omega)
        rw [x1, show fX4_readConditionC V4 0 = _ from x2, q_I, if_neg q_10, e6, q_R]
        exact .inr ⟨_, _, _, _, V6, rfl, rfl, t5.p f6, r6, ((f3.fl.tr f4.fl).tr w5).tr f6.fl⟩
    · rw [if_neg c1] at t4
      rw [if_neg c1, if_neg c1]
      obtain ⟨V5, e5, r5, f5⟩ := c_put 3 r4 (by omega)
      obtain ⟨V6, e6, r6, f6⟩ := c_endLine y r5 (by rw [List.length_append, List.length_singleton]; omega)
      rw [e5, q_R, e6, q_R]
      exact .inr ⟨_, _, _, _, V6, rfl, rfl, ((t4.sk hL).p f5).p f6, r6, ((f3.fl.tr f4.fl).tr f5.fl).tr f6.fl⟩
  by_cases c1 : wdB b n (sk b n p) 16 = true
  · have c2 : wdB b n (sk b n p) 17 = false := by
      cases e : wdB b n (sk b n p) 17
      · rfl
      · have h1 : le_ b n (sk b n p) = sk b n p + 3 := wd_len c1
        have h2 : le_ b n (sk b n p) = sk b n p + 5 := wd_len e
        omega
    rw [if_pos c1, if_pos (.inl c1)]
    exact key 16 (by omega) (by omega) (by decide) c1 (by rw [c1, c2]; rfl)
  · rw [if_neg c1]
    by_cases c2 : wdB b n (sk b n p) 17 = true
    · have e : (if wdB b n (sk b n p) 17 = true then fX4_read_j47_19 V (nI j) (bI (wdB b n (sk b n p) 16)) else zo_ 0 (some (.inr (0, V)))) = fX4_read_j47_19 V (nI j) (bI (wdB b n (sk b n p) 16)) := if_pos c2
      rw [e, if_pos (.inr c2)]
      exact key 17 (by omega) (by omega) (by decide) c2 (by rw [Bool.eq_false_iff.2 c1, c2]; rfl)
    · have e : (if wdB b n (sk b n p) 17 = true then fX4_read_j47_19 V (nI j) (bI (wdB b n (sk b n p) 16)) else zo_ 0 (some (.inr (0, V)))) = zo_ 0 (some (.inr (0, V))) := if_neg c2
      rw [e, if_neg (fun h => h.elim c1 c2), q_zo0]
      exact .inl ⟨_, V, rfl, rfl, hT.2.2.1, Fl.rf⟩
end CT
theorem c_laL {b : Nat → Int32} {n : Nat} (hn : n ≤ 400) : ∀ (m F j : Nat) (V : VT) (p : Nat) (C : List Int32) (S : List (Int32 × Int32)) (Y : YT), m < F → j + m = 12 → TK V b n p → p ≤ n → Cr V C j → C.length ≤ p →
    (∃ f V', laL b n m j p C S Y = .inl f ∧ it_ iX4_read_L19 F (V, nI j) = some (0, V') ∧ V' 1 3 = nI f ∧ Fl V V') ∨
    (∃ C' S' Y' k V', laL b n m j p C S Y = .inr (C', S', Y', k) ∧ it_ iX4_read_L19 F (V, nI j) = some (1, V') ∧ Cr V' C' k ∧ Fl V V')
  | 0, F, j, V, p, C, S, Y, hF, hm, hT, hp, hC, hl => by
    obtain ⟨F, rfl⟩ : ∃ g, F = g + 1 := ⟨F - 1, by omega⟩
    unfold it_
    rw [show iX4_read_L19 (V, nI j) = some (.inr (0, V)) by
      show fX4_read_L19 V (nI j) = _
      unfold fX4_read_L19
      rw [if_pos (show (12 : Int32) ≤ nI j from nI_le (a := 12) (by omega) (by omega)), q_zo0]]
    exact .inl ⟨_, V, rfl, rfl, hT.2.2.1, Fl.rf⟩
  | m + 1, F, j, V, p, C, S, Y, hF, hm, hT, hp, hC, hl => by
    obtain ⟨F, rfl⟩ : ∃ g, F = g + 1 := ⟨F - 1, by omega⟩
    unfold it_ laL
    rcases c_line_ hT hp hn (j := j) (by omega) hC hl S Y with ⟨f, V', x1, x2, x3, x4⟩ | ⟨C1, S1, Y1, q, V2, x1, x2, t2, r2, w2⟩
    · rw [x1, show iX4_read_L19 (V, nI j) = _ from x2]
      exact .inl ⟨f, V', rfl, rfl, x3, x4⟩
    · obtain ⟨k1, k2, -, k4, -⟩ := liL_ok hp x1
      have hS := sk_le (b := b) k2
      have hg : q ≤ sk b n q := ru_ge
      rw [x1, show iX4_read_L19 (V, nI j) = _ from x2, c_isEnd t2 k2, q_R, q_ifb]
      show (∃ f V', (if n ≤ sk b n q then (Sum.inr (C1, S1, Y1, j + 1) : Nat ⊕ (List Int32 × List (Int32 × Int32) × YT × Nat)) else if cl b n 59 59 (sk b n q) = true then laL b n m (j + 1) (sk b n q + 1) C1 S1 Y1 else .inl (sk b n q)) = .inl f ∧ _) ∨ (∃ C' S' Y' k V', (if n ≤ sk b n q then (Sum.inr (C1, S1, Y1, j + 1) : Nat ⊕ (List Int32 × List (Int32 × Int32) × YT × Nat)) else if cl b n 59 59 (sk b n q) = true then laL b n m (j + 1) (sk b n q + 1) C1 S1 Y1 else .inl (sk b n q)) = .inr (C', S', Y', k) ∧ _)
      by_cases c1 : n ≤ sk b n q
      · rw [if_pos c1, if_pos (decide_eq_true c1), q_zo1]
        exact .inr ⟨_, _, _, _, V2, rfl, rfl, r2, w2⟩
      · obtain ⟨V3, e3, t3, f3⟩ := c_takeSign (c := 59) t2 k2 hn (by omega) (by omega)
        have e3 : fX8_takeSign V2 59 = _ := e3
        rw [if_neg c1, if_neg (fun e => c1 (of_decide_eq_true e)), e3, q_I, q_ifb]
        by_cases c2 : cl b n 59 59 (sk b n q) = true
        · rw [if_pos c2] at t3
          rw [if_pos c2, if_pos c2, nI_1, q_lt]
          rcases c_laL hn m F (j + 1) V3 (sk b n q + 1) C1 S1 Y1 (by omega) (by omega) t3 (of_decide_eq_true c2).1 (r2.t f3) (by omega) with ⟨f, V', z1, z2, z3, z4⟩ | ⟨C', S', Y', k, V', z1, z2, z3, z4⟩
          · exact .inl ⟨f, V', z1, z2, z3, (w2.tr f3.fl).tr z4⟩
          · exact .inr ⟨C', S', Y', k, V', z1, z2, z3, (w2.tr f3.fl).tr z4⟩
        · rw [if_neg c2] at t3
          rw [if_neg c2, if_neg c2, q_zo0]
          exact .inl ⟨_, V3, rfl, rfl, t3.2.2.1, w2.tr f3.fl⟩
theorem c_lawRead {V : VT} {b : Nat → Int32} {n : Nat} (h1 : V 1 1 = nI n) (hn : n ≤ 400) (hb : ∀ k, k < 400 → V 23 k = b k) :
    (∃ f V', laP b n = .inl f ∧ fX4_read V = some (0, V') ∧ V' 1 3 = nI f ∧ Fl V V') ∨
    (∃ C' S' Y' k V', laP b n = .inr (C', S', Y', k) ∧ fX4_read V = some (1, V') ∧ Cr V' C' k ∧ Fl V V') := by
  unfold fX4_read fX3_empty laP
  rw [q_lt, q_lt, q_R]
  have f0 : Fl V (va_up (va_up V 18 (upd (V 18) 1 0)) 18 (upd (va_up V 18 (upd (V 18) 1 0) 18) 2 0)) := ⟨fun q _ a _ => by rw [va_n a, va_n a], by rw [va_n (by omega), va_n (by omega)]⟩
  have r0 : Cr (va_up (va_up V 18 (upd (V 18) 1 0)) 18 (upd (va_up V 18 (upd (V 18) 1 0) 18) 2 0)) [] 0 := ⟨by rw [va_s, pk_un (by omega), va_s, pk_us]; rfl, by rw [va_s, pk_us]; rfl, fun k hk => absurd hk (Nat.not_lt_zero _)⟩
  generalize va_up (va_up V 18 (upd (V 18) 1 0)) 18 (upd (va_up V 18 (upd (V 18) 1 0) 18) 2 0) = V2 at f0 r0
  obtain ⟨V4, e4, t4, f4⟩ := c_rewind (V := V2) (b := b) (n := n) (by rw [f0.2]; exact h1) hn (by rw [f0.1 23 (by omega) (by omega) (by omega)]; exact hb)
  rw [e4, q_R, c_isEnd t4 (by omega), q_R, q_ifb]
  have w4 := f0.tr f4.fl
  by_cases c1 : n ≤ sk b n 0
  · rw [if_pos (decide_eq_true c1), if_pos c1, q_zo1]
    exact .inr ⟨_, _, _, _, V4, rfl, rfl, r0.t f4, w4⟩
  · rw [if_neg (fun e => c1 (of_decide_eq_true e)), if_neg c1]
    rcases c_laL hn 12 FV 0 V4 (sk b n 0) [] [] (fun _ => (false, 0, 0)) (by have := FV_ge; omega) (by omega) (t4.sk (by omega)) (sk_le (by omega)) (r0.t f4) (Nat.zero_le _) with ⟨f, V', x1, x2, x3, x4⟩ | ⟨C', S', Y', k, V', x1, x2, x3, x4⟩
    · rw [show it_ iX4_read_L19 FV (V4, 0) = _ from x2, q_R]
      exact .inl ⟨f, V', x1, rfl, x3, w4.tr x4⟩
    · rw [show it_ iX4_read_L19 FV (V4, 0) = _ from x2, q_R]
      exact .inr ⟨C', S', Y', k, V', x1, rfl, x3, w4.tr x4⟩
