/-! ===== the law's conditions: the class ===== -/
theorem sb_sb {α β γ : Type} {x : Nat ⊕ α} {f : α → Nat ⊕ β} {g : β → Nat ⊕ γ} : sb (sb x f) g = sb x fun a => sb (f a) g := by
  cases x <;> rfl
/-- what is left to read of a condition, ahead of an atom -/
def coX (b : Nat → Int32) (n : Nat) (u : AtT) (m1 m2 p : Nat) (an orr : Bool) (C : List Int32) (S : List (Int32 × Int32)) : RdT :=
  sb (u p C S) fun x => sb (alL b n u m1 x.2.2 (x.1 ++ (if an then [5] else [])) (x.2.1 ++ (if an then [(14, 0)] else []))) fun y => coL b n u m2 y.2.2 (y.1 ++ (if orr then [6] else [])) (y.2.1 ++ (if orr then [(15, 0)] else []))
theorem c_coL {b : Nat → Int32} {n ln dp h : Nat} {u : AtT} {ra : VT → Int32 → Option (Int32 × VT)} (hn : n ≤ 400) (hu : AtOK b n u h) (hr : CAt b n ra dp u) : ∀ (F m1 m2 : Nat) (V : VT) (p : Nat) (an orr : Bool) (C : List Int32) (S : List (Int32 × Int32)) (cnt : Nat), TK V b n p → p ≤ n → Cr V C ln → C.length + 3 + 2 * an.toNat + orr.toNat ≤ p → cnt + 1 ≤ p → n < p + m1 → n < p + m2 → n < p + F →
    CRes b n ln V (coX b n u m1 m2 p an orr C S) (it_ (iX4_readCondition_L8 ra) F (V, nI dp, bI an, bI orr, nI cnt))
  | 0, m1, m2, V, p, an, orr, C, S, cnt, hT, hp, hC, hl, hc, h1, h2, hF => by omega
  | F + 1, m1, m2, V, p, an, orr, C, S, cnt, hT, hp, hC, hl, hc, h1, h2, hF => by
    unfold it_ coX
    have e0 : iX4_readCondition_L8 ra (V, nI dp, bI an, bI orr, nI cnt) = (ob_I (ra V (nI dp)) fun y3 V4 => if y3 = 0 then (zo_ (0 : Int32) (some (.inr (((0 : Int32), V4))))) else (if bI an = 0 then (fX4_readCondition_j36_8 V4 ra (nI dp) (bI orr) (nI cnt)) else (ob_R (fX3_put V4 (5 : Int32)) fun V21 => fX4_readCondition_j36_8 V21 ra (nI dp) (bI orr) (nI cnt)))) := by
      show fX4_readCondition_L8 V ra (nI dp) (bI an) (bI orr) (nI cnt) = _
      unfold fX4_readCondition_L8
      rw [if_neg (show ¬ (400 : Int32) ≤ nI cnt from nI_ge (b := 400) (by omega) (by omega))]
    rw [e0]
    rcases hr V p C S ln hT hp hC (by omega) with ⟨f, V', x1, x2, x3, x4⟩ | ⟨C1, S1, q, V4, x1, x2, t4, r4, w4⟩
    · rw [x1, x2, q_I, if_pos rfl, q_zo0]
      exact .inl ⟨f, V', rfl, rfl, x3, x4⟩
    · obtain ⟨k1, k2, k3, -⟩ := hu.len hp x1
      have hS := sk_le (b := b) k2
      have hgq : q ≤ sk b n q := ru_ge
      rw [x1, x2, q_I, if_neg q_10]
      obtain ⟨V5, e5, t5, r5, w5⟩ : ∃ V5, (if bI an = 0 then (fX4_readCondition_j36_8 V4 ra (nI dp) (bI orr) (nI cnt)) else (ob_R (fX3_put V4 (5 : Int32)) fun V21 => fX4_readCondition_j36_8 V21 ra (nI dp) (bI orr) (nI cnt))) = fX4_readCondition_j36_8 V5 ra (nI dp) (bI orr) (nI cnt) ∧ TK V5 b n q ∧ Cr V5 (C1 ++ (if an then [5] else [])) ln ∧ Fl V V5 := by
        cases an
        · exact ⟨V4, if_pos rfl, t4, by rw [if_neg (by decide), List.append_nil]; exact r4, w4⟩
        · obtain ⟨V5, e5, r5, f5⟩ := c_put 5 r4 (by omega)
          exact ⟨V5, by rw [if_neg (show ¬ bI true = 0 by decide), e5, q_R], t4.p f5, r5, w4.tr f5.fl⟩
      rw [e5]
      have hl5 : (C1 ++ (if an then [5] else [])).length + 2 + orr.toNat ≤ q := by
        rw [List.length_append]
        cases an
        · simp only [Bool.toNat_false] at hl
          simp only [Bool.false_eq_true, if_false, List.length_nil]
          omega
        · simp only [Bool.toNat_true] at hl
          simp only [if_true, List.length_singleton]
          omega
      generalize hC5 : C1 ++ (if an then [5] else []) = C5 at r5 hl5
      show CRes b n ln V (sb (alL b n u m1 q (C1 ++ (if an then [5] else [])) (S1 ++ (if an then [(14, 0)] else []))) fun y => coL b n u m2 y.2.2 (y.1 ++ (if orr then [6] else [])) (y.2.1 ++ (if orr then [(15, 0)] else []))) _
      rw [hC5]
      generalize S1 ++ (if an then [(14, 0)] else []) = S5
      obtain ⟨m1, rfl⟩ : ∃ g, m1 = g + 1 := ⟨m1 - 1, by omega⟩
      obtain ⟨m2, rfl⟩ : ∃ g, m2 = g + 1 := ⟨m2 - 1, by omega⟩
      obtain ⟨V7, e7, t7, f7⟩ := c_takeWord t5 k2 hn (w := 19) (by omega) (by omega)
      unfold fX4_readCondition_j36_8
      rw [e7, q_I, q_ifb]
      have r7 := r5.t f7
      have w7 : Fl V V7 := w5.tr f7.fl
      unfold alL
      by_cases c1 : wdB b n (sk b n q) 19 = true
      · have hk := wd_len c1
        have hk : le_ b n (sk b n q) = sk b n q + 3 := hk
        rw [if_pos c1] at t7
        rw [if_pos c1, if_pos c1, sb_sb]
        unfold fX4_readCondition_j66_8
        rw [c1, if_neg (show ¬ bI true = 0 by decide), nI_1, q_lt]
        exact (c_coL hn hu hr F m1 (m2 + 1) V7 (le_ b n (sk b n q)) true orr C5 S5 (cnt + 1) t7 (le_le hS) r7 (by simp only [Bool.toNat_true]; omega) (by omega) (by omega) (by omega) (by omega)).fr w7
      · rw [if_neg c1] at t7
        rw [if_neg c1, if_neg c1, Bool.eq_false_iff.2 c1]
        obtain ⟨V8, e8, t8, r8, w8⟩ : ∃ V8, (if bI orr = 0 then (fX4_readCondition_j58_8 V7 ra (nI dp) (bI false) (nI cnt)) else (ob_R (fX3_put V7 (6 : Int32)) fun V17 => fX4_readCondition_j58_8 V17 ra (nI dp) (bI false) (nI cnt))) = fX4_readCondition_j58_8 V8 ra (nI dp) (bI false) (nI cnt) ∧ TK V8 b n (sk b n q) ∧ Cr V8 (C5 ++ (if orr then [6] else [])) ln ∧ Fl V V8 := by
          cases orr
          · exact ⟨V7, if_pos rfl, t7.sk k2, by rw [if_neg (by decide), List.append_nil]; exact r7, w7⟩
          · obtain ⟨V8, e8, r8, f8⟩ := c_put 6 r7 (by omega)
            exact ⟨V8, by rw [if_neg (show ¬ bI true = 0 by decide), e8, q_R], (t7.sk k2).p f8, r8, w7.tr f8.fl⟩
        rw [e8]
        have hl8 : (C5 ++ (if orr then [6] else [])).length + 2 ≤ sk b n q := by
          rw [List.length_append]
          cases orr
          · simp only [Bool.false_eq_true, if_false, List.length_nil]
            omega
          · simp only [Bool.toNat_true] at hl5
            simp only [if_true, List.length_singleton]
            omega
        show CRes b n ln V (coL b n u (m2 + 1) (sk b n q) (C5 ++ (if orr then [6] else [])) (S5 ++ (if orr then [(15, 0)] else []))) _
        generalize C5 ++ (if orr then [6] else []) = C8 at r8 hl8
        generalize S5 ++ (if orr then [(15, 0)] else []) = S8
        unfold fX4_readCondition_j58_8
        obtain ⟨V9, e9, t9, f9⟩ := c_takeWord t8 hS hn (w := 20) (by omega) (by omega)
        rw [e9, q_I]
        unfold fX4_readCondition_j66_8 coL
        rw [sk_sk k2] at t9 ⊢
        have r9 := r8.t f9
        have w9 : Fl V V9 := w8.tr f9.fl
        rw [if_pos (show bI false = 0 from rfl), q_ifb]
        by_cases c2 : wdB b n (sk b n q) 20 = true
        · have hk : le_ b n (sk b n q) = sk b n q + 2 := wd_len c2
          rw [if_pos c2] at t9
          rw [if_pos c2, if_pos c2, c2, nI_1, q_lt]
          have h := c_coL (ln := ln) hn hu hr F 401 m2 V9 (le_ b n (sk b n q)) false true C8 S8 (cnt + 1) t9 (le_le hS) r9 (by simp only [Bool.toNat_true, Bool.toNat_false]; omega) (by omega) (by omega) (by omega) (by omega)
          unfold coX at h
          simp only [Bool.false_eq_true, if_false, if_true, List.append_nil] at h
          exact h.fr w9
        · rw [if_neg c2] at t9
          rw [if_neg c2, if_neg c2, q_zo1]
          exact .inr ⟨_, _, _, V9, rfl, rfl, t9, r9, w9⟩
theorem c_cond {b : Nat → Int32} {n dp h : Nat} {u : AtT} {ra : VT → Int32 → Option (Int32 × VT)} (hn : n ≤ 400) (hu : AtOK b n u h) (hr : CAt b n ra dp u) : CAt b n (fun V x => fX4_readCondition V ra x) dp (coP b n u) := by
  intro V p C S ln hT hp hC hl
  have h := c_coL (ln := ln) hn hu hr FV 401 401 V p false false C S 0 hT hp hC (by simp only [Bool.toNat_false]; omega) (by omega) (by omega) (by omega) (by have := FV_ge; omega)
  unfold coX at h
  simp only [Bool.false_eq_true, if_false, List.append_nil] at h
  show CRes b n ln V (coP b n u p C S) (fX4_readCondition V ra (nI dp))
  unfold fX4_readCondition coP
  rcases h with ⟨f, V', x1, x2, x3, x4⟩ | ⟨C', S', q, V', x1, x2, x3, x4, x5⟩
  · rw [show it_ (iX4_readCondition_L8 ra) FV (V, nI dp, 0, 0, 0) = _ from x2, q_R]
    exact .inl ⟨f, V', x1, rfl, x3, x4⟩
  · rw [show it_ (iX4_readCondition_L8 ra) FV (V, nI dp, 0, 0, 0) = _ from x2, q_R]
    exact .inr ⟨C', S', q, V', x1, rfl, x3, x4, x5⟩
theorem c_fact {V : VT} {b : Nat → Int32} {n p : Nat} (hT : TK V b n p) (hp : p ≤ n) (hn : n ≤ 400) :
    (tgC b n (sk b n p) = none ∧ fX4_factCode V = some (-1)) ∨
    (∃ c s, tgC b n (sk b n p) = some (c, s) ∧ fX4_factCode V = some c ∧ ¬ c = -1 ∧ ∀ V1, TK V1 b n p → ∃ V', fX8_step V1 = some V' ∧ TK V' b n (le_ b n (sk b n p)) ∧ Tf V1 V') := by
  have h4 : fX4_factCode V = (if wdB b n (sk b n p) 22 = true then some 0 else if wdB b n (sk b n p) 23 = true then some 1 else if wdB b n (sk b n p) 24 = true then some 2 else some (-1)) := by
    unfold fX4_factCode
    rw [c_isWord hT hp hn (by omega) (by omega), q_R, q_ifb, c_isWord hT hp hn (by omega) (by omega), q_R, q_ifb, c_isWord hT hp hn (by omega) (by omega), q_R, q_ifb]
  rw [h4]
  unfold tgC
  by_cases c1 : wdB b n (sk b n p) 22 = true
  · rw [if_pos c1, if_pos c1]
    exact .inr ⟨_, _, rfl, rfl, by decide, c_word hp hn (by omega) (by omega) c1⟩
  rw [if_neg c1, if_neg c1]
  by_cases c2 : wdB b n (sk b n p) 23 = true
  · rw [if_pos c2, if_pos c2]
    exact .inr ⟨_, _, rfl, rfl, by decide, c_word hp hn (by omega) (by omega) c2⟩
  rw [if_neg c2, if_neg c2]
  by_cases c3 : wdB b n (sk b n p) 24 = true
  · rw [if_pos c3, if_pos c3]
    exact .inr ⟨_, _, rfl, rfl, by decide, c_word hp hn (by omega) (by omega) c3⟩
  rw [if_neg c3, if_neg c3]
  exact .inl ⟨rfl, rfl⟩
theorem c_atS {b : Nat → Int32} {n dp : Nat} {u : Option AtT} {ra : VT → Int32 → Option (Int32 × VT)} (hn : n ≤ 400) (hd : dp ≤ 6) (h0 : u = none → dp = 6) (h1 : ∀ v, u = some v → dp < 6 ∧ (∃ h, AtOK b n v h ∧ 1 ≤ h) ∧ CAt b n ra (dp + 1) v) : CAt b n (fun V x => fX4_readAtom V ra x) dp (atS b n u) := by
  intro V p C S ln hT hp hC hl
  have hB := sk_le (b := b) hp
  have hg : p ≤ sk b n p := ru_ge
  show CRes b n ln V (atS b n u p C S) (fX4_readAtom V ra (nI dp))
  unfold fX4_readAtom atS
  have e2 : fX8_isSign V 40 = some (bI (cl b n 40 40 (sk b n p))) := c_isSign (c := 40) hT hp hn (by omega) (by omega)
  rw [c_isWord hT hp hn (by omega) (by omega), q_R, e2, q_R, q_ifb, q_ifb]
  by_cases c1 : wdB b n (sk b n p) 21 = true
  · have hk : le_ b n (sk b n p) = sk b n p + 3 := wd_len c1
    rw [if_pos c1, if_pos c1, c1]
    unfold fX4_readAtom_j20
    cases u with
    | none =>
      rw [h0 rfl, if_neg (by decide), q_zo0]
      exact .inl ⟨_, V, rfl, rfl, hT.2.2.1, Fl.rf⟩
    | some v =>
      obtain ⟨d6, -, hr⟩ := h1 v rfl
      obtain ⟨V4, e4, t4, f4⟩ := c_word hp hn (by omega) (by omega) c1 V hT
      rw [if_pos (show nI dp < 6 from nI_lt (b := 6) d6 (by omega)), e4, q_R, if_neg (show ¬ bI true = 0 by decide), nI_1]
      show CRes b n ln V (sb (v (le_ b n (sk b n p)) C S) fun x => .inr (x.1 ++ [4], x.2.1 ++ [(13, 0)], x.2.2)) _
      rcases hr V4 (le_ b n (sk b n p)) C S ln t4 (le_le hB) (hC.t f4) (by omega) with ⟨f, V', x1, x2, x3, x4⟩ | ⟨C1, S1, q, V7, x1, x2, t7, r7, w7⟩
      · obtain ⟨V9, e9, f9⟩ := c_put0 V' 4
        rw [x1, x2, q_I, e9, q_R, q_zo0]
        exact .inl ⟨f, V9, rfl, rfl, by rw [f9 1 (by omega) (by omega)]; exact x3, (f4.fl.tr x4).tr f9.fl⟩
      · obtain ⟨⟨h, hv, -⟩, -⟩ := (h1 v rfl).2
        obtain ⟨k1, k2, k3, -⟩ := hv.len (le_le hB) x1
        obtain ⟨V9, e9, r9, f9⟩ := c_put 4 r7 (by omega)
        rw [x1, x2, q_I, e9, q_R, q_zo1]
        exact .inr ⟨_, _, _, V9, rfl, rfl, t7.p f9, r9, (f4.fl.tr w7).tr f9.fl⟩
  rw [if_neg c1, if_neg c1]
  by_cases c2 : cl b n 40 40 (sk b n p) = true
  · have hk := (of_decide_eq_true c2).1
    rw [if_pos c2, if_pos c2, Bool.eq_false_iff.2 c1]
    unfold fX4_readAtom_j20
    cases u with
    | none =>
      rw [h0 rfl, if_neg (by decide), q_zo0]
      exact .inl ⟨_, V, rfl, rfl, hT.2.2.1, Fl.rf⟩
    | some v =>
      obtain ⟨d6, ⟨h, hv, hh⟩, hr⟩ := h1 v rfl
      obtain ⟨V4, e4, t4, f4⟩ := c_sgn hp hn (c := 40) (by omega) c2 V hT
      rw [if_pos (show nI dp < 6 from nI_lt (b := 6) d6 (by omega)), e4, q_R, if_pos (show bI false = 0 from rfl), nI_1]
      show CRes b n ln V (sb (coP b n v (sk b n p + 1) C S) fun x => if cl b n 41 41 (sk b n x.2.2) = true then .inr (x.1, x.2.1, sk b n x.2.2 + 1) else .inl (sk b n x.2.2)) _
      rcases c_cond hn hv hr V4 (sk b n p + 1) C S ln t4 hk (hC.t f4) (by omega) with ⟨f, V', x1, x2, x3, x4⟩ | ⟨C1, S1, q, V7, x1, x2, t7, r7, w7⟩
      · rw [x1, show fX4_readCondition V4 ra (nI (dp + 1)) = _ from x2, q_I, if_pos rfl, q_zo0]
        exact .inl ⟨f, V', rfl, rfl, x3, f4.fl.tr x4⟩
      · obtain ⟨k1, k2, k3, -⟩ := (coP_ok hv hh).len hk x1
        obtain ⟨V9, e9, t9, f9⟩ := c_takeSign (c := 41) t7 k2 hn (by omega) (by omega)
        have e9 : fX8_takeSign V7 41 = _ := e9
        rw [x1, show fX4_readCondition V4 ra (nI (dp + 1)) = _ from x2, q_I, if_neg q_10, e9, q_I, q_ifb]
        show CRes b n ln V (if cl b n 41 41 (sk b n q) = true then .inr (C1, S1, sk b n q + 1) else .inl (sk b n q)) _
        by_cases c3 : cl b n 41 41 (sk b n q) = true
        · rw [if_pos c3] at t9
          rw [if_pos c3, if_pos c3, q_zo1]
          exact .inr ⟨_, _, _, V9, rfl, rfl, t9, r7.t f9, (f4.fl.tr w7).tr f9.fl⟩
        · rw [if_neg c3] at t9
          rw [if_neg c3, if_neg c3, q_zo0]
          exact .inl ⟨_, V9, rfl, rfl, t9.2.2.1, (f4.fl.tr w7).tr f9.fl⟩
  rw [if_neg c2, if_neg c2]
  rcases c_fact hT hp hn with ⟨a1, a2⟩ | ⟨c, s, a1, a2, a3, a4⟩
  · rw [a1, a2, q_R, if_pos rfl]
    show CRes b n ln V (kpP b n p C S) _
    rcases c_comp hT hp hn hC hl S with ⟨f, V', x1, x2, x3, x4⟩ | ⟨C', S', q, V', x1, x2, x3, x4, x5⟩
    · rw [x2, q_I, q_zo0]
      exact .inl ⟨f, V', x1, rfl, x3, x4⟩
    · rw [x2, q_I, q_zo1]
      exact .inr ⟨C', S', q, V', x1, rfl, x3, x4, x5⟩
  · obtain ⟨V5, e5, r5, f5⟩ := c_put c hC (by omega)
    obtain ⟨V7, e7, t7, f7⟩ := a4 V5 (hT.p f5)
    rw [a1, a2, q_R, if_neg a3, e5, q_R, e7, q_R, q_zo1]
    exact .inr ⟨_, _, _, V7, rfl, rfl, t7, r5.t f7, f5.fl.tr f7.fl⟩
theorem c_atP {b : Nat → Int32} {n : Nat} (hn : n ≤ 400) : ∀ (r k : Nat), r < k → r ≤ 6 → CAt b n (tX4_readAtom k) (6 - r) (atP b n r)
  | 0, k, hk, h6 => by
    obtain ⟨k, rfl⟩ : ∃ g, k = g + 1 := ⟨k - 1, by omega⟩
    exact c_atS (ra := tX4_readAtom k) hn (by omega) (fun _ => rfl) (fun v h => by cases h)
  | r + 1, k, hk, h6 => by
    obtain ⟨k, rfl⟩ : ∃ g, k = g + 1 := ⟨k - 1, by omega⟩
    refine c_atS (ra := tX4_readAtom k) hn (by omega) (fun h => by cases h) (fun v h => ?_)
    cases h
    refine ⟨by omega, ⟨1 + 2 * r, atP_ok r, by omega⟩, ?_⟩
    rw [show 6 - (r + 1) + 1 = 6 - r by omega]
    exact c_atP hn r k (by omega) (by omega)
