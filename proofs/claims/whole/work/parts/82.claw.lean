/-! ===== the law's text: the class reads it ===== -/
def Pf (V V' : VT) : Prop := ∀ q, q ≠ 18 → q ≠ 70 → V' q = V q
def Fl (V V' : VT) : Prop := (∀ q, q ≠ 1 → q ≠ 18 → q ≠ 70 → V' q = V q) ∧ V' 1 1 = V 1 1
theorem Fl.rf {V : VT} : Fl V V := ⟨fun _ _ _ _ => rfl, rfl⟩
theorem Fl.tr {V V1 V2 : VT} (h1 : Fl V V1) (h2 : Fl V1 V2) : Fl V V2 := ⟨fun q a c d => (h2.1 q a c d).trans (h1.1 q a c d), h2.2.trans h1.2⟩
theorem Tf.fl {V V' : VT} (h : Tf V V') : Fl V V' := ⟨fun q a _ _ => h.1 q a, h.2⟩
theorem Pf.fl {V V' : VT} (h : Pf V V') : Fl V V' := ⟨fun q _ a c => h q a c, by rw [h 1 (by omega) (by omega)]⟩
theorem TK.p {V V' : VT} {b : Nat → Int32} {n p : Nat} (h : TK V b n p) (hp : Pf V V') : TK V' b n p := by
  unfold TK
  rw [hp 1 (by omega) (by omega), hp 23 (by omega) (by omega)]
  exact h
def Cr (V : VT) (C : List Int32) (ln : Nat) : Prop := V 18 1 = nI C.length ∧ V 18 2 = nI ln ∧ ∀ k, k < C.length → V 70 k = C.getD k 0
theorem Cr.t {V V' : VT} {C : List Int32} {ln : Nat} (h : Cr V C ln) (ht : Tf V V') : Cr V' C ln := by
  unfold Cr
  rw [ht.1 18 (by omega), ht.1 70 (by omega)]
  exact h
theorem gD_l {α : Type} {a c : List α} {d : α} {k : Nat} (h : k < a.length) : (a ++ c).getD k d = a.getD k d := by
  rw [List.getD_eq_getElem?_getD, List.getD_eq_getElem?_getD, List.getElem?_append_left h]
theorem gD_e {α : Type} {a : List α} {x d : α} : (a ++ [x]).getD a.length d = x := by
  rw [List.getD_eq_getElem?_getD, List.getElem?_append_right (Nat.le_refl _), Nat.sub_self]
  rfl
theorem c_put0 (V : VT) (x : Int32) : ∃ V', fX3_put V x = some V' ∧ Pf V V' := by
  unfold fX3_put
  by_cases c1 : V 18 1 < 0
  · rw [if_pos c1]
    exact ⟨V, rfl, fun _ _ _ => rfl⟩
  · rw [if_neg c1]
    by_cases c2 : nI 400 ≤ V 18 1
    · rw [if_pos c2]
      exact ⟨V, rfl, fun _ _ _ => rfl⟩
    · obtain ⟨m, hm, e⟩ := nI_of c1
      have h : m < 400 := by
        rcases Nat.lt_or_ge m 400 with h | h
        · exact h
        · exact absurd (by rw [e]; exact nI_le h hm) c2
      rw [if_neg c2, e, q_rd h (by omega), q_lt, q_lt]
      exact ⟨_, rfl, fun q a c => by rw [va_n a, va_n c]⟩
theorem c_put {V : VT} {C : List Int32} {ln : Nat} (x : Int32) (h : Cr V C ln) (hc : C.length < 400) : ∃ V', fX3_put V x = some V' ∧ Cr V' (C ++ [x]) ln ∧ Pf V V' := by
  obtain ⟨h1, h2, h3⟩ := h
  unfold fX3_put
  rw [h1, if_neg (nI_pos (by omega)), if_neg (nI_ge hc (by omega)), q_rd hc (by omega), q_lt, nI_clamp (by omega), va_n (show (18 : Nat) ≠ 70 by omega), h1, nI_1, q_lt]
  refine ⟨_, rfl, ⟨?_, ?_, ?_⟩, fun q a c => by rw [va_n a, va_n c]⟩
  · rw [va_s, pk_us, List.length_append]; rfl
  · rw [va_s, pk_un (by omega)]; exact h2
  · intro k hk
    rw [List.length_append, List.length_singleton] at hk
    rw [va_n (by omega), va_s]
    by_cases e : k = C.length
    · rw [e, pk_us, gD_e]
    · rw [pk_un e, h3 k (by omega), gD_l (by omega)]
section CT
variable {V V1 : VT} {b : Nat → Int32} {n p ln : Nat}
theorem c_word (hp : p ≤ n) (hn : n ≤ 400) {w : Nat} (hw : w < 65) (hw2 : 16 ≤ w) (c : wdB b n (sk b n p) w = true) (V1 : VT) (hT : TK V1 b n p) : ∃ V', fX8_step V1 = some V' ∧ TK V' b n (le_ b n (sk b n p)) ∧ Tf V1 V' := by
  have hB := sk_le (b := b) hp
  have e := (wd_lt hB hw hw2 c).2.2
  have h := c_next hT hp hn (by rw [e]; exact le_le hB)
  rw [e] at h
  exact h
theorem c_sgn (hp : p ≤ n) (hn : n ≤ 400) {c : Nat} (hc : c ≠ 32 ∧ (c < 48 ∨ 57 < c) ∧ (c < 97 ∨ 122 < c)) (h : cl b n c c (sk b n p) = true) (V1 : VT) (hT : TK V1 b n p) : ∃ V', fX8_step V1 = some V' ∧ TK V' b n (sk b n p + 1) ∧ Tf V1 V' := by
  obtain ⟨x1, x2, x3⟩ := sg_k hc h
  have h := c_next hT hp hn (by rw [x2]; omega)
  rw [x2] at h
  exact h
theorem c_part (hT : TK V b n p) (hp : p ≤ n) (hn : n ≤ 400) :
    (ptC b n (sk b n p) = none ∧ fX4_partCode V = some (-1)) ∨
    (∃ c s q, ptC b n (sk b n p) = some (c, s, q) ∧ fX4_partCode V = some c ∧ ¬ c = -1 ∧ ∀ V1, TK V1 b n p → ∃ V', fX8_step V1 = some V' ∧ TK V' b n q ∧ Tf V1 V') := by
  have e0 : fX8_isNumber V 0 999 = some (bI (nuB b n (sk b n p) 0 999)) := c_isNumber (lo := 0) (hi := 999) hT hp hn (by omega) (by omega)
  have h4 : fX4_partCode V = (if nuB b n (sk b n p) 0 999 = true then some (100 + V 1 5) else if wdB b n (sk b n p) 25 = true then some 12 else if wdB b n (sk b n p) 26 = true then some 13 else if wdB b n (sk b n p) 27 = true then some 14 else if wdB b n (sk b n p) 28 = true then some 15 else if wdB b n (sk b n p) 29 = true then some 16 else if wdB b n (sk b n p) 30 = true then some 17 else some (-1)) := by
    unfold fX4_partCode
    rw [e0, q_R, q_ifb, c_isWord hT hp hn (by omega) (by omega), q_R, q_ifb, c_isWord hT hp hn (by omega) (by omega), q_R, q_ifb, c_isWord hT hp hn (by omega) (by omega), q_R, q_ifb, c_isWord hT hp hn (by omega) (by omega), q_R, q_ifb, c_isWord hT hp hn (by omega) (by omega), q_R, q_ifb, c_isWord hT hp hn (by omega) (by omega), q_R, q_ifb]
  rw [h4]
  unfold ptC
  by_cases c0 : nuB b n (sk b n p) 0 999 = true
  · rw [if_pos c0, if_pos c0]
    have hv := (nu_k c0).2.2.2.1
    refine .inr ⟨_, _, _, rfl, ?_, ?_, fun V1 h1 => nu_n h1 hp hn c0⟩
    · rw [nu_v hT c0, q_addL]
    · exact q_m1 (by omega)
  rw [if_neg c0, if_neg c0]
  by_cases c1 : wdB b n (sk b n p) 25 = true
  · rw [if_pos c1, if_pos c1]
    exact .inr ⟨_, _, _, rfl, rfl, by decide, c_word hp hn (by omega) (by omega) c1⟩
  rw [if_neg c1, if_neg c1]
  by_cases c2 : wdB b n (sk b n p) 26 = true
  · rw [if_pos c2, if_pos c2]
    exact .inr ⟨_, _, _, rfl, rfl, by decide, c_word hp hn (by omega) (by omega) c2⟩
  rw [if_neg c2, if_neg c2]
  by_cases c3 : wdB b n (sk b n p) 27 = true
  · rw [if_pos c3, if_pos c3]
    exact .inr ⟨_, _, _, rfl, rfl, by decide, c_word hp hn (by omega) (by omega) c3⟩
  rw [if_neg c3, if_neg c3]
  by_cases c4 : wdB b n (sk b n p) 28 = true
  · rw [if_pos c4, if_pos c4]
    exact .inr ⟨_, _, _, rfl, rfl, by decide, c_word hp hn (by omega) (by omega) c4⟩
  rw [if_neg c4, if_neg c4]
  by_cases c5 : wdB b n (sk b n p) 29 = true
  · rw [if_pos c5, if_pos c5]
    exact .inr ⟨_, _, _, rfl, rfl, by decide, c_word hp hn (by omega) (by omega) c5⟩
  rw [if_neg c5, if_neg c5]
  by_cases c6 : wdB b n (sk b n p) 30 = true
  · rw [if_pos c6, if_pos c6]
    exact .inr ⟨_, _, _, rfl, rfl, by decide, c_word hp hn (by omega) (by omega) c6⟩
  rw [if_neg c6, if_neg c6]
  exact .inl ⟨rfl, rfl⟩
end CT
/-- what a reader of the class's does along an abstract one -/
def CRes (b : Nat → Int32) (n ln : Nat) (V : VT) (X : RdT) (Y : Option (Int32 × VT)) : Prop :=
  (∃ f V', X = .inl f ∧ Y = some (0, V') ∧ V' 1 3 = nI f ∧ Fl V V') ∨
  (∃ C' S' q V', X = .inr (C', S', q) ∧ Y = some (1, V') ∧ TK V' b n q ∧ Cr V' C' ln ∧ Fl V V')
theorem CRes.fr {b : Nat → Int32} {n ln : Nat} {V V1 : VT} {X : RdT} {Y : Option (Int32 × VT)} (h : CRes b n ln V1 X Y) (hf : Fl V V1) : CRes b n ln V X Y := by
  rcases h with ⟨f, V', x1, x2, x3, x4⟩ | ⟨C', S', q, V', x1, x2, x3, x4, x5⟩
  · exact .inl ⟨f, V', x1, x2, x3, hf.tr x4⟩
  · exact .inr ⟨C', S', q, V', x1, x2, x3, x4, hf.tr x5⟩
theorem c_suL {b : Nat → Int32} {n ln : Nat} (hn : n ≤ 400) : ∀ (m F : Nat) (V : VT) (p : Nat) (C : List Int32) (S : List (Int32 × Int32)) (g : List (Int32 × Int32) → List (Int32 × Int32)) (cnt : Nat), TK V b n p → p ≤ n → Cr V C ln → C.length + 2 ≤ p → cnt + 1 ≤ p → n < p + m → m < F →
    CRes b n ln V (sb (ptP b n p C S) fun x => suL b n m x.2.2 x.1 (g x.2.1)) (it_ iX4_readSum_L2 F (V, nI cnt))
  | 0, F, V, p, C, S, g, cnt, hT, hp, hC, hl, hc, hm, hF => by omega
  | m + 1, F, V, p, C, S, g, cnt, hT, hp, hC, hl, hc, hm, hF => by
    obtain ⟨F, rfl⟩ : ∃ g, F = g + 1 := ⟨F - 1, by omega⟩
    have hB := sk_le (b := b) hp
    unfold it_
    unfold ptP
    rcases c_part hT hp hn with ⟨a1, a2⟩ | ⟨c, s, q, a1, a2, a3, a4⟩
    · rw [show iX4_readSum_L2 (V, nI cnt) = some (.inr (0, V)) by
        show fX4_readSum_L2 V (nI cnt) = _
        unfold fX4_readSum_L2
        rw [if_neg (show ¬ (400 : Int32) ≤ nI cnt from nI_ge (b := 400) (by omega) (by omega)), a2, q_R, if_pos rfl, q_zo0], a1]
      exact .inl ⟨_, V, rfl, rfl, hT.2.2.1, Fl.rf⟩
    · obtain ⟨k1, k2, -⟩ := ptC_ok hB a1
      have hg : p ≤ sk b n p := ru_ge
      obtain ⟨V5, e5, r5, f5⟩ := c_put c hC (by omega)
      obtain ⟨V7, e7, t7, f7⟩ := a4 V5 (hT.p f5)
      have r7 := r5.t f7
      have w7 : Fl V V7 := f5.fl.tr f7.fl
      have hS := sk_le (b := b) k2
      have hgq : q ≤ sk b n q := ru_ge
      have e9 : fX8_isSign V7 43 = some (bI (cl b n 43 43 (sk b n q))) := c_isSign (c := 43) t7 k2 hn (by omega) (by omega)
      rw [a1]
      show CRes b n ln V (if cl b n 43 43 (sk b n q) = true then sb (ptP b n (sk b n q + 1) (C ++ [c]) (g (S ++ [s]))) fun x => suL b n m x.2.2 x.1 (x.2.1 ++ [(10, 0)]) else .inr (C ++ [c], g (S ++ [s]), sk b n q)) _
      by_cases c1 : cl b n 43 43 (sk b n q) = true
      · obtain ⟨V11, e11, t11, f11⟩ := c_sgn k2 hn (c := 43) (by omega) c1 V7 t7
        rw [show iX4_readSum_L2 (V, nI cnt) = some (.inl (V11, nI (cnt + 1))) by
          show fX4_readSum_L2 V (nI cnt) = _
          unfold fX4_readSum_L2
          rw [if_neg (show ¬ (400 : Int32) ≤ nI cnt from nI_ge (b := 400) (by omega) (by omega)), a2, q_R, if_neg a3, e5, q_R, e7, q_R, e9, q_R, c1, if_neg (show ¬ bI true = 0 by decide), e11, q_R, nI_1, q_lt], if_pos c1]
        have hk := (of_decide_eq_true c1).1
        exact (c_suL hn m F V11 (sk b n q + 1) (C ++ [c]) (g (S ++ [s])) (fun z => z ++ [(10, 0)]) (cnt + 1) t11 (by omega) (r7.t f11) (by rw [List.length_append, List.length_singleton]; omega) (by omega) (by omega) (by omega)).fr (w7.tr f11.fl)
      · rw [show iX4_readSum_L2 (V, nI cnt) = some (.inr (1, V7)) by
          show fX4_readSum_L2 V (nI cnt) = _
          unfold fX4_readSum_L2
          rw [if_neg (show ¬ (400 : Int32) ≤ nI cnt from nI_ge (b := 400) (by omega) (by omega)), a2, q_R, if_neg a3, e5, q_R, e7, q_R, e9, q_R, Bool.eq_false_iff.2 c1, if_pos (show bI false = 0 from rfl), q_zo1], if_neg c1]
        exact .inr ⟨_, _, _, V7, rfl, rfl, t7.sk k2, r7, w7⟩
section CT
variable {V V1 : VT} {b : Nat → Int32} {n p ln : Nat} {C : List Int32}
theorem c_readSum (hT : TK V b n p) (hp : p ≤ n) (hn : n ≤ 400) (hC : Cr V C ln) (hl : C.length + 2 ≤ p) (S : List (Int32 × Int32)) : CRes b n ln V (suP b n p C S) (fX4_readSum V) := by
  have h := c_suL hn 401 FV V p C S (fun z => z) 0 hT hp hC hl (by omega) (by omega) (by have := FV_ge; omega)
  unfold fX4_readSum
  rcases h with ⟨f, V', x1, x2, x3, x4⟩ | ⟨C', S', q, V', x1, x2, x3, x4, x5⟩
  · rw [show it_ iX4_readSum_L2 FV (V, 0) = _ from x2, q_R]
    exact .inl ⟨f, V', x1, rfl, x3, x4⟩
  · rw [show it_ iX4_readSum_L2 FV (V, 0) = _ from x2, q_R]
    exact .inr ⟨C', S', q, V', x1, rfl, x3, x4, x5⟩
theorem c_comp (hT : TK V b n p) (hp : p ≤ n) (hn : n ≤ 400) (hC : Cr V C ln) (hl : C.length + 3 ≤ p) (S : List (Int32 × Int32)) : CRes b n ln V (kpP b n p C S) (fX4_readComparison V) := by
  unfold fX4_readComparison kpP
  rcases c_readSum hT hp hn hC (by omega) S with ⟨f, V', x1, x2, x3, x4⟩ | ⟨C1, S1, q, V3, x1, x2, t3, r3, w3⟩
  · rw [x1, x2, q_I, if_pos rfl, q_zo0]
    exact .inl ⟨f, V', rfl, rfl, x3, x4⟩
  · obtain ⟨k1, k2, cs, ss, v, k3, k4, -, k6, -⟩ := suP_ok hp x1
    have hl1 : C1.length + 3 ≤ q := by rw [k3, List.length_append]; omega
    have hS := sk_le (b := b) k2
    have hgq : q ≤ sk b n q := ru_ge
    have e5 : fX8_isSign V3 60 = some (bI (cl b n 60 60 (sk b n q))) := c_isSign (c := 60) t3 k2 hn (by omega) (by omega)
    have e6 : fX8_isSign V3 62 = some (bI (cl b n 62 62 (sk b n q))) := c_isSign (c := 62) t3 k2 hn (by omega) (by omega)
    have key : ∀ (lt : Bool) (c : Nat), c ≠ 32 ∧ (c < 48 ∨ 57 < c) ∧ (c < 97 ∨ 122 < c) → cl b n c c (sk b n q) = true → CRes b n ln V (sb (suP b n (sk b n q + 1) (C1 ++ [7]) S1) fun y => .inr (y.1 ++ [if lt then 8 else 9], y.2.1 ++ [(if lt then 11 else 12, 0)], y.2.2)) (fX4_readComparison_j32 V3 (bI lt)) := by
      intro lt c hc c1
      have hk := (of_decide_eq_true c1).1
      obtain ⟨V7, e7, t7, f7⟩ := c_sgn k2 hn hc c1 V3 t3
      obtain ⟨V9, e9, r9, f9⟩ := c_put 7 (r3.t f7) (by omega)
      unfold fX4_readComparison_j32
      rw [e7, q_R, e9, q_R]
      rcases c_readSum (t7.p f9) (by omega) hn r9 (by rw [List.length_append, List.length_singleton]; omega) S1 with ⟨f, V', y1, y2, y3, y4⟩ | ⟨C2, S2, q2, V12, y1, y2, t12, r12, w12⟩
      · rw [y1, y2, q_I, if_pos rfl, q_zo0]
        exact .inl ⟨f, V', rfl, rfl, y3, ((w3.tr f7.fl).tr f9.fl).tr y4⟩
      · obtain ⟨j1, j2, cs', ss', v', j3, j4, -, j6, -⟩ := suP_ok (by omega) y1
        have hl2 : C2.length + 2 ≤ q2 := by rw [j3, List.length_append, List.length_append, List.length_singleton]; omega
        rw [y1, y2, q_I, if_neg q_10, q_ifb]
        cases lt
        · obtain ⟨V14, e14, r14, f14⟩ := c_put 9 r12 (by omega)
          rw [if_neg (by decide), e14, q_R, q_zo1]
          exact .inr ⟨_, _, _, V14, rfl, rfl, t12.p f14, r14, (((w3.tr f7.fl).tr f9.fl).tr w12).tr f14.fl⟩
        · obtain ⟨V14, e14, r14, f14⟩ := c_put 8 r12 (by omega)
          rw [if_pos rfl, e14, q_R, q_zo1]
          exact .inr ⟨_, _, _, V14, rfl, rfl, t12.p f14, r14, (((w3.tr f7.fl).tr f9.fl).tr w12).tr f14.fl⟩
    rw [x1, x2, q_I, if_neg q_10, e5, q_R]
    show CRes b n ln V (if cl b n 60 60 (sk b n q) = true then sb (suP b n (sk b n q + 1) (C1 ++ [7]) S1) fun y => .inr (y.1 ++ [8], y.2.1 ++ [(11, 0)], y.2.2)
      else if cl b n 62 62 (sk b n q) = true then sb (suP b n (sk b n q + 1) (C1 ++ [7]) S1) fun y => .inr (y.1 ++ [9], y.2.1 ++ [(12, 0)], y.2.2)
      else .inl (sk b n q)) _
    by_cases c1 : cl b n 60 60 (sk b n q) = true
    · rw [if_pos c1, c1, if_neg (show ¬ bI true = 0 by decide)]
      exact key true 60 (by omega) c1
    · rw [if_neg c1, Bool.eq_false_iff.2 c1, if_pos (show bI false = 0 from rfl), e6, q_R, q_ifb]
      by_cases c2 : cl b n 62 62 (sk b n q) = true
      · rw [if_pos c2, if_pos c2]
        exact key false 62 (by omega) c2
      · rw [if_neg c2, if_neg c2, q_zo0]
        exact .inl ⟨_, V3, rfl, rfl, by rw [← sk_sk k2]; exact (t3.sk k2).2.2.1, w3⟩
end CT
/-- a reader of the class's follows an abstract one -/
def CAt (b : Nat → Int32) (n : Nat) (ra : VT → Int32 → Option (Int32 × VT)) (dp : Nat) (u : AtT) : Prop := ∀ (V : VT) (p : Nat) (C : List Int32) (S : List (Int32 × Int32)) (ln : Nat), TK V b n p → p ≤ n → Cr V C ln → C.length + 3 ≤ p → CRes b n ln V (u p C S) (ra V (nI dp))
