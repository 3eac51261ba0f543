/-! ===== the law's text: the model reads it ===== -/
def Gn (V V' : VT) : Prop := (∀ q, q ≠ 22 → q ≠ 76 → V' q = V q) ∧ (∀ k, k < 1188 → V' 76 k = V 76 k) ∧ ∀ k, k ≠ 10 → k ≠ 12 → k ≠ 13 → k ≠ 16 → V' 22 k = V 22 k
theorem Gn.rf {V : VT} : Gn V V := ⟨fun _ _ _ => rfl, fun _ _ => rfl, fun _ _ _ _ _ => rfl⟩
theorem Gn.tr {V V1 V2 : VT} (h1 : Gn V V1) (h2 : Gn V1 V2) : Gn V V2 := ⟨fun q a c => (h2.1 q a c).trans (h1.1 q a c), fun k hk => (h2.2.1 k hk).trans (h1.2.1 k hk), fun k a c d e => (h2.2.2 k a c d e).trans (h1.2.2 k a c d e)⟩
theorem Mg.gn {V V' : VT} (h : Mg V V') : Gn V V' := ⟨fun q a _ => h.1 q a, fun k _ => by rw [h.1 76 (by omega)], fun k a c _ _ => h.2 k a c⟩
def Ef (V V' : VT) : Prop := (∀ q, q ≠ 22 → q ≠ 76 → V' q = V q) ∧ (∀ k, k < 1188 → V' 76 k = V 76 k) ∧ ∀ k, k ≠ 16 → V' 22 k = V 22 k
theorem Ef.gn {V V' : VT} (h : Ef V V') : Gn V V' := ⟨h.1, h.2.1, fun k _ _ _ e => h.2.2 k e⟩
theorem MP.e {V V' : VT} {b : Nat → Int32} {n p : Nat} (h : MP V b n p) (he : Ef V V') : MP V' b n p := ⟨by rw [he.2.2 10 (by omega)]; exact h.1, by rw [he.2.2 11 (by omega)]; exact h.2.1, by rw [he.1 81 (by omega) (by omega)]; exact h.2.2⟩
def Mr (V : VT) (S : List (Int32 × Int32)) (dp : Nat) : Prop := V 22 16 = nI S.length ∧ V 22 13 = nI dp ∧ ∀ k, k < S.length → V 76 (1188 + 2 * k) = (S.getD k (0, 0)).1 ∧ V 76 (1188 + 2 * k + 1) = (S.getD k (0, 0)).2
theorem Mr.g {V V' : VT} {S : List (Int32 × Int32)} {dp : Nat} (h : Mr V S dp) (hg : Mg V V') : Mr V' S dp := by
  unfold Mr
  rw [hg.2 16 (by omega) (by omega), hg.2 13 (by omega) (by omega), hg.1 76 (by omega)]
  exact h
theorem Mr.d {V : VT} {S : List (Int32 × Int32)} {dp dq : Nat} (h : Mr V S dp) : Mr (va_up V 22 (upd (V 22) 13 (nI dq))) S dq := by
  unfold Mr
  rw [va_s, pk_un (by omega), pk_us, va_n (by omega)]
  exact ⟨h.1, rfl, h.2.2⟩
theorem MP.d {V : VT} {b : Nat → Int32} {n p : Nat} {x : Int32} (h : MP V b n p) : MP (va_up V 22 (upd (V 22) 13 x)) b n p := by
  unfold MP
  rw [va_s, pk_un (by omega), pk_un (by omega), va_n (by omega)]
  exact h
theorem Gn.d {V : VT} {x : Int32} : Gn V (va_up V 22 (upd (V 22) 13 x)) := ⟨fun q a _ => va_n a, fun k _ => by rw [va_n (by omega)], fun k _ _ c _ => by rw [va_s, pk_un c]⟩
theorem m_emit {V : VT} {S : List (Int32 × Int32)} {dp : Nat} (x y : Int32) (h : Mr V S dp) (hs : S.length < 400) : ∃ V', fX10_emits V x y = some V' ∧ Mr V' (S ++ [(x, y)]) dp ∧ Ef V V' := by
  obtain ⟨h1, h2, h3⟩ := h
  have e : fX10_emits V x y = some (va_up (va_up (va_up V 76 (upd (V 76) (1188 + 2 * S.length) x)) 76 (upd (upd (V 76) (1188 + 2 * S.length) x) (1188 + 2 * S.length + 1) y)) 22 (upd (V 22) 16 (nI (S.length + 1)))) := by
    unfold fX10_emits
    rw [h1, q_mulL, q_addL, q_rd (by omega) (by omega), nI_clamp (by omega), q_lt, va_n (show (22 : Nat) ≠ 76 by omega), h1, q_mulL, q_addL, q_add, q_rd (by omega) (by omega), nI_clamp (by omega), q_lt, va_n (show (22 : Nat) ≠ 76 by omega), va_n (show (22 : Nat) ≠ 76 by omega), h1, nI_1, q_lt, va_s]
  refine ⟨_, e, ⟨?_, ?_, ?_⟩, ⟨?_, ?_, ?_⟩⟩
  · rw [va_s, pk_us, List.length_append]; rfl
  · rw [va_s, pk_un (by omega)]; exact h2
  · intro k hk
    rw [List.length_append, List.length_singleton] at hk
    rw [va_n (by omega), va_s]
    by_cases e : k = S.length
    · rw [e, gD_e, pk_us, pk_un (by omega), pk_us]
      exact ⟨rfl, rfl⟩
    · rw [gD_l (by omega), pk_un (by omega), pk_un (by omega), pk_un (by omega), pk_un (by omega)]
      exact h3 k (by omega)
  · intro q a c
    rw [va_n a, va_n c, va_n c]
  · intro k hk
    rw [va_n (by omega), va_s, pk_un (by omega), pk_un (by omega)]
  · intro k hk
    rw [va_s, pk_un hk]
section MT
variable {V V1 : VT} {b : Nat → Int32} {n p dp : Nat} {C : List Int32} {S : List (Int32 × Int32)}
theorem le_nu {B lo hi : Nat} (h : B < le_ b n B) : ¬ nuB b n B lo hi = true := fun h2 => by
  have h3 := (nu_k h2).2.2.2.2.2
  have a1 := of_decide_eq_true (ru_in (b := b) (n := n) (lo := 97) (hi := 122) (Nat.le_refl B) h)
  have a2 := of_decide_eq_true (ru_in (b := b) (n := n) (lo := 48) (hi := 57) (Nat.le_refl B) h3)
  omega
theorem m_part (hM : MP V b n p) (hy : ∀ k, k < 400 → by_ (b k)) (hp : p ≤ n) (hn : n ≤ 400) (hR : Mr V S dp) (hs : S.length < 400) :
    (∃ V', ptC b n (sk b n p) = none ∧ fX10_readPart V = some (0, V') ∧ V' 22 12 = nI (sk b n p) ∧ Gn V V') ∨
    (∃ c s q V', ptC b n (sk b n p) = some (c, s, q) ∧ fX10_readPart V = some (1, V') ∧ MP V' b n q ∧ Mr V' (S ++ [s]) dp ∧ Gn V V') := by
  have hB := sk_le (b := b) hp
  obtain ⟨V2, e2, b1, b2, b3⟩ := m_letters hM hy hp hn
  unfold fX10_readPart
  rw [e2, q_R]
  by_cases c0 : le_ b n (sk b n p) = sk b n p
  · have nw : ∀ w, w < 65 → 16 ≤ w → ¬ wdB b n (sk b n p) w = true := fun w h1 h2 h3 => by
      have := (wd_lt hB h1 h2 h3).1
      omega
    rw [c0] at b1
    obtain ⟨V3, e3, d1, d2, d3⟩ := m_number b1 hy hB hn (lo := 0) (hi := 999) (by omega) (by omega)
    rw [sk_sk hp] at e3 d1 d2
    have e3 : fX10_number V2 0 999 = _ := e3
    rw [b1.1, b2, if_pos rfl, e3, q_I]
    have r3 := (hR.g b3).g d3
    unfold ptC
    by_cases c1 : nuB b n (sk b n p) 0 999 = true
    · have hv := (nu_k c1).2.2.2.1
      obtain ⟨V4, e4, r4, f4⟩ := m_emit 9 (nI (vl b n (sk b n p))) r3 hs
      rw [if_pos c1, if_pos c1, e4, q_R]
      unfold fX10_readPart_j120
      rw [if_neg (nI_pos (by omega)), q_zo1]
      exact .inr ⟨_, _, _, V4, rfl, rfl, d1.e f4, r4, ((b3.tr d3).gn).tr f4.gn⟩
    · obtain ⟨V4, e4, r4, f4⟩ := m_emit 9 (-1) r3 hs
      rw [if_neg c1, if_neg c1, e4, q_R, if_neg (nw 25 (by omega) (by omega)), if_neg (nw 26 (by omega) (by omega)), if_neg (nw 27 (by omega) (by omega)), if_neg (nw 28 (by omega) (by omega)), if_neg (nw 29 (by omega) (by omega)), if_neg (nw 30 (by omega) (by omega))]
      unfold fX10_readPart_j120
      rw [if_pos (by decide), q_zo0]
      exact .inl ⟨V4, rfl, rfl, by rw [f4.2.2 12 (by omega)]; exact d2, ((b3.tr d3).gn).tr f4.gn⟩
  · have hlt : sk b n p < le_ b n (sk b n p) := by
      have := le_ge (b := b) (n := n) (p := sk b n p)
      omega
    have hL := le_le (b := b) hB
    rw [b1.1, b2, if_neg (fun e => c0 ((nI_eq (by omega) (by omega)).1 e))]
    rw [m_isWord b1 b2 hB hn (by omega) (by omega), q_R, q_ifb, m_isWord b1 b2 hB hn (by omega) (by omega), q_R, q_ifb, m_isWord b1 b2 hB hn (by omega) (by omega), q_R, q_ifb, m_isWord b1 b2 hB hn (by omega) (by omega), q_R, q_ifb, m_isWord b1 b2 hB hn (by omega) (by omega), q_R, q_ifb, m_isWord b1 b2 hB hn (by omega) (by omega), q_R, q_ifb,
      wd_eq (show sY.getD 49 [] = sY.getD 25 [] from rfl), wd_eq (show sY.getD 53 [] = sY.getD 26 [] from rfl), wd_eq (show sY.getD 54 [] = sY.getD 27 [] from rfl), wd_eq (show sY.getD 55 [] = sY.getD 28 [] from rfl), wd_eq (show sY.getD 56 [] = sY.getD 29 [] from rfl), wd_eq (show sY.getD 57 [] = sY.getD 30 [] from rfl)]
    have yes : ∀ (k : Nat), k < 6 → ∃ V', fX10_readPart_j113 V2 (nI k) = some (1, V') ∧ MP V' b n (le_ b n (sk b n p)) ∧ Mr V' (S ++ [(nI k, 0)]) dp ∧ Gn V V' := fun k hk => by
      obtain ⟨V4, e4, r4, f4⟩ := m_emit (nI k) 0 (hR.g b3) hs
      unfold fX10_readPart_j113 fX10_readPart_j120
      rw [e4, q_R, if_neg (nI_pos (by omega)), q_zo1]
      exact ⟨V4, rfl, b1.e f4, r4, b3.gn.tr f4.gn⟩
    unfold ptC
    rw [if_neg (le_nu hlt)]
    by_cases c1 : wdB b n (sk b n p) 25 = true
    · rw [if_pos c1, if_pos c1]
      obtain ⟨V', x1, x2⟩ := yes 0 (by omega)
      exact .inr ⟨_, _, _, V', rfl, x1, x2⟩
    rw [if_neg c1, if_neg c1]
    by_cases c2 : wdB b n (sk b n p) 26 = true
    · rw [if_pos c2, if_pos c2]
      obtain ⟨V', x1, x2⟩ := yes 1 (by omega)
      exact .inr ⟨_, _, _, V', rfl, x1, x2⟩
    rw [if_neg c2, if_neg c2]
    by_cases c3 : wdB b n (sk b n p) 27 = true
    · rw [if_pos c3, if_pos c3]
      obtain ⟨V', x1, x2⟩ := yes 2 (by omega)
      exact .inr ⟨_, _, _, V', rfl, x1, x2⟩
    rw [if_neg c3, if_neg c3]
    by_cases c4 : wdB b n (sk b n p) 28 = true
    · rw [if_pos c4, if_pos c4]
      obtain ⟨V', x1, x2⟩ := yes 3 (by omega)
      exact .inr ⟨_, _, _, V', rfl, x1, x2⟩
    rw [if_neg c4, if_neg c4]
    by_cases c5 : wdB b n (sk b n p) 29 = true
    · rw [if_pos c5, if_pos c5]
      obtain ⟨V', x1, x2⟩ := yes 4 (by omega)
      exact .inr ⟨_, _, _, V', rfl, x1, x2⟩
    rw [if_neg c5, if_neg c5]
    by_cases c6 : wdB b n (sk b n p) 30 = true
    · rw [if_pos c6, if_pos c6]
      obtain ⟨V', x1, x2⟩ := yes 5 (by omega)
      exact .inr ⟨_, _, _, V', rfl, x1, x2⟩
    rw [if_neg c6, if_neg c6]
    obtain ⟨V4, e4, r4, f4⟩ := m_emit (-1) 0 (hR.g b3) hs
    unfold fX10_readPart_j113 fX10_readPart_j120
    rw [e4, q_R, if_pos (by decide), q_zo0]
    exact .inl ⟨V4, rfl, rfl, by rw [f4.2.2 12 (by omega)]; exact b2, b3.gn.tr f4.gn⟩
end MT
/-- what a reader of the model's does along an abstract one -/
def MRes (b : Nat → Int32) (n dp : Nat) (V : VT) (p : Nat) (S : List (Int32 × Int32)) (X : RdT) (Y : Option (Int32 × VT)) : Prop :=
  (∃ f V', X = .inl f ∧ Y = some (0, V') ∧ V' 22 12 = nI f ∧ Gn V V') ∨
  (∃ C' S' q V', X = .inr (C', S', q) ∧ Y = some (1, V') ∧ MP V' b n q ∧ Mr V' S' dp ∧ p ≤ q ∧ q ≤ n ∧ S'.length + p ≤ S.length + q ∧ Gn V V')
theorem MRes.fr {b : Nat → Int32} {n dp : Nat} {V V1 : VT} {p p1 : Nat} {S S1 : List (Int32 × Int32)} {X : RdT} {Y : Option (Int32 × VT)} (h : MRes b n dp V1 p1 S1 X Y) (hf : Gn V V1) (hp : p ≤ p1) (hs : S1.length + p ≤ S.length + p1) : MRes b n dp V p S X Y := by
  rcases h with ⟨f, V', x1, x2, x3, x4⟩ | ⟨C', S', q, V', x1, x2, x3, x4, x5, x6, x7, x8⟩
  · exact .inl ⟨f, V', x1, x2, x3, hf.tr x4⟩
  · exact .inr ⟨C', S', q, V', x1, x2, x3, x4, by omega, x6, by omega, hf.tr x8⟩
theorem m_ptP {V : VT} {b : Nat → Int32} {n p dp : Nat} {S : List (Int32 × Int32)} (C : List Int32) (hM : MP V b n p) (hy : ∀ k, k < 400 → by_ (b k)) (hp : p ≤ n) (hn : n ≤ 400) (hR : Mr V S dp) (hs : S.length < 400) : MRes b n dp V p S (ptP b n p C S) (fX10_readPart V) := by
  unfold ptP
  rcases m_part hM hy hp hn hR hs with ⟨V', a1, a2, a3, a4⟩ | ⟨c, s, q, V', a1, a2, a3, a4, a5⟩
  · rw [a1, a2]
    exact .inl ⟨_, V', rfl, rfl, a3, a4⟩
  · obtain ⟨k1, k2, -⟩ := ptC_ok (sk_le hp) a1
    have hg : p ≤ sk b n p := ru_ge
    rw [a1, a2]
    exact .inr ⟨_, _, _, V', rfl, rfl, a3, a4, by show p ≤ q; omega, k2, by rw [List.length_append, List.length_singleton]; show S.length + 1 + p ≤ S.length + q; omega, a5⟩
theorem m_suL {b : Nat → Int32} {n dp : Nat} (hn : n ≤ 400) (hy : ∀ k, k < 400 → by_ (b k)) : ∀ (m F : Nat) (V : VT) (p : Nat) (C : List Int32) (S : List (Int32 × Int32)), MP V b n p → p ≤ n → Mr V S dp → S.length + 3 ≤ p → n < p + m → m ≤ F →
    MRes b n dp V p S (suL b n m p C S) (it_ iX10_readSum_L9 F V)
  | 0, F, V, p, C, S, hM, hp, hR, hl, hm, hF => by omega
  | m + 1, F, V, p, C, S, hM, hp, hR, hl, hm, hF => by
    obtain ⟨F, rfl⟩ : ∃ g, F = g + 1 := ⟨F - 1, by omega⟩
    have hB := sk_le (b := b) hp
    have hg : p ≤ sk b n p := ru_ge
    unfold it_ suL
    obtain ⟨V1, e1, m1, -, g1⟩ := m_sign hM hy hp hn (c := 43) (by omega)
    have e1 : fX10_sign V 43 = _ := e1
    have e0 : iX10_readSum_L9 V = (if cl b n 43 43 (sk b n p) = true then (ob_I (fX10_readPart V1 ) fun y9 V10 => if y9 = 0 then (zo_ (0 : Int32) (some (.inr (((0 : Int32), V10))))) else (ob_R (fX10_emits V10 (10 : Int32) (0 : Int32)) fun V12 => some (.inl V12))) else (zo_ (1 : Int32) (some (.inr (((1 : Int32), V1)))))) := by
      show fX10_readSum_L9 V = _
      unfold fX10_readSum_L9
      rw [e1, q_I, q_ifb]
    rw [e0]
    by_cases c1 : cl b n 43 43 (sk b n p) = true
    · have hk := (of_decide_eq_true c1).1
      rw [if_pos c1] at m1
      rw [if_pos c1, if_pos c1]
      rcases m_ptP C m1 hy (by omega) hn (hR.g g1) (by omega) with ⟨f, V', x1, x2, x3, x4⟩ | ⟨C1, S1, q, V2, x1, x2, m2, r2, k1, k2, k3, g2⟩
      · rw [x1, x2, q_I, if_pos rfl, q_zo0]
        exact .inl ⟨f, V', rfl, rfl, x3, g1.gn.tr x4⟩
      · obtain ⟨V3, e3, r3, f3⟩ := m_emit 10 0 r2 (by omega)
        rw [x1, x2, q_I, if_neg q_10, e3, q_R]
        exact (m_suL hn hy m F V3 q C1 (S1 ++ [(10, 0)]) (m2.e f3) k2 r3 (by rw [List.length_append, List.length_singleton]; omega) (by omega) (by omega)).fr ((g1.gn.tr g2).tr f3.gn) (by omega) (by rw [List.length_append, List.length_singleton]; omega)
    · rw [if_neg c1] at m1
      rw [if_neg c1, if_neg c1, q_zo1]
      exact .inr ⟨_, _, _, V1, rfl, rfl, m1, hR.g g1, hg, hB, by omega, g1.gn⟩
section MT
variable {V V1 : VT} {b : Nat → Int32} {n p dp : Nat} {S : List (Int32 × Int32)}
theorem m_readSum (C : List Int32) (hM : MP V b n p) (hy : ∀ k, k < 400 → by_ (b k)) (hp : p ≤ n) (hn : n ≤ 400) (hR : Mr V S dp) (hl : S.length + 3 ≤ p) : MRes b n dp V p S (suP b n p C S) (fX10_readSum V) := by
  unfold suP fX10_readSum
  rcases m_ptP C hM hy hp hn hR (by omega) with ⟨f, V', x1, x2, x3, x4⟩ | ⟨C1, S1, q, V2, x1, x2, m2, r2, k1, k2, k3, g2⟩
  · rw [x1, x2, q_I, if_pos rfl, q_zo0]
    exact .inl ⟨f, V', rfl, rfl, x3, x4⟩
  · rw [x1, x2, q_I, if_neg q_10]
    have h := (m_suL (dp := dp) hn hy 401 FV V2 q C1 S1 m2 k2 r2 (by omega) (by omega) (by have := FV_ge; omega)).fr g2 k1 k3
    rcases h with ⟨f, V', y1, y2, y3, y4⟩ | ⟨C', S', q', V', y1, y2, y3⟩
    · rw [y2, q_R]
      exact .inl ⟨f, V', y1, rfl, y3, y4⟩
    · rw [y2, q_R]
      exact .inr ⟨C', S', q', V', y1, rfl, y3⟩
theorem m_comp (C : List Int32) (ra : VT → Option (Int32 × VT)) (hM : MP V b n p) (hy : ∀ k, k < 400 → by_ (b k)) (hp : p ≤ n) (hn : n ≤ 400) (hR : Mr V S dp) (hl : S.length + 3 ≤ p) : MRes b n dp V p S (kpP b n p C S) (ob_I (fX10_readSum V ) fun y11 V12 => if y11 = 0 then (zo_ (0 : Int32) (some ((0 : Int32), V12))) else (ob_I (fX10_sign V12 (60 : Int32)) fun y14 V15 => if y14 = 0 then (ob_I (fX10_sign V15 (62 : Int32)) fun y29 V30 => if y29 = 0 then (zo_ (0 : Int32) (some ((0 : Int32), V30))) else (fX10_readAtom_j152 V30 ra y14)) else (fX10_readAtom_j152 V15 ra y14))) := by
  unfold kpP
  rcases m_readSum C hM hy hp hn hR hl with ⟨f, V', x1, x2, x3, x4⟩ | ⟨C1, S1, q, V2, x1, x2, m2, r2, k1, k2, k3, g2⟩
  · rw [x1, x2, q_I, if_pos rfl, q_zo0]
    exact .inl ⟨f, V', rfl, rfl, x3, x4⟩
  · have hS := sk_le (b := b) k2
    have hgq : q ≤ sk b n q := ru_ge
    rw [x1, x2, q_I, if_neg q_10]
    obtain ⟨V3, e3, m3, b3, g3⟩ := m_sign m2 hy k2 hn (c := 60) (by omega)
    have e3 : fX10_sign V2 60 = _ := e3
    rw [e3, q_I, q_ifb]
    have r3 := r2.g g3
    have key : ∀ (lt : Bool) (V4 : VT), MP V4 b n (sk b n q + 1) → Mr V4 S1 dp → Gn V V4 → sk b n q + 1 ≤ n → MRes b n dp V p S (sb (suP b n (sk b n q + 1) (C1 ++ [7]) S1) fun y => .inr (y.1 ++ [if lt then 8 else 9], y.2.1 ++ [(if lt then 11 else 12, 0)], y.2.2)) (fX10_readAtom_j152 V4 ra (bI lt)) := by
      intro lt V4 m4 r4 g4 hk
      unfold fX10_readAtom_j152
      rcases m_readSum (C1 ++ [7]) m4 hy hk hn r4 (by omega) with ⟨f, V', y1, y2, y3, y4⟩ | ⟨C2, S2, q2, V5, y1, y2, m5, r5, j1, j2, j3, g5⟩
      · rw [y1, y2, q_I, if_pos rfl, q_zo0]
        exact .inl ⟨f, V', rfl, rfl, y3, g4.tr y4⟩
      · rw [y1, y2, q_I, if_neg q_10, q_ifb]
        cases lt
        · obtain ⟨V6, e6, r6, f6⟩ := m_emit 12 0 r5 (by omega)
          rw [if_neg (by decide), e6, q_R, q_zo1]
          exact .inr ⟨_, _, _, V6, rfl, rfl, m5.e f6, r6, by show p ≤ q2; omega, j2, by show (S2 ++ [(12, 0)]).length + p ≤ S.length + q2; rw [List.length_append, List.length_singleton]; omega, (g4.tr g5).tr f6.gn⟩
        · obtain ⟨V6, e6, r6, f6⟩ := m_emit 11 0 r5 (by omega)
          rw [if_pos rfl, e6, q_R, q_zo1]
          exact .inr ⟨_, _, _, V6, rfl, rfl, m5.e f6, r6, by show p ≤ q2; omega, j2, by show (S2 ++ [(11, 0)]).length + p ≤ S.length + q2; rw [List.length_append, List.length_singleton]; omega, (g4.tr g5).tr f6.gn⟩
    show MRes b n dp V p S (if cl b n 60 60 (sk b n q) = true then sb (suP b n (sk b n q + 1) (C1 ++ [7]) S1) fun y => .inr (y.1 ++ [8], y.2.1 ++ [(11, 0)], y.2.2)
      else if cl b n 62 62 (sk b n q) = true then sb (suP b n (sk b n q + 1) (C1 ++ [7]) S1) fun y => .inr (y.1 ++ [9], y.2.1 ++ [(12, 0)], y.2.2)
      else .inl (sk b n q)) _
    by_cases c1 : cl b n 60 60 (sk b n q) = true
    · rw [if_pos c1] at m3
      rw [if_pos c1, if_pos c1, c1]
      exact key true V3 m3 r3 (g2.tr g3.gn) (of_decide_eq_true c1).1
    · rw [if_neg c1] at m3
      obtain ⟨V4, e4, m4, b4, g4⟩ := m_sign m3 hy hS hn (c := 62) (by omega)
      have e4 : fX10_sign V3 62 = _ := e4
      rw [sk_sk k2] at e4 m4 b4
      rw [if_neg c1, if_neg c1, Bool.eq_false_iff.2 c1, e4, q_I, q_ifb]
      by_cases c2 : cl b n 62 62 (sk b n q) = true
      · rw [if_pos c2] at m4
        rw [if_pos c2, if_pos c2]
        exact key false V4 m4 (r3.g g4) ((g2.tr g3.gn).tr g4.gn) (of_decide_eq_true c2).1
      · rw [if_neg c2, if_neg c2, q_zo0]
        exact .inl ⟨_, V4, rfl, rfl, b4, (g2.tr g3.gn).tr g4.gn⟩
end MT
def MAt (b : Nat → Int32) (n : Nat) (ra : VT → Option (Int32 × VT)) (dp : Nat) (u : AtT) : Prop := ∀ (V : VT) (p : Nat) (C : List Int32) (S : List (Int32 × Int32)), MP V b n p → p ≤ n → Mr V S dp → S.length + 3 ≤ p → MRes b n dp V p S (u p C S) (ra V)
theorem m_alL {b : Nat → Int32} {n dp : Nat} {u : AtT} {ra : VT → Option (Int32 × VT)} (hn : n ≤ 400) (hy : ∀ k, k < 400 → by_ (b k)) (hr : MAt b n ra dp u) : ∀ (m F : Nat) (V : VT) (p : Nat) (C : List Int32) (S : List (Int32 × Int32)), MP V b n p → p ≤ n → Mr V S dp → S.length + 3 ≤ p → n < p + m → m ≤ F →
    MRes b n dp V p S (alL b n u m p C S) (it_ (iX10_readAllOf_L9 ra) F V)
  | 0, F, V, p, C, S, hM, hp, hR, hl, hm, hF => by omega
  | m + 1, F, V, p, C, S, hM, hp, hR, hl, hm, hF => by
    obtain ⟨F, rfl⟩ : ∃ g, F = g + 1 := ⟨F - 1, by omega⟩
    have hB := sk_le (b := b) hp
    have hg : p ≤ sk b n p := ru_ge
    unfold it_ alL
    obtain ⟨V1, e1, m1, -, g1⟩ := m_passes hM hy hp hn (w := 60) (by omega) (by omega)
    rw [wd_eq (show sY.getD 60 [] = sY.getD 19 [] from rfl)] at e1 m1
    have e0 : iX10_readAllOf_L9 ra V = (if wdB b n (sk b n p) 19 = true then (ob_I (ra V1 ) fun y9 V10 => if y9 = 0 then (zo_ (0 : Int32) (some (.inr (((0 : Int32), V10))))) else (ob_R (fX10_emits V10 (14 : Int32) (0 : Int32)) fun V12 => some (.inl V12))) else (zo_ (1 : Int32) (some (.inr (((1 : Int32), V1)))))) := by
      show fX10_readAllOf_L9 V ra = _
      unfold fX10_readAllOf_L9
      rw [e1, q_I, q_ifb]
    rw [e0]
    by_cases c1 : wdB b n (sk b n p) 19 = true
    · have hk : le_ b n (sk b n p) = sk b n p + 3 := wd_len c1
      have hL := le_le (b := b) hB
      rw [if_pos c1] at m1
      rw [if_pos c1, if_pos c1]
      rcases hr V1 _ C S m1 hL (hR.g g1) (by omega) with ⟨f, V', x1, x2, x3, x4⟩ | ⟨C1, S1, q, V2, x1, x2, m2, r2, k1, k2, k3, g2⟩
      · rw [x1, x2, q_I, if_pos rfl, q_zo0]
        exact .inl ⟨f, V', rfl, rfl, x3, g1.gn.tr x4⟩
      · obtain ⟨V3, e3, r3, f3⟩ := m_emit 14 0 r2 (by omega)
        rw [x1, x2, q_I, if_neg q_10, e3, q_R]
        exact (m_alL hn hy hr m F V3 q (C1 ++ [5]) (S1 ++ [(14, 0)]) (m2.e f3) k2 r3 (by rw [List.length_append, List.length_singleton]; omega) (by omega) (by omega)).fr ((g1.gn.tr g2).tr f3.gn) (by omega) (by rw [List.length_append, List.length_singleton]; omega)
    · rw [if_neg c1] at m1
      rw [if_neg c1, if_neg c1, q_zo1]
      exact .inr ⟨_, _, _, V1, rfl, rfl, m1, hR.g g1, hg, hB, by omega, g1.gn⟩
def aoP (b : Nat → Int32) (n : Nat) (u : AtT) : AtT := fun p C S => sb (u p C S) fun x => alL b n u 401 x.2.2 x.1 x.2.1
theorem m_allOf {b : Nat → Int32} {n dp : Nat} {u : AtT} {ra : VT → Option (Int32 × VT)} (hn : n ≤ 400) (hy : ∀ k, k < 400 → by_ (b k)) (hr : MAt b n ra dp u) : MAt b n (fun V => fX10_readAllOf V ra) dp (aoP b n u) := by
  intro V p C S hM hp hR hl
  show MRes b n dp V p S (aoP b n u p C S) (fX10_readAllOf V ra)
  unfold aoP fX10_readAllOf
  rcases hr V p C S hM hp hR hl with ⟨f, V', x1, x2, x3, x4⟩ | ⟨C1, S1, q, V2, x1, x2, m2, r2, k1, k2, k3, g2⟩
  · rw [x1, x2, q_I, if_pos rfl, q_zo0]
    exact .inl ⟨f, V', rfl, rfl, x3, x4⟩
  · rw [x1, x2, q_I, if_neg q_10]
    have h := (m_alL (dp := dp) hn hy hr 401 FV V2 q C1 S1 m2 k2 r2 (by omega) (by omega) (by have := FV_ge; omega)).fr g2 k1 k3
    rcases h with ⟨f, V', y1, y2, y3, y4⟩ | ⟨C', S', q', V', y1, y2, y3⟩
    · rw [y2, q_R]
      exact .inl ⟨f, V', y1, rfl, y3, y4⟩
    · rw [y2, q_R]
      exact .inr ⟨C', S', q', V', y1, rfl, y3⟩
theorem m_coL {b : Nat → Int32} {n dp : Nat} {u : AtT} {ra : VT → Option (Int32 × VT)} (hn : n ≤ 400) (hy : ∀ k, k < 400 → by_ (b k)) (hr : MAt b n ra dp u) : ∀ (m F : Nat) (V : VT) (p : Nat) (C : List Int32) (S : List (Int32 × Int32)), MP V b n p → p ≤ n → Mr V S dp → S.length + 3 ≤ p → n < p + m → m ≤ F →
    MRes b n dp V p S (coL b n u m p C S) (it_ (iX10_readCond_L9 ra) F V)
  | 0, F, V, p, C, S, hM, hp, hR, hl, hm, hF => by omega
  | m + 1, F, V, p, C, S, hM, hp, hR, hl, hm, hF => by
    obtain ⟨F, rfl⟩ : ∃ g, F = g + 1 := ⟨F - 1, by omega⟩
    have hB := sk_le (b := b) hp
    have hg : p ≤ sk b n p := ru_ge
    unfold it_ coL
    obtain ⟨V1, e1, m1, -, g1⟩ := m_passes hM hy hp hn (w := 61) (by omega) (by omega)
    rw [wd_eq (show sY.getD 61 [] = sY.getD 20 [] from rfl)] at e1 m1
    have e0 : iX10_readCond_L9 ra V = (if wdB b n (sk b n p) 20 = true then (ob_I (fX10_readAllOf V1 ra) fun y9 V10 => if y9 = 0 then (zo_ (0 : Int32) (some (.inr (((0 : Int32), V10))))) else (ob_R (fX10_emits V10 (15 : Int32) (0 : Int32)) fun V12 => some (.inl V12))) else (zo_ (1 : Int32) (some (.inr (((1 : Int32), V1)))))) := by
      show fX10_readCond_L9 V ra = _
      unfold fX10_readCond_L9
      rw [e1, q_I, q_ifb]
    rw [e0]
    by_cases c1 : wdB b n (sk b n p) 20 = true
    · have hk : le_ b n (sk b n p) = sk b n p + 2 := wd_len c1
      have hL := le_le (b := b) hB
      rw [if_pos c1] at m1
      rw [if_pos c1, if_pos c1, ← sb_sb]
      show MRes b n dp V p S (sb (aoP b n u (le_ b n (sk b n p)) C S) fun y => coL b n u m y.2.2 (y.1 ++ [6]) (y.2.1 ++ [(15, 0)])) _
      rcases m_allOf hn hy hr V1 _ C S m1 hL (hR.g g1) (by omega) with ⟨f, V', x1, x2, x3, x4⟩ | ⟨C1, S1, q, V2, x1, x2, m2, r2, k1, k2, k3, g2⟩
      · rw [x1, show fX10_readAllOf V1 ra = _ from x2, q_I, if_pos rfl, q_zo0]
        exact .inl ⟨f, V', rfl, rfl, x3, g1.gn.tr x4⟩
      · obtain ⟨V3, e3, r3, f3⟩ := m_emit 15 0 r2 (by omega)
        rw [x1, show fX10_readAllOf V1 ra = _ from x2, q_I, if_neg q_10, e3, q_R]
        exact (m_coL hn hy hr m F V3 q (C1 ++ [6]) (S1 ++ [(15, 0)]) (m2.e f3) k2 r3 (by rw [List.length_append, List.length_singleton]; omega) (by omega) (by omega)).fr ((g1.gn.tr g2).tr f3.gn) (by omega) (by rw [List.length_append, List.length_singleton]; omega)
    · rw [if_neg c1] at m1
      rw [if_neg c1, if_neg c1, q_zo1]
      exact .inr ⟨_, _, _, V1, rfl, rfl, m1, hR.g g1, hg, hB, by omega, g1.gn⟩
theorem m_cond {b : Nat → Int32} {n dp : Nat} {u : AtT} {ra : VT → Option (Int32 × VT)} (hn : n ≤ 400) (hy : ∀ k, k < 400 → by_ (b k)) (hr : MAt b n ra dp u) : MAt b n (fun V => fX10_readCond V ra) dp (coP b n u) := by
  intro V p C S hM hp hR hl
  show MRes b n dp V p S (coP b n u p C S) (fX10_readCond V ra)
  unfold coP fX10_readCond
  rw [← sb_sb]
  show MRes b n dp V p S (sb (aoP b n u p C S) fun y => coL b n u 401 y.2.2 y.1 y.2.1) _
  rcases m_allOf hn hy hr V p C S hM hp hR hl with ⟨f, V', x1, x2, x3, x4⟩ | ⟨C1, S1, q, V2, x1, x2, m2, r2, k1, k2, k3, g2⟩
  · rw [x1, show fX10_readAllOf V ra = _ from x2, q_I, if_pos rfl, q_zo0]
    exact .inl ⟨f, V', rfl, rfl, x3, x4⟩
  · rw [x1, show fX10_readAllOf V ra = _ from x2, q_I, if_neg q_10]
    have h := (m_coL (dp := dp) hn hy hr 401 FV V2 q C1 S1 m2 k2 r2 (by omega) (by omega) (by have := FV_ge; omega)).fr g2 k1 k3
    rcases h with ⟨f, V', y1, y2, y3, y4⟩ | ⟨C', S', q', V', y1, y2, y3⟩
    · rw [y2, q_R]
      exact .inl ⟨f, V', y1, rfl, y3, y4⟩
    · rw [y2, q_R]
      exact .inr ⟨C', S', q', V', y1, rfl, y3⟩
theorem m_tag {V : VT} {b : Nat → Int32} {n p dp : Nat} {S : List (Int32 × Int32)} (hM : MP V b n p) (hy : ∀ k, k < 400 → by_ (b k)) (hp : p ≤ n) (hn : n ≤ 400) (hR : Mr V S dp) (hs : S.length < 400) :
    (∃ V', tgC b n (sk b n p) = none ∧ fX10_readTag V = some (0, V') ∧ MP V' b n (sk b n p) ∧ Mr V' S dp ∧ Gn V V') ∨
    (∃ c s V', tgC b n (sk b n p) = some (c, s) ∧ fX10_readTag V = some (1, V') ∧ MP V' b n (le_ b n (sk b n p)) ∧ Mr V' (S ++ [(s, 0)]) dp ∧ Gn V V') := by
  have hB := sk_le (b := b) hp
  obtain ⟨V2, e2, b1, b2, b3⟩ := m_letters hM hy hp hn
  unfold fX10_readTag
  rw [e2, q_R, m_isWord b1 b2 hB hn (by omega) (by omega), q_R, q_ifb, m_isWord b1 b2 hB hn (by omega) (by omega), q_R, q_ifb, m_isWord b1 b2 hB hn (by omega) (by omega), q_R, q_ifb,
    wd_eq (show sY.getD 44 [] = sY.getD 22 [] from rfl), wd_eq (show sY.getD 51 [] = sY.getD 23 [] from rfl), wd_eq (show sY.getD 58 [] = sY.getD 24 [] from rfl)]
  have yes : ∀ (k : Nat), k < 9 → ∃ V', fX10_readTag_j47 V2 (nI k) = some (1, V') ∧ MP V' b n (le_ b n (sk b n p)) ∧ Mr V' (S ++ [(nI k, 0)]) dp ∧ Gn V V' := fun k hk => by
    obtain ⟨V4, e4, r4, f4⟩ := m_emit (nI k) 0 (hR.g b3) hs
    unfold fX10_readTag_j47 fX10_readTag_j69
    rw [if_neg (nI_pos (by omega)), e4, q_R, if_neg (nI_pos (by omega)), q_zo1]
    exact ⟨V4, rfl, b1.e f4, r4, b3.gn.tr f4.gn⟩
  unfold tgC
  by_cases c1 : wdB b n (sk b n p) 22 = true
  · rw [if_pos c1, if_pos c1]
    obtain ⟨V', x1, x2⟩ := yes 6 (by omega)
    exact .inr ⟨_, _, V', rfl, x1, x2⟩
  rw [if_neg c1, if_neg c1]
  by_cases c2 : wdB b n (sk b n p) 23 = true
  · rw [if_pos c2, if_pos c2]
    obtain ⟨V', x1, x2⟩ := yes 7 (by omega)
    exact .inr ⟨_, _, V', rfl, x1, x2⟩
  rw [if_neg c2, if_neg c2]
  by_cases c3 : wdB b n (sk b n p) 24 = true
  · rw [if_pos c3, if_pos c3]
    obtain ⟨V', x1, x2⟩ := yes 8 (by omega)
    exact .inr ⟨_, _, V', rfl, x1, x2⟩
  rw [if_neg c3, if_neg c3]
  unfold fX10_readTag_j47 fX10_readTag_j69
  rw [if_pos (by decide), b2, q_lt, if_pos (by decide), q_zo0]
  exact .inl ⟨_, rfl, rfl, (Mg.u (by omega)).mp b1 (by rw [va_s, pk_us]), (hR.g b3).g (Mg.u (by omega)), (b3.tr (Mg.u (by omega))).gn⟩
theorem kpP_sk {b : Nat → Int32} {n p : Nat} {C : List Int32} {S : List (Int32 × Int32)} (hp : p ≤ n) : kpP b n (sk b n p) C S = kpP b n p C S := by
  unfold kpP suP ptP
  rw [sk_sk hp]
theorem m_atS {b : Nat → Int32} {n dp : Nat} {u : Option AtT} {ra : VT → Option (Int32 × VT)} (hn : n ≤ 400) (hy : ∀ k, k < 400 → by_ (b k)) (hd : dp ≤ 6) (h0 : u = none → dp = 6) (h1 : ∀ v, u = some v → dp < 6 ∧ MAt b n ra (dp + 1) v) : MAt b n (fun V => fX10_readAtom V ra) dp (atS b n u) := by
  intro V p C S hM hp hR hl
  have hB := sk_le (b := b) hp
  have hg : p ≤ sk b n p := ru_ge
  show MRes b n dp V p S (atS b n u p C S) (fX10_readAtom V ra)
  unfold fX10_readAtom atS
  obtain ⟨V3, e3, m3, b3, g3⟩ := m_sign hM hy hp hn (c := 40) (by omega)
  have e3 : fX10_sign V 40 = _ := e3
  have r3 := hR.g g3
  rw [e3, q_I, q_ifb]
  by_cases c2 : cl b n 40 40 (sk b n p) = true
  · have c1 : ¬ wdB b n (sk b n p) 21 = true := fun h => by
      have := wd_cl (c := 40) hB (by omega) (by omega) (by omega) h
      rw [this] at c2
      cases c2
    have hk := (of_decide_eq_true c2).1
    rw [if_pos c2] at m3
    rw [if_pos c2, if_neg c1, if_pos c2, r3.2.1]
    cases u with
    | none =>
      rw [h0 rfl, if_pos (show nI 6 = 6 from rfl), q_zo0]
      exact .inl ⟨_, V3, rfl, rfl, b3, g3.gn⟩
    | some v =>
      obtain ⟨d6, hr⟩ := h1 v rfl
      rw [if_neg (show ¬ nI dp = 6 from fun e => by have := (nI_eq (b := 6) (by omega) (by omega)).1 e; omega), nI_1, q_lt]
      show MRes b n dp V p S (sb (coP b n v (sk b n p + 1) C S) fun x => if cl b n 41 41 (sk b n x.2.2) = true then .inr (x.1, x.2.1, sk b n x.2.2 + 1) else .inl (sk b n x.2.2)) _
      rcases m_cond hn hy hr (va_up V3 22 (upd (V3 22) 13 (nI (dp + 1)))) (sk b n p + 1) C S m3.d hk r3.d (by omega) with ⟨f, V', x1, x2, x3, x4⟩ | ⟨C1, S1, q, V5, x1, x2, m5, r5, k1, k2, k3, g5⟩
      · rw [x1, show fX10_readCond (va_up V3 22 (upd (V3 22) 13 (nI (dp + 1)))) ra = _ from x2, q_I, if_pos rfl, q_zo0]
        exact .inl ⟨f, V', rfl, rfl, x3, (g3.gn.tr Gn.d).tr x4⟩
      · rw [x1, show fX10_readCond (va_up V3 22 (upd (V3 22) 13 (nI (dp + 1)))) ra = _ from x2, q_I, if_neg q_10, r5.2.1, show nI (dp + 1) - 1 = nI dp from pk_sub (b := 1) (by omega), q_lt]
        obtain ⟨V6, e6, m6, b6, g6⟩ := m_sign (m5.d (x := nI dp)) hy k2 hn (c := 41) (by omega)
        have e6 : fX10_sign (va_up V5 22 (upd (V5 22) 13 (nI dp))) 41 = _ := e6
        have hS := sk_le (b := b) k2
        have hgq : q ≤ sk b n q := ru_ge
        have g := ((g3.gn.tr Gn.d).tr g5).tr (Gn.d.tr g6.gn)
        rw [e6, q_I, q_zo]
        show MRes b n dp V p S (if cl b n 41 41 (sk b n q) = true then .inr (C1, S1, sk b n q + 1) else .inl (sk b n q)) _
        by_cases c3 : cl b n 41 41 (sk b n q) = true
        · rw [if_pos c3] at m6
          rw [if_pos c3, c3]
          exact .inr ⟨_, _, _, V6, rfl, rfl, m6, (r5.d (dq := dp)).g g6, by omega, (of_decide_eq_true c3).1, by omega, g⟩
        · rw [if_neg c3, Bool.eq_false_iff.2 c3]
          exact .inl ⟨_, V6, rfl, rfl, b6, g⟩
  rw [if_neg c2] at m3
  rw [if_neg c2, if_neg c2]
  obtain ⟨V6, e6, m6, b6, g6⟩ := m_passes m3 hy hB hn (w := 59) (by omega) (by omega)
  rw [wd_eq (show sY.getD 59 [] = sY.getD 21 [] from rfl), sk_sk hp] at e6 m6
  rw [sk_sk hp] at b6
  have r6 := r3.g g6
  rw [e6, q_I, q_ifb]
  by_cases c1 : wdB b n (sk b n p) 21 = true
  · have hk : le_ b n (sk b n p) = sk b n p + 3 := wd_len c1
    have hL := le_le (b := b) hB
    rw [if_pos c1] at m6
    rw [if_pos c1, if_pos c1, r6.2.1]
    cases u with
    | none =>
      rw [h0 rfl, if_pos (show nI 6 = 6 from rfl), q_zo0]
      exact .inl ⟨_, V6, rfl, rfl, b6, g3.gn.tr g6.gn⟩
    | some v =>
      obtain ⟨d6, hr⟩ := h1 v rfl
      rw [if_neg (show ¬ nI dp = 6 from fun e => by have := (nI_eq (b := 6) (by omega) (by omega)).1 e; omega), nI_1, q_lt]
      show MRes b n dp V p S (sb (v (le_ b n (sk b n p)) C S) fun x => .inr (x.1 ++ [4], x.2.1 ++ [(13, 0)], x.2.2)) _
      rcases hr (va_up V6 22 (upd (V6 22) 13 (nI (dp + 1)))) _ C S m6.d hL r6.d (by omega) with ⟨f, V', x1, x2, x3, x4⟩ | ⟨C1, S1, q, V5, x1, x2, m5, r5, k1, k2, k3, g5⟩
      · rw [x1, x2, q_I, if_pos rfl, q_zo0]
        exact .inl ⟨f, V', rfl, rfl, x3, ((g3.gn.tr g6.gn).tr Gn.d).tr x4⟩
      · obtain ⟨V7, e7, r7, f7⟩ := m_emit 13 0 (r5.d (dq := dp)) (by omega)
        rw [x1, x2, q_I, if_neg q_10, r5.2.1, show nI (dp + 1) - 1 = nI dp from pk_sub (b := 1) (by omega), q_lt, e7, q_R, q_zo1]
        exact .inr ⟨_, _, _, V7, rfl, rfl, (m5.d (x := nI dp)).e f7, r7, by show p ≤ q; omega, k2, by show (S1 ++ [(13, 0)]).length + p ≤ S.length + q; rw [List.length_append, List.length_singleton]; omega, (((g3.gn.tr g6.gn).tr Gn.d).tr g5).tr (Gn.d.tr f7.gn)⟩
  rw [if_neg c1] at m6
  rw [if_neg c1, if_neg c1]
  rcases m_tag m6 hy hB hn r6 (by omega) with ⟨V9, a1, a2, m9, r9, g9⟩ | ⟨c, s, V9, a1, a2, m9, r9, g9⟩
  · rw [sk_sk hp] at a1 m9
    rw [a1, a2, q_I, if_pos rfl]
    show MRes b n dp V p S (kpP b n p C S) _
    rw [← kpP_sk hp]
    exact (m_comp C ra m9 hy hB hn r9 (by omega)).fr ((g3.gn.tr g6.gn).tr g9) hg (by omega)
  · rw [sk_sk hp] at a1 m9
    obtain ⟨k1, k2, -⟩ := tgC_ok hB a1
    rw [a1, a2, q_I, if_neg q_10, q_zo1]
    exact .inr ⟨_, _, _, V9, rfl, rfl, m9, r9, by omega, k2, by rw [List.length_append, List.length_singleton]; omega, (g3.gn.tr g6.gn).tr g9⟩
theorem m_atP {b : Nat → Int32} {n : Nat} (hn : n ≤ 400) (hy : ∀ k, k < 400 → by_ (b k)) : ∀ (r k : Nat), r < k → r ≤ 6 → MAt b n (tX10_readAtom k) (6 - r) (atP b n r)
  | 0, k, hk, h6 => by
    obtain ⟨k, rfl⟩ : ∃ g, k = g + 1 := ⟨k - 1, by omega⟩
    exact m_atS (ra := tX10_readAtom k) hn hy (by omega) (fun _ => rfl) (fun v h => by cases h)
  | r + 1, k, hk, h6 => by
    obtain ⟨k, rfl⟩ : ∃ g, k = g + 1 := ⟨k - 1, by omega⟩
    refine m_atS (ra := tX10_readAtom k) hn hy (by omega) (fun h => by cases h) (fun v h => ?_)
    cases h
    refine ⟨by omega, ?_⟩
    rw [show 6 - (r + 1) + 1 = 6 - r by omega]
    exact m_atP hn hy r k (by omega) (by omega)
