/-! ===== a law's lines: the model ===== -/
def Gl (V V' : VT) : Prop := (∀ q, q ≠ 22 → q ≠ 76 → V' q = V q) ∧ (∀ k, k < 1151 → V' 76 k = V 76 k) ∧ ∀ k, k ≠ 10 → k ≠ 12 → k ≠ 13 → k ≠ 16 → V' 22 k = V 22 k
theorem Gl.tr {V V1 V2 : VT} (h1 : Gl V V1) (h2 : Gl V1 V2) : Gl V V2 := ⟨fun q a c => (h2.1 q a c).trans (h1.1 q a c), fun k hk => (h2.2.1 k hk).trans (h1.2.1 k hk), fun k a c d e => (h2.2.2 k a c d e).trans (h1.2.2 k a c d e)⟩
theorem Gn.gl {V V' : VT} (h : Gn V V') : Gl V V' := ⟨h.1, fun k hk => h.2.1 k (by omega), h.2.2⟩
theorem Gl.w {V : VT} {k : Nat} {x : Int32} (hk : 1151 ≤ k) : Gl V (va_up V 76 (upd (V 76) k x)) := ⟨fun q _ c => va_n c, fun j hj => by rw [va_s, pk_un (by omega)], fun j _ _ _ _ => by rw [va_n (by omega)]⟩
theorem MP.w {V : VT} {b : Nat → Int32} {n p : Nat} {f : Nat → Int32} (h : MP V b n p) : MP (va_up V 76 f) b n p := by
  unfold MP
  rw [va_n (by omega), va_n (by omega)]
  exact h
def M0 (V : VT) (S : List (Int32 × Int32)) : Prop := V 22 16 = nI S.length ∧ ∀ k, k < S.length → V 76 (1188 + 2 * k) = (S.getD k (0, 0)).1 ∧ V 76 (1188 + 2 * k + 1) = (S.getD k (0, 0)).2
theorem Mr.z {V : VT} {S : List (Int32 × Int32)} {dp : Nat} (h : Mr V S dp) : M0 V S := ⟨h.1, h.2.2⟩
theorem M0.g {V V' : VT} {S : List (Int32 × Int32)} (h : M0 V S) (hg : Mg V V') : M0 V' S := by
  unfold M0
  rw [hg.2 16 (by omega) (by omega), hg.1 76 (by omega)]
  exact h
theorem M0.w {V : VT} {S : List (Int32 × Int32)} {k : Nat} {x : Int32} (h : M0 V S) (hk : k < 1188) : M0 (va_up V 76 (upd (V 76) k x)) S := by
  refine ⟨by rw [va_n (by omega)]; exact h.1, fun i hi => ?_⟩
  rw [va_s, pk_un (by omega), pk_un (by omega)]
  exact h.2 i hi
theorem M0.d {V : VT} {S : List (Int32 × Int32)} {dq : Nat} (h : M0 V S) : Mr (va_up V 22 (upd (V 22) 13 (nI dq))) S dq := by
  unfold Mr
  rw [va_s, pk_un (by omega), pk_us, va_n (by omega)]
  exact ⟨h.1, rfl, h.2⟩
def Yl (V : VT) (Y : YT) (j : Nat) : Prop := ∀ i, i < j → V 76 (1152 + 3 * i) = bI (Y i).1 ∧ V 76 (1152 + 3 * i + 1) = nI (Y i).2.1 ∧ V 76 (1152 + 3 * i + 2) = nI (Y i).2.2
theorem Yl.g {V V' : VT} {Y : YT} {j : Nat} (h : Yl V Y j) (hj : j ≤ 12) (hg : Gn V V') : Yl V' Y j := fun i hi => by
  rw [hg.2.1 _ (by omega), hg.2.1 _ (by omega), hg.2.1 _ (by omega)]
  exact h i hi
section MT
variable {V V1 : VT} {b : Nat → Int32} {n p : Nat} {C : List Int32} {S : List (Int32 × Int32)} {Y : YT}
theorem m_lb (C : List Int32) (u2 : Int32) (hM : MP V b n p) (hy : ∀ k, k < 400 → by_ (b k)) (hp : p ≤ n) (hn : n ≤ 400) (hR : Mr V S 0) (hl : S.length + 3 ≤ p) :
    (∃ f V', lbP b n p C S = .inl f ∧ (ob_I (fX10_passes V 64) fun y10 V11 => if y10 = 0 then (fX10_readLawLine_j80 V11 u2) else (ob_I (fX10_readCondC V11 ) fun y16 V17 => if y16 = 0 then (zo_ (0 : Int32) (some ((0 : Int32), V17))) else (fX10_readLawLine_j80 V17 u2))) = some (0, V') ∧ V' 22 12 = nI f ∧ Gn V V') ∨
    (∃ C' S' q V', lbP b n p C S = .inr (C', S', q) ∧ (ob_I (fX10_passes V 64) fun y10 V11 => if y10 = 0 then (fX10_readLawLine_j80 V11 u2) else (ob_I (fX10_readCondC V11 ) fun y16 V17 => if y16 = 0 then (zo_ (0 : Int32) (some ((0 : Int32), V17))) else (fX10_readLawLine_j80 V17 u2))) = fX10_readLawLine_j80 V' u2 ∧ MP V' b n q ∧ Mr V' S' 0 ∧ Gn V V') := by
  have hB := sk_le (b := b) hp
  have hg : p ≤ sk b n p := ru_ge
  unfold lbP
  obtain ⟨V1, e1, m1, -, g1⟩ := m_passes hM hy hp hn (w := 64) (by omega) (by omega)
  rw [wd_eq (show sY.getD 64 [] = sY.getD 18 [] from rfl)] at e1 m1
  rw [e1, q_I, q_ifb]
  by_cases c1 : wdB b n (sk b n p) 18 = true
  · have hk : le_ b n (sk b n p) = sk b n p + 2 := wd_len c1
    have hL := le_le (b := b) hB
    rw [if_pos c1] at m1
    rw [if_pos c1, if_pos c1]
    rcases m_cond hn hy (m_atP (b := b) (n := n) hn hy 6 10 (by omega) (by omega)) V1 (le_ b n (sk b n p)) C S m1 hL (hR.g g1) (by omega) with ⟨f, V', x1, x2, x3, x4⟩ | ⟨C1, S1, q, V2, x1, x2, m2, r2, k1, k2, k3, g2⟩
    · rw [x1, show fX10_readCondC V1 = _ from x2, q_I, if_pos rfl, q_zo0]
      exact .inl ⟨f, V', rfl, rfl, x3, g1.gn.tr x4⟩
    · rw [x1, show fX10_readCondC V1 = _ from x2, q_I, if_neg q_10]
      exact .inr ⟨_, _, _, V2, rfl, rfl, m2, r2, g1.gn.tr g2⟩
  · rw [if_neg c1] at m1
    rw [if_neg c1, if_neg c1]
    exact .inr ⟨_, _, _, V1, rfl, rfl, m1, hR.g g1, g1.gn⟩
theorem m_lawLine (hM : MP V b n (le_ b n (sk b n p))) (h12 : V 22 12 = nI (sk b n p)) (hy : ∀ k, k < 400 → by_ (b k)) (hp : p ≤ n) (hn : n ≤ 400) {j : Nat} (hj : j < 12) (hR : M0 V S) (hY : Yl V Y j) (hl : S.length ≤ p) (C : List Int32) :
    (∃ f V', liL b n j p C S Y = .inl f ∧ fX10_readLawLine V (nI j) = some (0, V') ∧ V' 22 12 = nI f ∧ Gl V V') ∨
    (∃ C' S' Y' q V', liL b n j p C S Y = .inr (C', S', Y', q) ∧ fX10_readLawLine V (nI j) = some (1, V') ∧ MP V' b n q ∧ M0 V' S' ∧ Yl V' Y' (j + 1) ∧ Gl V V') := by
  have hB := sk_le (b := b) hp
  have hg : p ≤ sk b n p := ru_ge
  have hL := le_le (b := b) hB
  unfold fX10_readLawLine liL
  rw [q_mulL, q_addL, q_lt, m_isWord hM h12 hB hn (by omega) (by omega), q_R, m_isWord hM h12 hB hn (by omega) (by omega), q_R, q_ifb, q_ifb, wd_eq (show sY.getD 62 [] = sY.getD 17 [] from rfl), wd_eq (show sY.getD 63 [] = sY.getD 16 [] from rfl)]
  have key : ∀ (y : Bool), sk b n p + 3 ≤ le_ b n (sk b n p) →
      (∃ f V', (sb (lbP b n (le_ b n (sk b n p)) C S) fun x => (.inr (x.1 ++ [if y then 11 else 10], x.2.1, upY Y j (y, S.length, x.2.1.length), x.2.2) : Nat ⊕ (List Int32 × List (Int32 × Int32) × YT × Nat))) = .inl f ∧ fX10_readLawLine_j30 V (nI (1152 + 3 * j)) (bI y) = some (0, V') ∧ V' 22 12 = nI f ∧ Gl V V') ∨
      (∃ C' S' Y' q V', (sb (lbP b n (le_ b n (sk b n p)) C S) fun x => (.inr (x.1 ++ [if y then 11 else 10], x.2.1, upY Y j (y, S.length, x.2.1.length), x.2.2) : Nat ⊕ (List Int32 × List (Int32 × Int32) × YT × Nat))) = .inr (C', S', Y', q) ∧ fX10_readLawLine_j30 V (nI (1152 + 3 * j)) (bI y) = some (1, V') ∧ MP V' b n q ∧ M0 V' S' ∧ Yl V' Y' (j + 1) ∧ Gl V V') := by
    intro y hk
    have e0 : fX10_readLawLine_j30 V (nI (1152 + 3 * j)) (bI y) = fX10_readLawLine_j44 V (nI (1152 + 3 * j)) (bI y) (nI (1152 + 3 * j)) := by
      unfold fX10_readLawLine_j30
      cases y
      · rw [if_pos (show bI false = 0 from rfl)]; rfl
      · rw [if_neg (show ¬ bI true = 0 by decide)]; rfl
    rw [e0]
    unfold fX10_readLawLine_j44
    rw [q_rd (by omega) (by omega), nI_clamp (by omega), q_lt, q_add, q_rd (by omega) (by omega), nI_clamp (by omega), va_n (show (22 : Nat) ≠ 76 by omega), hR.1, va_s, q_lt, va_n (show (22 : Nat) ≠ 76 by omega), va_n (show (22 : Nat) ≠ 76 by omega), q_lt]
    have q1 : M0 (va_up V 76 (upd (V 76) (1152 + 3 * j) (bI y))) S := hR.w (by omega)
    have q2 := q1.w (k := 1152 + 3 * j + 1) (x := nI S.length) (by omega)
    rw [va_s] at q2
    have hM8 : MP (va_up (va_up V 76 (upd (V 76) (1152 + 3 * j) (bI y))) 76 (upd (upd (V 76) (1152 + 3 * j) (bI y)) (1152 + 3 * j + 1) (nI S.length))) b n (le_ b n (sk b n p)) := hM.w.w
    have y8 : ∀ k, va_up (va_up V 76 (upd (V 76) (1152 + 3 * j) (bI y))) 76 (upd (upd (V 76) (1152 + 3 * j) (bI y)) (1152 + 3 * j + 1) (nI S.length)) 76 k = upd (upd (V 76) (1152 + 3 * j) (bI y)) (1152 + 3 * j + 1) (nI S.length) k := fun k => by rw [va_s]
    have g8 : Gl V (va_up (va_up V 76 (upd (V 76) (1152 + 3 * j) (bI y))) 76 (upd (upd (V 76) (1152 + 3 * j) (bI y)) (1152 + 3 * j + 1) (nI S.length))) := ⟨fun q _ c => by rw [va_n c, va_n c], fun k hk => by rw [y8, pk_un (by omega), pk_un (by omega)], fun k _ _ _ _ => by rw [va_n (by omega), va_n (by omega)]⟩
    have e22 : va_up (va_up V 76 (upd (V 76) (1152 + 3 * j) (bI y))) 76 (upd (upd (V 76) (1152 + 3 * j) (bI y)) (1152 + 3 * j + 1) (nI S.length)) 22 = V 22 := by rw [va_n (by omega), va_n (by omega)]
    rw [← e22]
    generalize va_up (va_up V 76 (upd (V 76) (1152 + 3 * j) (bI y))) 76 (upd (upd (V 76) (1152 + 3 * j) (bI y)) (1152 + 3 * j + 1) (nI S.length)) = V7 at q2 hM8 y8 g8
    have g9 : Gl V (va_up V7 22 (upd (V7 22) 13 0)) := g8.tr (Gn.d.gl)
    rcases m_lb C (nI (1152 + 3 * j)) (hM8.d (x := 0)) hy hL hn (q2.d (dq := 0)) (by omega) with ⟨f, V', x1, x2, x3, x4⟩ | ⟨C1, S1, q, V2, x1, x2, m2, r2, g2⟩
    · rw [x1, x2]
      exact .inl ⟨f, V', rfl, rfl, x3, g9.tr x4.gl⟩
    · rw [x1, x2]
      unfold fX10_readLawLine_j80
      rw [q_add, q_rd (by omega) (by omega), nI_clamp (by omega), r2.1, q_lt, q_zo1]
      refine .inr ⟨_, _, _, _, _, rfl, rfl, m2.w, r2.z.w (by omega), fun i hi => ?_, (g9.tr g2.gl).tr (Gl.w (by omega))⟩
      have z : ∀ k, 1152 ≤ k → k < 1188 → k ≠ 1152 + 3 * j + 2 → va_up V2 76 (upd (V2 76) (1152 + 3 * j + 2) (nI S1.length)) 76 k = upd (upd (V 76) (1152 + 3 * j) (bI y)) (1152 + 3 * j + 1) (nI S.length) k := fun k k1 k2 k3 => by
        rw [va_s, pk_un k3, g2.2.1 k k2, va_n (by omega), y8]
      show _ = bI (if i = j then (y, S.length, S1.length) else Y i).1 ∧ _ = nI (if i = j then (y, S.length, S1.length) else Y i).2.1 ∧ _ = nI (if i = j then (y, S.length, S1.length) else Y i).2.2
      by_cases e : i = j
      · subst e
        rw [if_pos rfl, z _ (by omega) (by omega) (by omega), z _ (by omega) (by omega) (by omega), va_s, pk_us, pk_un (by omega), pk_us, pk_us]
        exact ⟨rfl, rfl, rfl⟩
      · rw [if_neg e, z _ (by omega) (by omega) (by omega), z _ (by omega) (by omega) (by omega), z _ (by omega) (by omega) (by omega), pk_un (by omega), pk_un (by omega), pk_un (by omega), pk_un (by omega), pk_un (by omega), pk_un (by omega)]
        exact hY i (by omega)
  by_cases c2 : wdB b n (sk b n p) 17 = true
  · have hk : le_ b n (sk b n p) = sk b n p + 5 := wd_len c2
    have e : ∀ (x y : Option (Int32 × VT)), (if wdB b n (sk b n p) 17 = true then x else y) = x := fun x y => if_pos c2
    rw [e, if_pos (.inr c2)]
    exact key (wdB b n (sk b n p) 17) (by omega)
  · have e : ∀ (x y : Option (Int32 × VT)), (if wdB b n (sk b n p) 17 = true then x else y) = y := fun x y => if_neg c2
    rw [e]
    by_cases c1 : wdB b n (sk b n p) 16 = true
    · have hk : le_ b n (sk b n p) = sk b n p + 3 := wd_len c1
      rw [if_pos c1, if_pos (.inl c1)]
      exact key (wdB b n (sk b n p) 17) (by omega)
    · rw [if_neg c1, if_neg (fun h => h.elim c1 c2), q_zo0]
      exact .inl ⟨_, V, rfl, rfl, h12, Gn.rf.gl⟩
end MT
theorem m_laL {b : Nat → Int32} {n : Nat} (hn : n ≤ 400) (hy : ∀ k, k < 400 → by_ (b k)) : ∀ (m F j : Nat) (V : VT) (p : Nat) (C : List Int32) (S : List (Int32 × Int32)) (Y : YT), m < F → j + m = 12 → MP V b n p → p ≤ n → M0 V S → Yl V Y j → S.length ≤ p →
    (∃ f V', laL b n m j p C S Y = .inl f ∧ it_ iX10_readAll_L28 F (V, 0, nI j) = some (-1, V') ∧ V' 22 12 = nI f ∧ Gl V V') ∨
    (∃ C' S' Y' k V', laL b n m j p C S Y = .inr (C', S', Y', k) ∧ it_ iX10_readAll_L28 F (V, 0, nI j) = some (nI k, V') ∧ M0 V' S' ∧ Yl V' Y' k ∧ Gl V V')
  | 0, F, j, V, p, C, S, Y, hF, hm, hM, hp, hR, hY, hl => by
    obtain ⟨F, rfl⟩ : ∃ g, F = g + 1 := ⟨F - 1, by omega⟩
    unfold it_
    obtain ⟨V2, e2, a1, a2, a3⟩ := m_letters hM hy hp hn
    rw [show iX10_readAll_L28 (V, 0, nI j) = some (.inr (-1, V2)) by
      show fX10_readAll_L28 V 0 (nI j) = _
      unfold fX10_readAll_L28 fX10_readLine fX10_readLine_j16
      rw [e2, q_R, if_pos rfl, if_pos (show (12 : Int32) ≤ nI j from nI_le (a := 12) (by omega) (by omega)), q_zo0, q_I, if_pos rfl]]
    exact .inl ⟨_, V2, rfl, rfl, a2, a3.gn.gl⟩
  | m + 1, F, j, V, p, C, S, Y, hF, hm, hM, hp, hR, hY, hl => by
    obtain ⟨F, rfl⟩ : ∃ g, F = g + 1 := ⟨F - 1, by omega⟩
    unfold it_ laL
    obtain ⟨V2, e2, a1, a2, a3⟩ := m_letters hM hy hp hn
    have e0 : iX10_readAll_L28 (V, 0, nI j) = (ob_I (ob_I (fX10_readLawLine V2 (nI j)) fun y5 V6 => if y5 = 0 then (zo_ (0 : Int32) (some ((0 : Int32), V6))) else (zo_ (1 : Int32) (some ((1 : Int32), V6)))) fun y7 V8 => if y7 = 0 then (some (.inr (((-1 : Int32), V8)))) else (ob_R (fX10_blanks V8 ) fun V10 => if (V10 22 10) = (V10 22 11) then (some (.inr (((nI j + (1 : Int32)), V10)))) else (ob_R (fX10_isAt V10 (59 : Int32) (59 : Int32)) fun y12 => if y12 = 0 then (some (.inr (((-1 : Int32), V10)))) else (lt_ (va_up V10 22 (upd (V10 22) 10 ((V10 22 10) + (1 : Int32)))) fun V13 => lt_ (nI j + (1 : Int32)) fun y14 => some (.inl (V13, 0, y14)))))) := by
      show fX10_readAll_L28 V 0 (nI j) = _
      unfold fX10_readAll_L28 fX10_readLine fX10_readLine_j16
      rw [e2, q_R, if_pos rfl, if_neg (show ¬ (12 : Int32) ≤ nI j from nI_ge (b := 12) (by omega) (by omega)), if_pos rfl]
    rw [e0]
    rcases m_lawLine a1 a2 hy hp hn (j := j) (by omega) (hR.g a3) (hY.g (by omega) a3.gn) hl C with ⟨f, V', w4, e4, b4, s4⟩ | ⟨C1, S1, Y1, q, V', w4, e4, t4, r4, y4, s4⟩
    · rw [e4, q_I, if_pos rfl, q_zo0, q_I, if_pos rfl, w4]
      exact .inl ⟨f, V', rfl, rfl, b4, a3.gn.gl.tr s4⟩
    · obtain ⟨k1, k2, -, -, k5⟩ := liL_ok hp w4
      obtain ⟨V5, e5, t5, b5, g5⟩ := m_blanks t4 hy k2 hn
      rw [e4, q_I, if_neg q_10, q_zo1, q_I, if_neg q_10, e5, q_R, t5.1, t5.2.1, w4]
      have hS := sk_le (b := b) k2
      have hg : q ≤ sk b n q := ru_ge
      have g6 := (a3.gn.gl.tr s4).tr g5.gn.gl
      show (∃ f V', (if n ≤ sk b n q then (Sum.inr (C1, S1, Y1, j + 1) : Nat ⊕ (List Int32 × List (Int32 × Int32) × YT × Nat)) else if cl b n 59 59 (sk b n q) = true then laL b n m (j + 1) (sk b n q + 1) C1 S1 Y1 else .inl (sk b n q)) = .inl f ∧ _) ∨ (∃ C' S' Y' k V', (if n ≤ sk b n q then (Sum.inr (C1, S1, Y1, j + 1) : Nat ⊕ (List Int32 × List (Int32 × Int32) × YT × Nat)) else if cl b n 59 59 (sk b n q) = true then laL b n m (j + 1) (sk b n q + 1) C1 S1 Y1 else .inl (sk b n q)) = .inr (C', S', Y', k) ∧ _)
      by_cases c1 : n ≤ sk b n q
      · rw [if_pos c1, if_pos (congrArg nI (by omega)), nI_1]
        exact .inr ⟨_, _, _, _, V5, rfl, rfl, r4.g g5, y4.g (by omega) g5.gn, g6⟩
      · rw [if_neg c1, if_neg (show ¬ nI (sk b n q) = nI n from fun e => c1 (by have := (nI_eq (by omega) (by omega)).1 e; omega)), show (59 : Int32) = nI 59 from rfl, m_isAt t5 hy hS hn (by omega) (by omega), q_R, q_ifb]
        by_cases c2 : cl b n 59 59 (sk b n q) = true
        · rw [if_pos c2, if_pos c2, nI_1, nI_1, q_lt, q_lt]
          rcases m_laL hn hy m F (j + 1) (va_up V5 22 (upd (V5 22) 10 (nI (sk b n q + 1)))) (sk b n q + 1) C1 S1 Y1 (by omega) (by omega) ((Mg.u (by omega)).mp t5 (by rw [va_s, pk_us])) (of_decide_eq_true c2).1 ((r4.g g5).g (Mg.u (by omega))) ((y4.g (by omega) g5.gn).g (by omega) (Mg.u (by omega)).gn) (by omega) with ⟨f, V6, x1, x2, x3, x4⟩ | ⟨C6, S6, Y6, k, V6, x1, x2, x3, x4, x5⟩
          · exact .inl ⟨f, V6, x1, x2, x3, (g6.tr (Mg.u (by omega)).gn.gl).tr x4⟩
          · exact .inr ⟨C6, S6, Y6, k, V6, x1, x2, x3, x4, (g6.tr (Mg.u (by omega)).gn.gl).tr x5⟩
        · rw [if_neg c2, if_neg c2]
          exact .inl ⟨_, V5, rfl, rfl, b5, g6⟩
theorem m_lawAll {V : VT} {g : GA} (hM : MIN V g) :
    (∃ f V', laP (xb g) (xn g) = .inl f ∧ fX10_readAll V 0 = some (-1, V') ∧ V' 22 12 = nI f ∧ Gl (u3 V) V') ∨
    (∃ C' S' Y' k V', laP (xb g) (xn g) = .inr (C', S', Y', k) ∧ fX10_readAll V 0 = some (nI k, V') ∧ M0 V' S' ∧ Yl V' Y' k ∧ Gl (u3 V) V') := by
  obtain ⟨d1, d2, d3, d4⟩ := hM.2.2.2.2.1
  obtain ⟨V2, e2, a1, a2, a3⟩ := m_blanks (u3_p hM) d4 (Nat.zero_le _) d2
  have r0 : M0 (u3 V) [] := ⟨by unfold u3; rw [va_s, pk_us]; rfl, fun k hk => absurd hk (Nat.not_lt_zero _)⟩
  unfold fX10_readAll laP
  rw [m_uses, q_R, q_lt, show fX10_blanks (va_up (us V) 22 (upd (us V 22) 16 0)) = _ from e2, q_R, a1.1, a1.2.1]
  have hS := sk_le (b := xb g) (Nat.zero_le (xn g))
  by_cases c1 : xn g ≤ sk (xb g) (xn g) 0
  · rw [if_pos c1, if_pos (congrArg nI (by omega))]
    exact .inr ⟨_, _, _, 0, V2, rfl, rfl, r0.g a3, fun i hi => absurd hi (Nat.not_lt_zero _), a3.gn.gl⟩
  · rw [if_neg c1, if_neg (show ¬ nI (sk (xb g) (xn g) 0) = nI (xn g) from fun e => c1 (by have := (nI_eq (by omega) (by omega)).1 e; omega))]
    rcases m_laL d2 d4 12 FV 0 V2 (sk (xb g) (xn g) 0) [] [] (fun _ => (false, 0, 0)) (by have := FV_ge; omega) (by omega) a1 hS (r0.g a3) (fun i hi => absurd hi (Nat.not_lt_zero _)) (Nat.zero_le _) with ⟨f, V', x1, x2, x3, x4⟩ | ⟨C', S', Y', k, V', x1, x2, x3, x4, x5⟩
    · rw [show it_ iX10_readAll_L28 FV (V2, 0, 0) = _ from x2, q_R]
      exact .inl ⟨f, V', x1, rfl, x3, a3.gn.gl.tr x4⟩
    · rw [show it_ iX10_readAll_L28 FV (V2, 0, 0) = _ from x2, q_R]
      exact .inr ⟨C', S', Y', k, V', x1, rfl, x3, x4, a3.gn.gl.tr x5⟩
