/-! ===== a line of a street: the model ===== -/
section MT
variable {V V1 : VT} {b : Nat → Int32} {n p : Nat} {A : AT}
theorem m_raw (hM : MP V b n (le_ b n (sk b n p))) (hy : ∀ k, k < 400 → by_ (b k)) (hp : p ≤ n) (hn : n ≤ 400) (hR : RM (V 76) A) (hW : WA A) {w : Nat} (hw : wdB b n (sk b n p) w = true) :
    (∃ f V', wnD b n p w (aS A 0) = .inl f ∧ fX10_readAway V = some (0, V') ∧ V' 22 12 = nI f ∧ Gs V V') ∨
    (∃ v q V', wnD b n p w (aS A 0) = .inr (v, q) ∧ fX10_readAway V = some (1, V') ∧ MP V' b n q ∧ q ≤ n ∧ RM (V' 76) (pH A v 7 1) ∧ Gs V V') := by
  have h8 := hW.1.1
  unfold fX10_readAway
  rw [m_houses hR, q_R]
  rcases m_nD hM hy hp hn (H := aS A 0) (by omega) hw with ⟨f, V4, w4, e4, b4, s4⟩ | ⟨v, q, V4, w4, e4, t4, u4, p4, s4⟩
  · rw [e4, q_I, if_pos (by decide)]
    unfold fX10_readAway_j28
    rw [if_pos (by decide), q_zo0]
    exact .inl ⟨f, V4, w4, rfl, b4, s4.gs⟩
  · rw [e4, q_I, if_neg (nI_pos (by omega))]
    unfold fX10_readAway_j28 fX10_at
    rw [q_mulL, q_addL, q_add, q_R, q_rd (by omega) (by omega), nI_clamp (by omega), q_lt, if_neg (nI_pos (by omega)), q_zo1]
    exact .inr ⟨v, q, _, w4, rfl, t4.u, p4, by rw [va_s]; exact (hR.g s4).h hW (v := 1) (by omega) (by omega), s4.gs.tr (Gs.u (by omega))⟩
theorem m_streetLine (hM : MP V b n (le_ b n (sk b n p))) (h12 : V 22 12 = nI (sk b n p)) (hy : ∀ k, k < 400 → by_ (b k)) (hp : p ≤ n) (hn : n ≤ 400) (hR : RM (V 76) A) (hW : WA A) :
    (∃ f V', liP b n A p = .inl f ∧ fX10_readStreetLine V = some (0, V') ∧ V' 22 12 = nI f ∧ Gs V V') ∨
    (∃ A' q V', liP b n A p = .inr (A', q) ∧ fX10_readStreetLine V = some (1, V') ∧ MP V' b n q ∧ q ≤ n ∧ RM (V' 76) A' ∧ Gs V V') := by
  have hH := hW.1.1
  have hD := hW.1.2.1
  have hB := sk_le (b := b) hp
  unfold fX10_readStreetLine liP
  rw [m_isWord hM h12 hB hn (by omega) (by omega), q_R, q_ifb, m_isWord hM h12 hB hn (by omega) (by omega), q_R, q_ifb, m_isWord hM h12 hB hn (by omega) (by omega), q_R, q_ifb, m_isWord hM h12 hB hn (by omega) (by omega), q_R, q_ifb, wd_eq (show sY.getD 49 [] = sY.getD 31 [] from rfl), wd_eq (show sY.getD 50 [] = sY.getD 32 [] from rfl), wd_eq (show sY.getD 51 [] = sY.getD 34 [] from rfl), wd_eq (show sY.getD 52 [] = sY.getD 33 [] from rfl)]
  by_cases c1 : wdB b n (sk b n p) 31 = true
  · rw [if_pos c1, if_pos c1]
    by_cases c8 : aS A 0 = 8
    · have e : fX10_readHouse V = some (0, V) := by
        unfold fX10_readHouse
        rw [m_houses hR, q_R, c8, if_pos (show nI 8 = 8 from rfl), q_zo0]
      rw [if_pos c8, e, q_I, q_zo0]
      exact .inl ⟨_, V, rfl, rfl, h12, Gs.rf⟩
    · rw [if_neg c8]
      rcases m_readHouse hM hy hp hn hR (by omega) c1 with ⟨f, V', w4, e4, b4, s4⟩ | ⟨r, q, V', w4, e4, t4, p4, r4, s4⟩
      · rw [e4, q_I, q_zo0, w4]
        exact .inl ⟨f, V', rfl, rfl, b4, s4⟩
      · rw [e4, q_I, q_zo1, w4]
        exact .inr ⟨_, _, V', rfl, rfl, t4, p4, r4, s4⟩
  · rw [if_neg c1, if_neg c1]
    by_cases c2 : wdB b n (sk b n p) 32 = true
    · rw [if_pos c2, if_pos c2]
      by_cases c8 : aS A 1 = 10
      · have e : fX10_readDeed V = some (0, V) := by
          unfold fX10_readDeed
          rw [m_deeds hR, q_R, c8, if_pos (show nI 10 = 10 from rfl), q_zo0]
        rw [if_pos c8, e, q_I, q_zo0]
        exact .inl ⟨_, V, rfl, rfl, h12, Gs.rf⟩
      · rw [if_neg c8]
        rcases m_readDeed hM hy hp hn hR hH (by omega) c2 with ⟨f, V', w4, e4, b4, s4⟩ | ⟨r, q, V', w4, e4, t4, p4, r4, s4⟩
        · rw [e4, q_I, q_zo0, w4]
          exact .inl ⟨f, V', rfl, rfl, b4, s4⟩
        · rw [e4, q_I, q_zo1, w4]
          exact .inr ⟨_, _, V', rfl, rfl, t4, p4, r4, s4⟩
    · rw [if_neg c2, if_neg c2]
      by_cases c4 : wdB b n (sk b n p) 34 = true
      · have c3 : ¬ wdB b n (sk b n p) 33 = true := fun h => by
          have h1 := (of_decide_eq_true h).1
          have h2 := (of_decide_eq_true c4).1
          rw [h1] at h2
          exact absurd h2 (by decide)
        rw [if_pos c4, if_neg c3, if_pos c4]
        rcases m_raw hM hy hp hn hR hW c4 with ⟨f, V', w4, e4, b4, s4⟩ | ⟨r, q, V', w4, e4, t4, p4, r4, s4⟩
        · rw [e4, q_I, q_zo0, w4]
          exact .inl ⟨f, V', rfl, rfl, b4, s4⟩
        · rw [e4, q_I, q_zo1, w4]
          exact .inr ⟨_, _, V', rfl, rfl, t4, p4, r4, s4⟩
      · rw [if_neg c4, if_neg c4]
        by_cases c3 : wdB b n (sk b n p) 33 = true
        · rw [if_pos c3, if_pos c3]
          unfold fX10_readStreetLine_j73
          rcases m_nn hM hy hp hn (lo := 0) (hi := 9) (by omega) (by omega) c3 with ⟨f, V', w4, e4, b4, s4⟩ | ⟨r, q, V', w4, e4, t4, l4, u4, p4, s4⟩
          · rw [show fX10_number V 0 9 = _ from e4, q_I, if_pos (by decide), if_pos (by decide), q_zo0, w4]
            exact .inl ⟨f, V', rfl, rfl, b4, s4.gs⟩
          · rw [show fX10_number V 0 9 = _ from e4, q_I, if_neg (nI_pos (by omega)), show (6 : Int32) = nI 6 from rfl, q_rd (by omega) (by omega), nI_clamp (by omega), q_lt, if_neg (nI_pos (by omega)), q_zo1, w4]
            exact .inr ⟨_, _, _, rfl, rfl, t4.u, p4, by rw [va_s]; exact (hR.g s4).s (by omega) (by omega) (by omega) (by omega), s4.gs.tr (Gs.u (by omega))⟩
        · rw [if_neg c3, if_neg c3, q_zo0]
          exact .inl ⟨_, V, rfl, rfl, h12, Gs.rf⟩
/-! ===== all lines ===== -/
def stP (b : Nat → Int32) (n : Nat) : Nat → AT → Nat → Nat ⊕ AT
  | 0, _, p => .inl (sk b n p)
  | m + 1, A, p => sb (liP b n A p) fun x => if n ≤ sk b n x.2 then .inr x.1 else if cl b n 59 59 (sk b n x.2) = true then stP b n m x.1 (sk b n x.2 + 1) else .inl (sk b n x.2)
theorem c_stL {b : Nat → Int32} {n : Nat} (hn : n ≤ 400) : ∀ m F (V : VT) A p, m < F → m ≤ 14 → TK V b n p → p ≤ n → RS V 3 A → WA A →
    (∃ f V', stP b n m A p = .inl f ∧ it_ (iX7_read_L15 3) F (V, nI (14 - m)) = some (0, V') ∧ V' 1 3 = nI f ∧ Fs V V') ∨
    (∃ A' V', stP b n m A p = .inr A' ∧ it_ (iX7_read_L15 3) F (V, nI (14 - m)) = some (1, V') ∧ RS V' 3 A' ∧ WA A' ∧ Fs V V')
  | 0, F, V, A, p, hF, hm, hT, hp, hR, hW => by
    obtain ⟨F, rfl⟩ : ∃ g, F = g + 1 := ⟨F - 1, by omega⟩
    unfold it_
    rw [show iX7_read_L15 3 (V, nI (14 - 0)) = some (.inr (0, V)) by
      show fX7_read_L15 V 3 (nI 14) = _
      unfold fX7_read_L15
      rw [if_pos (by decide), q_zo0]]
    exact .inl ⟨_, V, rfl, rfl, hT.2.2.1, Tf.rf.fs⟩
  | m + 1, F, V, A, p, hF, hm, hT, hp, hR, hW => by
    obtain ⟨F, rfl⟩ : ∃ g, F = g + 1 := ⟨F - 1, by omega⟩
    unfold it_ stP
    have e0 : iX7_read_L15 3 (V, nI (14 - (m + 1))) = (ob_I (fX7_readLine V 3) fun y7 V8 => if y7 = 0 then (zo_ (0 : Int32) (some (.inr (((0 : Int32), V8))))) else (ob_R (fX8_isEnd V8 ) fun y10 => if y10 = 0 then (ob_I (fX8_takeSign V8 (59 : Int32)) fun y12 V13 => if y12 = 0 then (zo_ (0 : Int32) (some (.inr (((0 : Int32), V13))))) else (some (.inl (V13, nI (14 - m))))) else (zo_ (1 : Int32) (some (.inr (((1 : Int32), V8))))))) := by
      show fX7_read_L15 V 3 (nI (14 - (m + 1))) = _
      unfold fX7_read_L15
      rw [if_neg (show ¬ (14 : Int32) ≤ nI (14 - (m + 1)) from nI_ge (b := 14) (by omega) (by omega)), nI_1, show 14 - (m + 1) + 1 = 14 - m by omega]
      rfl
    rw [e0]
    rcases c_readLine hT hp hn hR hW with ⟨f, V', w4, e4, b4, s4⟩ | ⟨A', q, V', w4, e4, t4, p4, r4, q4, s4⟩
    · rw [e4, q_I, if_pos rfl, q_zo0, w4]
      exact .inl ⟨f, V', rfl, rfl, b4, s4⟩
    · rw [e4, q_I, if_neg (show ¬ (1 : Int32) = 0 by decide), c_isEnd t4 p4, q_R, q_ifb, w4]
      show (∃ f V'_1, (if n ≤ sk b n q then _ else _) = _ ∧ _) ∨ (∃ f V'_1, (if n ≤ sk b n q then _ else _) = _ ∧ _)
      by_cases c1 : n ≤ sk b n q
      · rw [if_pos (decide_eq_true c1), if_pos c1, q_zo1]
        exact .inr ⟨A', V', rfl, rfl, r4, q4, s4⟩
      · rw [if_neg (fun e => c1 (of_decide_eq_true e)), if_neg c1]
        obtain ⟨V5, e5, t5, f5⟩ := c_takeSign t4 p4 hn (c := 59) (by omega) (by omega)
        have e5 : fX8_takeSign V' 59 = _ := e5
        rw [e5, q_I, q_ifb]
        by_cases c2 : cl b n 59 59 (sk b n q) = true
        · rw [if_pos c2] at t5 ⊢
          rw [if_pos c2]
          have hR5 := r4.w (f5.1 3 (by omega)) (f5.1 _ (by omega)) (f5.1 _ (by omega)) (f5.1 _ (by omega))
          rcases c_stL hn m F V5 A' (sk b n q + 1) (by omega) (by omega) t5 (by have := of_decide_eq_true c2; omega) hR5 q4 with ⟨f, V6, x1, x2, x3, x4⟩ | ⟨A6, V6, x1, x2, x3, x4, x5⟩
          · exact .inl ⟨f, V6, x1, x2, x3, (s4.tr f5.fs).tr x4⟩
          · exact .inr ⟨A6, V6, x1, x2, x3, x4, (s4.tr f5.fs).tr x5⟩
        · rw [if_neg c2] at t5 ⊢
          rw [if_neg c2, q_zo0]
          exact .inl ⟨_, V5, rfl, rfl, t5.2.2.1, s4.tr f5.fs⟩
end MT
