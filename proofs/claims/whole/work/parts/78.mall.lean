/-! ===== a whole street: both sides ===== -/
def flG (g : GA) (f : Int32) : GA := (g.1, g.2.1, g.2.2.1, f, g.2.2.2.2)
def fg0 (g : GA) : GA := (g.1, g.2.1, g.2.2.1, g.2.2.2.1, g.2.2.2.2.1, (0, xa g))
section MT
variable {V V1 V' : VT} {b : Nat → Int32} {n p : Nat} {A : AT} {g : GA}
theorem CIN.flt (h : CIN V g) (f : Int32) : CIN (va_up V 0 (upd (V 0) 10 f)) (flG g f) := by
  obtain ⟨h1, h2, h3, h4, h5, h6, h7, h8, h9, h10, nx, h11, h12, h13⟩ := h
  have e : ∀ j, j ≠ 0 → va_up V 0 (upd (V 0) 10 f) j = V j := fun j a => va_n a
  refine ⟨h1.w (e _ (by omega)) (e _ (by omega)) (e _ (by omega)) (e _ (by omega)), h2, by rw [e 17 (by omega)]; exact h3, by rw [e 17 (by omega), e 69 (by omega)]; exact h4, by rw [e 1 (by omega), e 23 (by omega)]; exact h5, by rw [va_s, pk_us]; rfl, by rw [va_s, pk_un (by omega)]; exact h7, fun hk => ?_, h9, by rw [e 20 (by omega)]; exact h10, nx, h11, by rw [e 20 (by omega)]; exact h12, fun j hj => ⟨(h13 j hj).1.w (e _ (by omega)) (e _ (by omega)) (e _ (by omega)) (e _ (by omega)), (h13 j hj).2⟩⟩
  obtain ⟨x1, x2, x3, x4⟩ := h8 hk
  exact ⟨x1.w (e _ (by omega)) (e _ (by omega)) (e _ (by omega)) (e _ (by omega)), x2, by rw [e 19 (by omega)]; exact x3, by rw [e 19 (by omega), e 71 (by omega)]; exact x4⟩
theorem CIN.fgt (h : CIN V g) : CIN (va_up V 20 (upd (V 20) 2 0)) (fg0 g) := by
  obtain ⟨h1, h2, h3, h4, h5, h6, h7, h8, h9, h10, nx, h11, h12, h13⟩ := h
  have e : ∀ j, j ≠ 20 → va_up V 20 (upd (V 20) 2 0) j = V j := fun j a => va_n a
  refine ⟨h1.w (e _ (by omega)) (e _ (by omega)) (e _ (by omega)) (e _ (by omega)), h2, by rw [e 17 (by omega)]; exact h3, by rw [e 17 (by omega), e 69 (by omega)]; exact h4, by rw [e 1 (by omega), e 23 (by omega)]; exact h5, by rw [e 0 (by omega)]; exact h6, by rw [e 0 (by omega)]; exact h7, fun hk => ?_, Nat.zero_le _, by rw [va_s, pk_us]; rfl, nx, h11, by rw [va_s, pk_un (by omega)]; exact h12, fun j hj => absurd hj (Nat.not_lt_zero _)⟩
  obtain ⟨x1, x2, x3, x4⟩ := h8 hk
  exact ⟨x1.w (e _ (by omega)) (e _ (by omega)) (e _ (by omega)) (e _ (by omega)), x2, by rw [e 19 (by omega)]; exact x3, by rw [e 19 (by omega), e 71 (by omega)]; exact x4⟩
theorem MIN.flt (h : MIN V g) (f : Int32) : MIN (va_up V 22 (upd (V 22) 14 f)) (flG g f) := by
  obtain ⟨h1, h2, h3, h4, h5, h6, h7, h8, h9, h10, h11⟩ := h
  have e : ∀ j, j ≠ 22 → va_up V 22 (upd (V 22) 14 f) j = V j := fun j a => va_n a
  have e2 : ∀ k, k ≠ 14 → va_up V 22 (upd (V 22) 14 f) 22 k = V 22 k := fun k a => by rw [va_s, pk_un a]
  exact ⟨by rw [e 76 (by omega)]; exact h1, h2, by rw [e 76 (by omega)]; exact h3, by rw [e 76 (by omega)]; exact h4, by rw [e2 9 (by omega), e 81 (by omega)]; exact h5, by rw [va_s, pk_us]; rfl, by rw [e2 6 (by omega)]; exact h7, by rw [e 77 (by omega)]; exact h8, h9, by rw [e2 7 (by omega)]; exact h10, by rw [e 80 (by omega)]; exact h11⟩
theorem MIN.fgt (h : MIN V g) : MIN (va_up V 22 (upd (V 22) 7 0)) (fg0 g) := by
  obtain ⟨h1, h2, h3, h4, h5, h6, h7, h8, h9, h10, h11⟩ := h
  have e : ∀ j, j ≠ 22 → va_up V 22 (upd (V 22) 7 0) j = V j := fun j a => va_n a
  have e2 : ∀ k, k ≠ 7 → va_up V 22 (upd (V 22) 7 0) 22 k = V 22 k := fun k a => by rw [va_s, pk_un a]
  exact ⟨by rw [e 76 (by omega)]; exact h1, h2, by rw [e 76 (by omega)]; exact h3, by rw [e 76 (by omega)]; exact h4, by rw [e2 9 (by omega), e 81 (by omega)]; exact h5, by rw [e2 14 (by omega)]; exact h6, by rw [e2 6 (by omega)]; exact h7, by rw [e 77 (by omega)]; exact h8, Nat.zero_le _, by rw [va_s, pk_us]; rfl, fun j hj => absurd hj (Nat.not_lt_zero _)⟩
theorem MIN.G {A' : AT} (h : MIN V g) (hR : RM (V' 76) A') (hW : WA A') (hs : aS A' 3 = aS (xA g) 3) (hd : Gs V V') : MIN V' (sA g A') := by
  have h1 : MIN (va_up V' 22 (V 22)) (sA g A') := h.A (V' := va_up V' 22 (V 22)) (by rw [va_n (by omega)]; exact hR) hW hs ⟨fun j a c _ => by rw [va_n a]; exact hd.1 j a c, fun k hk => by rw [va_n (by omega)]; exact hd.2.1 k hk, fun k _ => by rw [va_s]⟩
  refine h1.m ⟨fun j a _ _ _ _ => (va_n a).symm, fun k _ => by rw [va_n (by omega)], ?_, ?_, ?_, ?_⟩
  · rw [va_s]; exact hd.2.2 6 (by omega) (by omega)
  · rw [va_s]; exact hd.2.2 7 (by omega) (by omega)
  · rw [va_s]; exact hd.2.2 9 (by omega) (by omega)
  · rw [va_s]; exact hd.2.2 14 (by omega) (by omega)
theorem m_cp : it_ iX10_street_L2 FV (V, 0) = some (va_up V 78 (fa_fill (V 76) (V 78) 1151)) := by
  have e := lq (f := iX10_street_L2) (r := va_up V 78 (fa_fill (V 76) (V 78) 1151)) (fun k => va_up V 78 (fa_fill (V 76) (V 78) k)) (fun a k => (a, nI k)) 1151 (by omega)
    (by
      intro k hk
      unfold iX10_street_L2 fX10_street_L2
      simp only []
      rw [if_neg (show ¬ (1151 : Int32) ≤ nI k from nI_ge (b := 1151) hk (by omega)), q_rd (by omega) (by omega), q_rd (by omega) (by omega), nI_clamp (by omega), va_s, va_n (show (76 : Nat) ≠ 78 by omega), va_uu, q_lt, q_lt, nI_1, fa_fill_succ])
    (by
      unfold iX10_street_L2 fX10_street_L2
      simp only []
      rw [if_pos (show (1151 : Int32) ≤ nI 1151 from nI_le (Nat.le_refl _) (by omega))])
  simp only [fa_fill_0, va_self] at e
  exact e
theorem m_rs : it_ iX10_street_L92 FV (V, 0) = some (0, va_up V 76 (fa_fill (V 78) (V 76) 1151)) := by
  have e := lq (f := iX10_street_L92) (r := (0, va_up V 76 (fa_fill (V 78) (V 76) 1151))) (fun k => va_up V 76 (fa_fill (V 78) (V 76) k)) (fun a k => (a, nI k)) 1151 (by omega)
    (by
      intro k hk
      unfold iX10_street_L92 fX10_street_L92
      simp only []
      rw [if_neg (show ¬ (1151 : Int32) ≤ nI k from nI_ge (b := 1151) hk (by omega)), q_rd (by omega) (by omega), q_rd (by omega) (by omega), nI_clamp (by omega), va_s, va_n (show (78 : Nat) ≠ 76 by omega), va_uu, q_lt, q_lt, nI_1, fa_fill_succ])
    (by
      unfold iX10_street_L92 fX10_street_L92
      simp only []
      rw [if_pos (show (1151 : Int32) ≤ nI 1151 from nI_le (Nat.le_refl _) (by omega))])
  simp only [fa_fill_0, va_self] at e
  exact e
theorem liP_S {A' : AT} {q : Nat} (h : liP b n A p = .inr (A', q)) : aS A' 2 = aS A 2 ∧ aS A' 3 = aS A 3 := by
  unfold liP at h
  by_cases c1 : wdB b n (sk b n p) 31 = true
  · rw [if_pos c1] at h
    by_cases c8 : aS A 0 = 8
    · rw [if_pos c8] at h; cases h
    · rw [if_neg c8] at h
      cases e : hoP b n p with
      | inl f => rw [e] at h; cases h
      | inr x => rw [e] at h; cases h; exact ⟨rfl, rfl⟩
  · rw [if_neg c1] at h
    by_cases c2 : wdB b n (sk b n p) 32 = true
    · rw [if_pos c2] at h
      by_cases c8 : aS A 1 = 10
      · rw [if_pos c8] at h; cases h
      · rw [if_neg c8] at h
        cases e : deP b n (aS A 1) p with
        | inl f => rw [e] at h; cases h
        | inr x => rw [e] at h; cases h; exact ⟨rfl, rfl⟩
    · rw [if_neg c2] at h
      by_cases c3 : wdB b n (sk b n p) 33 = true
      · rw [if_pos c3] at h
        cases e : wnP b n p 33 0 9 with
        | inl f => rw [e] at h; cases h
        | inr x => rw [e] at h; cases h; exact ⟨rfl, rfl⟩
      · rw [if_neg c3] at h
        by_cases c4 : wdB b n (sk b n p) 34 = true
        · rw [if_pos c4] at h
          cases e : wnD b n p 34 (aS A 0) with
          | inl f => rw [e] at h; cases h
          | inr x => rw [e] at h; cases h; exact ⟨rfl, rfl⟩
        · rw [if_neg c4] at h; cases h
theorem stP_S {A' : AT} : ∀ m A p, stP b n m A p = .inr A' → aS A' 2 = aS A 2 ∧ aS A' 3 = aS A 3
  | 0, A, p, h => by cases h
  | m + 1, A, p, h => by
    unfold stP at h
    cases e : liP b n A p with
    | inl f => rw [e] at h; cases h
    | inr x =>
      obtain ⟨A1, q⟩ := x
      have h1 := liP_S e
      rw [e] at h
      have h : (if n ≤ sk b n q then Sum.inr A1 else if cl b n 59 59 (sk b n q) = true then stP b n m A1 (sk b n q + 1) else .inl (sk b n q)) = Sum.inr A' := h
      by_cases c1 : n ≤ sk b n q
      · rw [if_pos c1] at h
        cases h
        exact h1
      · rw [if_neg c1] at h
        by_cases c2 : cl b n 59 59 (sk b n q) = true
        · rw [if_pos c2] at h
          have := stP_S m A1 _ h
          exact ⟨this.1.trans h1.1, this.2.trans h1.2⟩
        · rw [if_neg c2] at h; cases h
end MT
theorem hoP_b {b : Nat → Int32} {n p : Nat} (hp : p ≤ n) {r : Nat → Nat} {q : Nat} (h : hoP b n p = .inr (r, q)) : r 0 ≤ 23 ∧ r 1 ≤ r 2 ∧ r 2 ≤ 23 ∧ r 3 ≤ 23 ∧ r 4 ≤ 24 ∧ r 5 ≤ 9 ∧ r 6 ≤ 3 ∧ r 7 ≤ 1 := by
  unfold hoP at h
  cases e1 : wnP b n p 31 0 23 with
  | inl f => rw [e1] at h; cases h
  | inr a =>
    rw [e1] at h
    have x1 := wnP_b (v := a.1) (q := a.2) hp e1
    simp only [sb] at h
    cases e2 : wnP b n a.2 35 0 23 with
    | inl f => rw [e2] at h; cases h
    | inr c =>
      rw [e2] at h
      have x2 := wnP_b (v := c.1) (q := c.2) x1.2.2 e2
      simp only [] at h
      cases e3 : wnP b n c.2 36 c.1 23 with
      | inl f => rw [e3] at h; cases h
      | inr d =>
        rw [e3] at h
        have x3 := wnP_b (v := d.1) (q := d.2) x2.2.2 e3
        simp only [] at h
        cases e4 : wnP b n d.2 37 0 23 with
        | inl f => rw [e4] at h; cases h
        | inr e =>
          rw [e4] at h
          have x4 := wnP_b (v := e.1) (q := e.2) x3.2.2 e4
          simp only [] at h
          cases e5 : wnP b n e.2 38 0 24 with
          | inl f => rw [e5] at h; cases h
          | inr f =>
            rw [e5] at h
            have x5 := wnP_b (v := f.1) (q := f.2) x4.2.2 e5
            simp only [] at h
            by_cases c9 : wdB b n (sk b n f.2) 39 = true
            · rw [if_pos c9] at h
              cases e6 : wnP b n f.2 39 0 9 with
              | inl f => rw [e6] at h; cases h
              | inr g =>
                rw [e6] at h
                have x6 := wnP_b (v := g.1) (q := g.2) x5.2.2 e6
                cases h
                exact ⟨x1.2.1, x3.1, x3.2.1, x4.2.1, x5.2.1, x6.2.1, Nat.zero_le _, Nat.zero_le _⟩
            · rw [if_neg c9] at h
              cases h
              exact ⟨x1.2.1, x3.1, x3.2.1, x4.2.1, x5.2.1, Nat.zero_le _, Nat.zero_le _, Nat.zero_le _⟩
theorem deP_b {b : Nat → Int32} {n p D : Nat} (hp : p ≤ n) {r : Nat → Nat} {q : Nat} (h : deP b n D p = .inr (r, q)) : ∃ a c o, r = rw6 a c o ∧ a ≤ 23 ∧ c ≤ 23 ∧ o ≤ D := by
  unfold deP at h
  cases e1 : wnP b n p 32 0 23 with
  | inl f => rw [e1] at h; cases h
  | inr a =>
    rw [e1] at h
    have x1 := wnP_b (v := a.1) (q := a.2) hp e1
    simp only [sb] at h
    cases e2 : wnP b n a.2 40 0 23 with
    | inl f => rw [e2] at h; cases h
    | inr c =>
      rw [e2] at h
      have x2 := wnP_b (v := c.1) (q := c.2) x1.2.2 e2
      simp only [] at h
      by_cases c9 : wdB b n (sk b n c.2) 41 = true
      · rw [if_pos c9] at h
        cases e6 : wnD b n c.2 41 D with
        | inl f => rw [e6] at h; cases h
        | inr g =>
          rw [e6] at h
          cases h
          refine ⟨_, _, _, rfl, x1.2.1, x2.2.1, ?_⟩
          unfold wnD at e6
          by_cases d0 : D = 0
          · rw [if_pos d0, if_pos c9] at e6; cases e6
          · rw [if_neg d0] at e6
            have x6 := wnP_b (v := g.1) (q := g.2) x2.2.2 e6
            omega
      · rw [if_neg c9] at h
        cases h
        exact ⟨_, _, _, rfl, x1.2.1, x2.2.1, Nat.zero_le _⟩
theorem liP_W {b : Nat → Int32} {n p : Nat} {A A' : AT} {q : Nat} (hp : p ≤ n) (hW : WA A) (h : liP b n A p = .inr (A', q)) : WA A' := by
  have h0 := hW.1.1
  have h1 := hW.1.2.1
  unfold liP at h
  by_cases c1 : wdB b n (sk b n p) 31 = true
  · rw [if_pos c1] at h
    by_cases c8 : aS A 0 = 8
    · rw [if_pos c8] at h; cases h
    · rw [if_neg c8] at h
      cases e : hoP b n p with
      | inl f => rw [e] at h; cases h
      | inr x => rw [e] at h; cases h; exact hW.hs (by omega) (hoP_b (r := x.1) (q := x.2) hp e)
  · rw [if_neg c1] at h
    by_cases c2 : wdB b n (sk b n p) 32 = true
    · rw [if_pos c2] at h
      by_cases c8 : aS A 1 = 10
      · rw [if_pos c8] at h; cases h
      · rw [if_neg c8] at h
        cases e : deP b n (aS A 1) p with
        | inl f => rw [e] at h; cases h
        | inr x =>
          rw [e] at h
          cases h
          obtain ⟨a, c, o, er, ha, hc, ho⟩ := deP_b (r := x.1) (q := x.2) hp e
          rw [er]
          exact hW.ds (by omega) ha hc ho
    · rw [if_neg c2] at h
      by_cases c3 : wdB b n (sk b n p) 33 = true
      · rw [if_pos c3] at h
        cases e : wnP b n p 33 0 9 with
        | inl f => rw [e] at h; cases h
        | inr x => rw [e] at h; cases h; exact hW.mist (wnP_b (v := x.1) (q := x.2) hp e).2.1
      · rw [if_neg c3] at h
        by_cases c4 : wdB b n (sk b n p) 34 = true
        · rw [if_pos c4] at h
          cases e : wnD b n p 34 (aS A 0) with
          | inl f => rw [e] at h; cases h
          | inr x => rw [e] at h; cases h; exact hW.hq (by omega) (by omega) (by omega) (by omega) (by omega) (fun _ => by omega)
        · rw [if_neg c4] at h; cases h
theorem m_stL {b : Nat → Int32} {n : Nat} (hn : n ≤ 400) (hy : ∀ k, k < 400 → by_ (b k)) : ∀ m F (V : VT) A p, m < F → m ≤ 14 → MP V b n p → p ≤ n → RM (V 76) A → WA A →
    (∃ f V', stP b n m A p = .inl f ∧ it_ iX10_readAll_L28 F (V, 1, nI (14 - m)) = some (-1, V') ∧ V' 22 12 = nI f ∧ Gs V V') ∨
    (∃ A' V' k, stP b n m A p = .inr A' ∧ it_ iX10_readAll_L28 F (V, 1, nI (14 - m)) = some (nI k, V') ∧ k ≤ 14 ∧ RM (V' 76) A' ∧ WA A' ∧ Gs V V')
  | 0, F, V, A, p, hF, hm, hT, hp, hR, hW => by
    obtain ⟨F, rfl⟩ : ∃ g, F = g + 1 := ⟨F - 1, by omega⟩
    unfold it_
    obtain ⟨V2, e2, a1, a2, a3⟩ := m_letters hT hy hp hn
    rw [show iX10_readAll_L28 (V, 1, nI (14 - 0)) = some (.inr (-1, V2)) by
      show fX10_readAll_L28 V 1 (nI 14) = _
      unfold fX10_readAll_L28 fX10_readLine fX10_readLine_j16
      rw [e2, q_R, if_neg q_10, if_pos (show (14 : Int32) ≤ nI 14 by decide), q_zo0, q_I, if_pos rfl]]
    exact .inl ⟨_, V2, rfl, rfl, a2, a3.gs⟩
  | m + 1, F, V, A, p, hF, hm, hT, hp, hR, hW => by
    obtain ⟨F, rfl⟩ : ∃ g, F = g + 1 := ⟨F - 1, by omega⟩
    unfold it_ stP
    obtain ⟨V2, e2, a1, a2, a3⟩ := m_letters hT hy hp hn
    have e0 : iX10_readAll_L28 (V, 1, nI (14 - (m + 1))) = (ob_I (ob_I (fX10_readStreetLine V2 ) fun y11 V12 => if y11 = 0 then (zo_ (0 : Int32) (some ((0 : Int32), V12))) else (zo_ (1 : Int32) (some ((1 : Int32), V12)))) fun y7 V8 => if y7 = 0 then (some (.inr (((-1 : Int32), V8)))) else (ob_R (fX10_blanks V8 ) fun V10 => if (V10 22 10) = (V10 22 11) then (some (.inr (((nI (14 - (m + 1)) + (1 : Int32)), V10)))) else (ob_R (fX10_isAt V10 (59 : Int32) (59 : Int32)) fun y12 => if y12 = 0 then (some (.inr (((-1 : Int32), V10)))) else (lt_ (va_up V10 22 (upd (V10 22) 10 ((V10 22 10) + (1 : Int32)))) fun V13 => lt_ (nI (14 - (m + 1)) + (1 : Int32)) fun y14 => some (.inl (V13, 1, y14)))))) := by
      show fX10_readAll_L28 V 1 (nI (14 - (m + 1))) = _
      unfold fX10_readAll_L28 fX10_readLine fX10_readLine_j16
      rw [e2, q_R, if_neg q_10, if_neg (show ¬ (14 : Int32) ≤ nI (14 - (m + 1)) from nI_ge (b := 14) (by omega) (by omega)), if_neg q_10]
    rw [e0]
    rcases m_streetLine a1 a2 hy hp hn (hR.g a3) hW with ⟨f, V', w4, e4, b4, s4⟩ | ⟨A', q, V', w4, e4, t4, p4, r4, s4⟩
    · rw [e4, q_I, if_pos rfl, q_zo0, q_I, if_pos rfl, w4]
      exact .inl ⟨f, V', rfl, rfl, b4, a3.gs.tr s4⟩
    · have hW' := liP_W hp hW w4
      obtain ⟨V5, e5, t5, b5, g5⟩ := m_blanks t4 hy p4 hn
      rw [e4, q_I, if_neg q_10, q_zo1, q_I, if_neg q_10, e5, q_R, t5.1, t5.2.1, w4]
      have hS := sk_le (b := b) p4
      have g6 := (a3.gs.tr s4).tr g5.gs
      show (∃ f V'_1, (if n ≤ sk b n q then _ else _) = _ ∧ _) ∨ (∃ f V'_1 k, (if n ≤ sk b n q then _ else _) = _ ∧ _)
      by_cases c1 : n ≤ sk b n q
      · rw [if_pos c1, if_pos (congrArg nI (by omega)), nI_1]
        exact .inr ⟨A', V5, 14 - (m + 1) + 1, rfl, rfl, by omega, r4.g g5, hW', g6⟩
      · rw [if_neg c1, if_neg (show ¬ nI (sk b n q) = nI n from fun e => c1 (by have := (nI_eq (by omega) (by omega)).1 e; omega)), show (59 : Int32) = nI 59 from rfl, m_isAt t5 hy hS hn (by omega) (by omega), q_R, q_ifb]
        by_cases c2 : cl b n 59 59 (sk b n q) = true
        · rw [if_pos c2, if_pos c2, nI_1, nI_1, q_lt, q_lt, show 14 - (m + 1) + 1 = 14 - m by omega]
          rcases m_stL hn hy m F (va_up V5 22 (upd (V5 22) 10 (nI (sk b n q + 1)))) A' (sk b n q + 1) (by omega) (by omega) ((Mg.u (by omega)).mp t5 (by rw [va_s, pk_us])) (by have := of_decide_eq_true c2; omega) (by rw [va_n (by omega)]; exact r4.g g5) hW' with ⟨f, V6, x1, x2, x3, x4⟩ | ⟨A6, V6, k, x1, x2, x3, x4, x5, x6⟩
          · exact .inl ⟨f, V6, x1, x2, x3, (g6.tr (Mg.u (by omega)).gs).tr x4⟩
          · exact .inr ⟨A6, V6, k, x1, x2, x3, x4, x5, (g6.tr (Mg.u (by omega)).gs).tr x6⟩
        · rw [if_neg c2, if_neg c2]
          exact .inl ⟨_, V5, rfl, rfl, b5, g6⟩
