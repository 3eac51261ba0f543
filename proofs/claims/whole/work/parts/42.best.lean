/-! ===== best ===== -/
noncomputable def bst (L : Fa → Bool) (A : AT) (t : Nat) (q : Int32 × Int32) : Nat → Int32 × Int32
  | 0 => q
  | p + 1 => if (bst L A t q p).1 < bcI (nI (seer L A p t)) then (bcI (nI (seer L A p t)), 100 * nI t + nI p) else bst L A t q p
noncomputable def bsh (L : Fa → Bool) (A : AT) : Nat → Int32 × Int32
  | 0 => (-1, -1)
  | t + 1 => bst L A t (bsh L A t) 24
section OP
variable {V : VT} {i : Nat} {A : AT} {L : Fa → Bool}
theorem c_best (hC : CT V i A L) : ∃ V', fX5_bestSpot V i = some ((bsh L A 24).2, V') ∧ Ly V V' := by
  unfold fX5_bestSpot
  obtain ⟨V', e, hR⟩ := lp (f := iX5_bestSpot_L7 i) (fun t => bsh L A t) (fun V' a k => (V', a.1, a.2, nI k)) (fun V' a => (a.2, V')) (fun V' => Ly V V') 24 (by omega) Ly.rf
    (by
      intro t V' ht hR
      unfold iX5_bestSpot_L7 fX5_bestSpot_L7
      simp only []
      rw [q_lit, if_neg (nI_ge ht (by omega))]
      obtain ⟨V2, e2, hR2⟩ := lp (V := V') (f := iX5_bestSpot_L17 i) (fun p => bst L A t (bsh L A t) p) (fun V' a k => (V', a.1, a.2, nI t, nI k)) (fun V' a => (V', a.1, a.2, nI t)) (fun V' => Ly V V') 24 (by omega) hR
        (by
          intro p V' hp hR
          have hC' := hC.ly hR
          obtain ⟨V3, e, hy⟩ := c_witness hC' hp ht
          unfold iX5_bestSpot_L17 fX5_bestSpot_L17
          simp only []
          rw [if_neg (show ¬ (24 : Int32) ≤ nI p from nI_ge (b := 24) hp (by omega)), e, q_I, bc_e, q_R]
          refine ⟨V3, ?_, hR.tr hy⟩
          have es : bst L A t (bsh L A t) (p + 1) = if (bst L A t (bsh L A t) p).1 < bcI (nI (seer L A p t)) then (bcI (nI (seer L A p t)), 100 * nI t + nI p) else bst L A t (bsh L A t) p := rfl
          rw [es]
          by_cases hc : (bst L A t (bsh L A t) p).1 < bcI (nI (seer L A p t))
          · rw [if_neg (fun h => by rw [fa_le] at h; rw [fa_lt] at hc; omega), if_pos hc, q_lt, q_lt, nI_1]
          · rw [if_pos (fa_of_nlt hc), if_neg hc, q_lt, nI_1])
        (by
          intro V' hR
          unfold iX5_bestSpot_L17 fX5_bestSpot_L17
          simp only []
          rw [if_pos (show (24 : Int32) ≤ nI 24 from nI_le (Nat.le_refl _) (by omega))])
      have e2 : it_ (iX5_bestSpot_L17 i) FV (V', (bsh L A t).1, (bsh L A t).2, nI t, 0) = _ := e2
      rw [e2, q_R]
      refine ⟨V2, ?_, hR2⟩
      simp only [dt4_, q_lt, nI_1]
      rfl)
    (by
      intro V' hR
      unfold iX5_bestSpot_L7 fX5_bestSpot_L7
      simp only []
      rw [q_lit, if_pos (nI_le (Nat.le_refl _) (by omega))])
  have e : it_ (iX5_bestSpot_L7 i) FV (V, -1, -1, 0) = _ := e
  rw [e, q_R]
  exact ⟨V', rfl, hR⟩
theorem m_best (hC : MT V A L) (h0 : 0 < aS A 0) : ∃ V', it_ iX10_best_L11 FV (V, -1, -1, 0) = some ((bsh L A 24).2, V') ∧ My V V' := by
  have h8 := hC.2.1.1.1
  obtain ⟨V', e, hR⟩ := lp (f := iX10_best_L11) (fun t => bsh L A t) (fun V' a k => (V', a.2, a.1, nI k)) (fun V' a => (a.2, V')) (fun V' => My V V') 24 (by omega) My.rf
    (by
      intro t V' ht hR
      unfold iX10_best_L11 fX10_best_L11
      simp only []
      rw [if_neg (show ¬ (24 : Int32) ≤ nI t from nI_ge (b := 24) ht (by omega)), m_houses (hC.y hR).1, q_R, if_neg (nI_nle h0 (by omega))]
      obtain ⟨V2, e2, hR2⟩ := lp (V := V') (f := iX10_best_L27) (fun p => bst L A t (bsh L A t) p) (fun V' a k => (V', a.2, a.1, nI t, nI k)) (fun V' a => (V', a.2, a.1, nI t)) (fun V' => My V V') 24 (by omega) hR
        (by
          intro p V' hp hR
          have hC' := hC.y hR
          obtain ⟨V3, e, hy⟩ := m_seersNow hC' hp ht
          unfold iX10_best_L27 fX10_best_L27
          simp only []
          rw [if_neg (show ¬ (24 : Int32) ≤ nI p from nI_ge (b := 24) hp (by omega)), e, q_I, bc_e, q_R]
          refine ⟨V3, ?_, hR.tr hy⟩
          have es : bst L A t (bsh L A t) (p + 1) = if (bst L A t (bsh L A t) p).1 < bcI (nI (seer L A p t)) then (bcI (nI (seer L A p t)), 100 * nI t + nI p) else bst L A t (bsh L A t) p := rfl
          rw [es]
          by_cases hc : (bst L A t (bsh L A t) p).1 < bcI (nI (seer L A p t))
          · rw [if_pos hc, if_pos hc, q_lt, q_lt, nI_1]
          · rw [if_neg hc, if_neg hc, q_lt, nI_1])
        (by
          intro V' hR
          unfold iX10_best_L27 fX10_best_L27
          simp only []
          rw [if_pos (show (24 : Int32) ≤ nI 24 from nI_le (Nat.le_refl _) (by omega))])
      have e2 : it_ iX10_best_L27 FV (V', (bsh L A t).2, (bsh L A t).1, nI t, 0) = _ := e2
      rw [e2, q_R]
      refine ⟨V2, ?_, hR2⟩
      simp only [dt4_, q_lt, nI_1]
      rfl)
    (by
      intro V' hR
      unfold iX10_best_L11 fX10_best_L11
      simp only []
      rw [if_pos (show (24 : Int32) ≤ nI 24 from nI_le (Nat.le_refl _) (by omega))])
  exact ⟨V', e, hR⟩
theorem op_best (hI : INV V) : OpI (fun V => fX9_best V) (fun V => fX10_best V) V := by
  obtain ⟨g, hC, hM⟩ := hI
  have h8 := hC.2.1.1.1
  by_cases h0 : aS (xA g) 0 = 0
  · refine op_i hC hM (-1) ⟨V, ?_, Cs.rf⟩ ?_
    · show fX9_best V = _
      unfold fX9_best
      rw [hC.1.1.1, h0, if_pos (show nI 0 = 0 from rfl)]
    · intro V1 hM1
      have hT := hM1.t0
      refine ⟨t0 V1, ?_, t0_m⟩
      show fX10_best V1 = _
      unfold fX10_best
      rw [q_lt, t0_e]
      obtain ⟨r, e, rfl⟩ := it_for (F := FV) (f := iX10_best_L11) 0 (fun k s => s = (t0 V1, -1, -1, 0)) (fun r => r = (-1, t0 V1)) (fun k s hk => by omega)
        (by
          rintro s rfl
          refine ⟨_, ?_, rfl⟩
          unfold iX10_best_L11 fX10_best_L11
          simp only []
          rw [if_neg (by decide), m_houses hT.1, q_R, h0, if_pos (show nI 0 ≤ 0 by decide)]) (by have := FV_ge; omega) rfl
      rw [e, q_R]
  · refine op_i hC hM (bsh (xL g) (xA g) 24).2 ?_ ?_
    · obtain ⟨V1, e, hy⟩ := c_best hC.t
      refine ⟨V1, ?_, hy.c⟩
      show fX9_best V = _
      unfold fX9_best
      rw [hC.1.1.1, if_neg (nI_ne0 (by omega) (by omega)), e, q_I]
    · intro V1 hM1
      obtain ⟨V2, e, hy⟩ := m_best hM1.t0 (by omega)
      refine ⟨V2, ?_, t0_m.tr hy.m⟩
      show fX10_best V1 = _
      unfold fX10_best
      rw [q_lt, t0_e, e, q_R]
/-! ===== clear ===== -/
theorem m_clear (hC : MT V A L) (h0 : 0 < aS A 0) {p t : Nat} (hp : p < 24) (ht : t < 24) : ∃ r V', it_ iX10_clear_L39 FV (V, nI p, nI t, -1, 0) = some (r, V') ∧ My V V' ∧ ((r = -1 ∧ ∀ f, f < 10 → seerF L A p t f ≠ 2 ^ aS A 0 - 1) ∨ ∃ f, f < 10 ∧ r = nI f ∧ seerF L A p t f = 2 ^ aS A 0 - 1 ∧ ∀ f2, f < f2 → f2 < 10 → seerF L A p t f2 ≠ 2 ^ aS A 0 - 1) := by
  have h8 := hC.2.1.1.1
  have hpw : 2 ^ aS A 0 - 1 < 2 ^ 31 := by
    have := Nat.pow_le_pow_right (n := 2) (by omega) h8
    omega
  obtain ⟨q, e, r, V', rfl, hy, hr⟩ := it_for (F := FV) (f := iX10_clear_L39) 10 (fun k s => ∃ r V', s = (V', nI p, nI t, r, nI k) ∧ My V V' ∧ ((r = -1 ∧ ∀ f, f < k → seerF L A p t f ≠ 2 ^ aS A 0 - 1) ∨ ∃ f, f < k ∧ r = nI f ∧ seerF L A p t f = 2 ^ aS A 0 - 1 ∧ ∀ f2, f < f2 → f2 < k → seerF L A p t f2 ≠ 2 ^ aS A 0 - 1))
    (fun q => ∃ r V', q = (r, V') ∧ My V V' ∧ ((r = -1 ∧ ∀ f, f < 10 → seerF L A p t f ≠ 2 ^ aS A 0 - 1) ∨ ∃ f, f < 10 ∧ r = nI f ∧ seerF L A p t f = 2 ^ aS A 0 - 1 ∧ ∀ f2, f < f2 → f2 < 10 → seerF L A p t f2 ≠ 2 ^ aS A 0 - 1))
    (by
      rintro k s hk ⟨r, V', rfl, hy, hr⟩
      have hC' := hC.y hy
      obtain ⟨V2, e, hy2⟩ := m_seersOf (fog := k) hC' hp ht
      have hC2 := hC'.y hy2
      unfold iX10_clear_L39 fX10_clear_L39
      simp only []
      rw [if_neg (show ¬ (9 : Int32) < nI k from nI_nlt (a := 9) (show k ≤ 9 by omega) (by omega)), m_houses hC'.1, q_R, if_neg (nI_nle h0 (by omega)), e, q_I, m_allHouses hC2.1 hC2.2.1, q_R]
      have hs : seerF L A p t k < 256 := bs_256 _ h8
      by_cases hc : seerF L A p t k = 2 ^ aS A 0 - 1
      · rw [if_pos (by rw [hc]), q_lt, nI_1]
        exact ⟨_, rfl, _, V2, rfl, hy.tr hy2, Or.inr ⟨k, by omega, rfl, hc, fun f2 a b => by omega⟩⟩
      · rw [if_neg (fun e => hc ((nI_eq (by omega) hpw).1 e)), q_lt, nI_1]
        refine ⟨_, rfl, _, V2, rfl, hy.tr hy2, ?_⟩
        rcases hr with ⟨a, b⟩ | ⟨f, a, b, c, d⟩
        · refine Or.inl ⟨a, fun f hf => ?_⟩
          by_cases ef : f = k
          · subst ef; exact hc
          · exact b f (by omega)
        · refine Or.inr ⟨f, by omega, b, c, fun f2 h1 h2 => ?_⟩
          by_cases ef : f2 = k
          · subst ef; exact hc
          · exact d f2 h1 (by omega))
    (by
      rintro s ⟨r, V', rfl, hy, hr⟩
      unfold iX10_clear_L39 fX10_clear_L39
      simp only []
      rw [if_pos (show (9 : Int32) < nI 10 by decide)]
      exact ⟨_, rfl, r, V', rfl, hy, hr⟩) (by have := FV_ge; omega) (s := (V, nI p, nI t, -1, 0)) ⟨-1, V, rfl, My.rf, Or.inl ⟨rfl, fun f hf => by omega⟩⟩
  exact ⟨r, V', e, hy, hr⟩
theorem c_clear (hC : CT V 3 A L) {p t : Nat} (hp : p < 24) (ht : t < 24) : ∃ r V', it_ iX9_clear_L34 FV (V, nI p, nI t, 9) = some (.inr r, V') ∧ Cs V V' ∧ ((r = -1 ∧ ∀ f, f < 10 → seerF L A p t f ≠ 2 ^ aS A 0 - 1) ∨ ∃ f, f < 10 ∧ r = nI f ∧ seerF L A p t f = 2 ^ aS A 0 - 1 ∧ ∀ f2, f < f2 → f2 < 10 → seerF L A p t f2 ≠ 2 ^ aS A 0 - 1) := by
  have h8 := hC.2.1.1.1
  have hpw : 2 ^ aS A 0 - 1 < 2 ^ 31 := by
    have := Nat.pow_le_pow_right (n := 2) (by omega) h8
    omega
  obtain ⟨q, e, r, V', rfl, hy, hr⟩ := it_forE (F := FV) (f := iX9_clear_L34) 10 (fun k s => ∃ V' B, s = (V', nI p, nI t, nI 9 - nI k) ∧ Cs V V' ∧ CT V' 3 B L ∧ (∃ f, B = pS A 5 f) ∧ ∀ f2, 10 ≤ f2 + k → f2 < 10 → seerF L A p t f2 ≠ 2 ^ aS A 0 - 1)
    (fun q => ∃ r V', q = (.inr r, V') ∧ Cs V V' ∧ ((r = -1 ∧ ∀ f, f < 10 → seerF L A p t f ≠ 2 ^ aS A 0 - 1) ∨ ∃ f, f < 10 ∧ r = nI f ∧ seerF L A p t f = 2 ^ aS A 0 - 1 ∧ ∀ f2, f < f2 → f2 < 10 → seerF L A p t f2 ≠ 2 ^ aS A 0 - 1))
    (by
      rintro k s hk ⟨V', B, rfl, hy, hCB, ⟨f0, rfl⟩, hr⟩
      unfold iX9_clear_L34 fX9_clear_L34
      simp only []
      rw [pk_sub (show k ≤ 9 by omega), if_neg (nI_pos (by omega)), q_lt]
      have hR7 := (hCB.1.fog (by omega) (9 - k))
      have hC7 : CT (va_up V' 3 (upd (V' 3) 8 (nI (9 - k)))) 3 (pS A 5 (9 - k)) L := by
        refine ⟨?_, hC.2.1.fog (by omega), ?_, by omega⟩
        · have e1 : pS (pS A 5 f0) 5 (9 - k) = pS A 5 (9 - k) := by
            unfold pS
            congr 1
            funext q
            unfold up1
            by_cases hq : q = 5 <;> simp [hq]
          rw [e1] at hR7
          exact hR7
        · rw [va_n (by omega), va_n (by omega)]; exact hCB.2.2.1
      have hy7 : Cs V' (va_up V' 3 (upd (V' 3) 8 (nI (9 - k)))) := ⟨fun j _ a _ _ _ _ _ _ _ _ _ => va_n a, by rw [va_n (by omega)], fun k _ => by rw [va_n (by omega)]⟩
      obtain ⟨V2, e, hy2⟩ := c_witness hC7 hp ht
      have hC2 := hC7.ly hy2
      rw [e, q_I, c_allHouses hC2.1 hC2.2.1, q_R]
      have es : seer L (pS A 5 (9 - k)) p t = seerF L A p t (9 - k) := rfl
      have en : aS (pS A 5 (9 - k)) 0 = aS A 0 := rfl
      rw [es, en]
      have hs : seerF L A p t (9 - k) < 256 := bs_256 _ h8
      by_cases hc : seerF L A p t (9 - k) = 2 ^ aS A 0 - 1
      · right
        rw [if_pos (by rw [hc])]
        exact ⟨_, rfl, _, V2, rfl, (hy.tr hy7).tr hy2.c, Or.inr ⟨9 - k, by omega, rfl, hc, fun f2 a b => hr f2 (by omega) b⟩⟩
      · left
        rw [if_neg (fun e => hc ((nI_eq (by omega) hpw).1 e)), q_lt]
        have ee : nI (9 - k) + (-1) = nI 9 - nI (k + 1) := by
          by_cases h9 : k = 9
          · subst h9; decide
          · rw [pk_sub (show k + 1 ≤ 9 by omega), sb_m1 (by omega), show 9 - k - 1 = 9 - (k + 1) by omega]
        refine ⟨_, rfl, V2, _, by rw [ee], (hy.tr hy7).tr hy2.c, hC2, ⟨_, rfl⟩, fun f2 h1 h2 => ?_⟩
        · by_cases ef : f2 = 9 - k
          · subst ef; exact hc
          · exact hr f2 (by omega) h2)
    (by
      rintro s ⟨V', B, rfl, hy, hCB, hB, hr⟩
      unfold iX9_clear_L34 fX9_clear_L34
      simp only []
      rw [if_pos (show nI 9 - nI 10 < 0 by decide)]
      exact ⟨_, rfl, -1, V', rfl, hy, Or.inl ⟨rfl, fun f hf => hr f (by omega) hf⟩⟩) (by have := FV_ge; omega) (s := (V, nI p, nI t, 9)) ⟨V, A, rfl, Cs.rf, hC, ⟨aS A 5, by
        obtain ⟨s, r⟩ := A
        unfold pS
        congr 1
        funext q
        unfold up1 aS
        by_cases hq : q = 5 <;> simp [hq]⟩, fun f2 a b => by omega⟩
  exact ⟨r, V', e, hy, hr⟩
theorem op_clear {cd : String → Int32} (hI : INV V) (h1 : cd IOOB = 1) (x1 x2 : Int32) : OpE (fun V => fX9_clear V x1 x2) (fun V => fX10_clear V x1 x2) cd V := by
  refine op_ph (f9 := fX9_clear) (f10 := fX10_clear) (k9 := fun V x1 x2 => if (V 2 3) = 0 then (some (.inr (-1), V)) else (ob_R (fX6_copyFrom V 3 2) fun V6 => ob_R (it_ (iX9_clear_L34) FV (V6, x1, x2, (9 : Int32))) fun x17 => some x17)) (k10 := fun V x1 x2 => ob_R (it_ (iX10_clear_L39) FV (V, x1, x2, (-1), (0 : Int32))) fun x20 => some x20) (fun _ _ _ => rfl) (fun _ _ _ => rfl) hI h1 x1 x2 ?_
  intro g p t hp ht hC
  have h8 := hC.2.1.1.1
  by_cases h0 : aS (xA g) 0 = 0
  · refine ⟨-1, ⟨V, ?_, Cs.rf⟩, ?_⟩
    · show (if V 2 3 = 0 then _ else _) = _
      rw [hC.1.1.1, h0, if_pos (show nI 0 = 0 from rfl)]
    · intro V1 _ hT
      refine ⟨t0 V1, ?_, Mq.rf⟩
      show ob_R (it_ (iX10_clear_L39) FV (t0 V1, nI p, nI t, (-1), (0 : Int32))) _ = _
      obtain ⟨r, e, rfl⟩ := it_for (F := FV) (f := iX10_clear_L39) 0 (fun k s => s = (t0 V1, nI p, nI t, -1, 0)) (fun r => r = (-1, t0 V1)) (fun k s hk => by omega)
        (by
          rintro s rfl
          refine ⟨_, ?_, rfl⟩
          unfold iX10_clear_L39 fX10_clear_L39
          simp only []
          rw [if_neg (by decide), m_houses hT.1, q_R, h0, if_pos (show nI 0 ≤ 0 by decide)]) (by have := FV_ge; omega) rfl
      rw [e, q_R]
  · obtain ⟨V6, e6, hC6, -, hs6⟩ := c_spare hC.t
    obtain ⟨r, V1, e, hy, hr⟩ := c_clear hC6 hp ht
    refine ⟨r, ⟨V1, ?_, hs6.tr hy⟩, ?_⟩
    · show (if V 2 3 = 0 then _ else _) = _
      rw [hC.1.1.1, if_neg (nI_ne0 (by omega) (by omega)), e6, q_R, e, q_R]
    · intro V1 _ hT
      obtain ⟨r2, V2, e2, hy2, hr2⟩ := m_clear hT (by omega) hp ht
      refine ⟨V2, ?_, hy2.q⟩
      show ob_R (it_ (iX10_clear_L39) FV (t0 V1, nI p, nI t, (-1), (0 : Int32))) _ = _
      rw [e2, q_R]
      congr 2
      rcases hr with ⟨a, b⟩ | ⟨f, a, b, c, d⟩
      · rcases hr2 with ⟨a2, b2⟩ | ⟨f2, a2, b2, c2, d2⟩
        · rw [a, a2]
        · exact absurd c2 (b f2 a2)
      · rcases hr2 with ⟨a2, b2⟩ | ⟨f2, a2, b2, c2, d2⟩
        · exact absurd c (b2 f a)
        · rw [b, b2]
          congr 1
          rcases Nat.lt_trichotomy f f2 with h | h | h
          · exact absurd c2 (d f2 h a2)
          · exact h.symm
          · exact absurd c (d2 f h a)
end OP
