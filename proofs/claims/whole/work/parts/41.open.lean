/-! ===== open, dark, best ===== -/
def allB (p : Nat → Bool) : Nat → Bool
  | 0 => true
  | n + 1 => allB p n && p n
theorem allB_iff {p : Nat → Bool} : ∀ {n : Nat}, allB p n = true ↔ ∀ k, k < n → p k = true
  | 0 => by simp [allB]
  | n + 1 => by
    unfold allB
    rw [Bool.and_eq_true, allB_iff]
    constructor
    · rintro ⟨h1, h2⟩ k hk
      by_cases e : k = n
      · subst e; exact h2
      · exact h1 k (by omega)
    · intro h
      exact ⟨fun k hk => h k (by omega), h n (by omega)⟩
theorem bs_and (f g : Nat → Bool) (n : Nat) : bs f n &&& bs g n = bs (fun k => f k && g k) n := by
  apply Nat.eq_of_testBit_eq
  intro k
  rw [Nat.testBit_and, bs_bit, bs_bit, bs_bit]
  cases decide (k < n) <;> simp
theorem q_m1n : (-1 : Int32) = nI 4294967295 := by decide
theorem an_not (a b : Nat) : nI a &&& (nI b ^^^ (-1)) = nI (a &&& (b ^^^ 4294967295)) := by rw [q_m1n, fb_xorI, fa_and]
theorem bs_not (f g : Nat → Bool) {n : Nat} (h : n ≤ 32) : bs f n &&& (bs g n ^^^ 4294967295) = bs (fun k => f k && !g k) n := by
  apply Nat.eq_of_testBit_eq
  intro k
  rw [Nat.testBit_and, Nat.testBit_xor, bs_bit, bs_bit, bs_bit, show 4294967295 = 2 ^ 32 - 1 from rfl, Nat.testBit_two_pow_sub_one]
  by_cases hk : k < n
  · have : k < 32 := by omega
    simp [hk, this]
  · simp [hk]
def opn (L : Fa → Bool) (A : AT) (t : Nat) : Nat := bs (fun p => decide (0 < aS A 0) && allB (fun h => L (fc A h p t)) (aS A 0)) 24
def drk (L : Fa → Bool) (A : AT) (t : Nat) : Nat := bs (fun p => allB (fun h => !L (fc A h p t)) (aS A 0)) 24
theorem q_24 : (16777215 : Int32) = nI (bs (fun _ => true) 24) := by decide +kernel
section OP
variable {V : VT} {i : Nat} {A : AT} {L : Fa → Bool}
theorem c_open (hC : CT V i A L) {t : Nat} (ht : t < 24) : ∃ V', fX5_openBits V i (nI t) = some (nI (opn L A t), V') ∧ Ly V V' := by
  have h8 := hC.2.1.1.1
  unfold fX5_openBits
  rw [hC.1.1.1]
  by_cases h0 : aS A 0 = 0
  · rw [h0, if_pos (show nI 0 = 0 from rfl)]
    obtain ⟨V', e, hR⟩ := lp (f := iX5_openBits_L17 i) (fun _ => 0) (fun V' a k => (V', nI t, nI a, nI k)) (fun V' a => (nI a, V')) (fun V' => Ly V V') 0 (by omega) Ly.rf (fun k V' hk => by omega)
      (by
        intro V' hR
        unfold iX5_openBits_L17 fX5_openBits_L17
        simp only []
        rw [(hC.ly hR).1.1.1, h0, if_pos (nI_le (Nat.le_refl _) (by omega))])
    have e : it_ (iX5_openBits_L17 i) FV (V, nI t, 0, 0) = _ := e
    rw [e, q_R]
    refine ⟨V', ?_, hR⟩
    have : opn L A t = 0 := (bs_0 _ _).2 (fun k _ => by simp [h0])
    rw [this]
  · rw [if_neg (nI_ne0 (by omega) (by omega))]
    obtain ⟨V', e, hR⟩ := lp (f := iX5_openBits_L17 i) (fun k => bs (fun p => allB (fun h => L (fc A h p t)) k) 24) (fun V' a k => (V', nI t, nI a, nI k)) (fun V' a => (nI a, V')) (fun V' => Ly V V') (aS A 0) (by omega) Ly.rf
      (by
        intro k V' hk hR
        have hC' := hC.ly hR
        obtain ⟨V2, e, hy⟩ := c_place hC' hk ht
        unfold iX5_openBits_L17 fX5_openBits_L17
        simp only []
        rw [hC'.1.1.1, if_neg (nI_ge hk (by omega)), e, q_I, q_lt, q_lt, nI_1, fa_and]
        refine ⟨V2, ?_, hR.tr hy⟩
        unfold plc
        rw [bs_and]; rfl)
      (by
        intro V' hR
        unfold iX5_openBits_L17 fX5_openBits_L17
        simp only []
        rw [(hC.ly hR).1.1.1, if_pos (nI_le (Nat.le_refl _) (by omega))])
    have e : it_ (iX5_openBits_L17 i) FV (V, nI t, nI (bs (fun _ => true) 24), 0) = _ := e
    rw [q_24, e, q_R]
    refine ⟨V', ?_, hR⟩
    congr 3
    exact bs_cong (fun k _ => by simp [show 0 < aS A 0 by omega])
theorem c_dark (hC : CT V i A L) {t : Nat} (ht : t < 24) : ∃ V', fX5_darkBits V i (nI t) = some (nI (drk L A t), V') ∧ Ly V V' := by
  have h8 := hC.2.1.1.1
  unfold fX5_darkBits
  obtain ⟨V', e, hR⟩ := lp (f := iX5_darkBits_L6 i) (fun k => bs (fun p => allB (fun h => !L (fc A h p t)) k) 24) (fun V' a k => (V', nI t, nI a, nI k)) (fun V' a => (nI a, V')) (fun V' => Ly V V') (aS A 0) (by omega) Ly.rf
    (by
      intro k V' hk hR
      have hC' := hC.ly hR
      obtain ⟨V2, e, hy⟩ := c_place hC' hk ht
      unfold iX5_darkBits_L6 fX5_darkBits_L6
      simp only []
      rw [hC'.1.1.1, if_neg (nI_ge hk (by omega)), e, q_I, q_lt, q_lt, nI_1, an_not]
      refine ⟨V2, ?_, hR.tr hy⟩
      unfold plc
      rw [bs_not _ _ (by omega)]; rfl)
    (by
      intro V' hR
      unfold iX5_darkBits_L6 fX5_darkBits_L6
      simp only []
      rw [(hC.ly hR).1.1.1, if_pos (nI_le (Nat.le_refl _) (by omega))])
  have e : it_ (iX5_darkBits_L6 i) FV (V, nI t, nI (bs (fun _ => true) 24), 0) = _ := e
  rw [q_24, e, q_R]
  exact ⟨V', rfl, hR⟩
theorem m_open (hC : MT V A L) {t : Nat} (ht : t < 24) (dk : Bool) : ∃ V', it_ iX10_open_L24 FV (V, nI t, bI dk, 0, 0) = some (nI (if dk then drk L A t else opn L A t), V') ∧ My V V' := by
  have h8 := hC.2.1.1.1
  obtain ⟨V', e, hR⟩ := lp (f := iX10_open_L24) (fun k => bs (fun p => if dk then allB (fun h => !L (fc A h p t)) (aS A 0) else (decide (0 < aS A 0) && allB (fun h => L (fc A h p t)) (aS A 0))) k) (fun V' a k => (V', nI t, bI dk, nI a, nI k)) (fun V' a => (nI a, V')) (fun V' => My V V') 24 (by omega) My.rf
    (by
      intro k V' hk hR
      have hC' := hC.y hR
      obtain ⟨V2, e, hy⟩ := m_seersNow hC' hk ht
      have hC2 := hC'.y hy
      unfold iX10_open_L24 fX10_open_L24
      simp only []
      rw [q_lit, if_neg (nI_ge hk (by omega)), e, q_I, m_houses hC2.1, q_R, m_allHouses hC2.1 hC2.2.1, q_R]
      refine ⟨V2, ?_, hR.tr hy⟩
      have j1 : ∀ (f : Nat → Bool) (u : Bool), u = f k → fX10_open_j78_24 V2 (nI t) (bI dk) (nI (bs f k)) (nI k) (bI u) = some (.inl (V2, nI t, bI dk, nI (bs f (k + 1)), nI (k + 1))) := by
        intro f u hu
        unfold fX10_open_j78_24
        cases u
        · rw [if_pos (show bI false = 0 from rfl), q_lt, q_lt, nI_1, bs_sf hu.symm, q_lit, q_or, Nat.or_zero]
        · rw [if_neg (show ¬ bI true = 0 by decide), q_lt, q_lt, nI_1, q_shl (by omega), bs_st hu.symm]
      cases dk
      · rw [if_pos (show bI false = 0 from rfl)]
        by_cases h0 : aS A 0 = 0
        · rw [h0, if_pos (show nI 0 ≤ 0 by decide)]
          exact j1 _ false (by simp [h0])
        · rw [if_neg (nI_nle (by omega) (by omega))]
          have hs := seer_lt (L := L) (p := k) (t := t) hC.2.1
          have hp : 2 ^ aS A 0 - 1 < 2 ^ 31 := by
            have := Nat.pow_le_pow_right (n := 2) (by omega) (show aS A 0 ≤ 8 from h8)
            omega
          by_cases hc : seer L A k t = 2 ^ aS A 0 - 1
          · rw [if_pos (by rw [hc])]
            refine j1 _ true ?_
            have := allB_iff.2 ((bs_all (fun h => L (fc A h k t)) (aS A 0)).1 hc)
            simp [this, show 0 < aS A 0 by omega]
          · rw [if_neg (fun e => hc ((nI_eq (by omega) hp).1 e))]
            refine j1 _ false ?_
            have : allB (fun h => L (fc A h k t)) (aS A 0) = false := nf (fun h => hc ((bs_all (fun h => L (fc A h k t)) (aS A 0)).2 (allB_iff.1 h)))
            simp [this]
      · rw [if_neg (show ¬ bI true = 0 by decide)]
        have hs := seer_lt (L := L) (p := k) (t := t) hC.2.1
        by_cases hc : seer L A k t = 0
        · rw [hc, if_pos (show nI 0 = 0 from rfl)]
          refine j1 _ true ?_
          have := (bs_0 (fun h => L (fc A h k t)) (aS A 0)).1 hc
          have : allB (fun h => !L (fc A h k t)) (aS A 0) = true := allB_iff.2 (fun h hh => by rw [this h hh]; rfl)
          simp [this]
        · rw [if_neg (nI_ne0 (by omega) (by omega))]
          refine j1 _ false ?_
          have : allB (fun h => !L (fc A h k t)) (aS A 0) = false := nf (fun h => hc ((bs_0 (fun h => L (fc A h k t)) (aS A 0)).2 (fun q hq => by have := allB_iff.1 h q hq; simpa using this)))
          simp [this])
    (by
      intro V' hR
      unfold iX10_open_L24 fX10_open_L24
      simp only []
      rw [q_lit, if_pos (nI_le (Nat.le_refl _) (by omega))])
  refine ⟨V', ?_, hR⟩
  have e : it_ iX10_open_L24 FV (V, nI t, bI dk, 0, 0) = _ := e
  rw [e]
  cases dk <;> rfl
/-- calls of one hour, or of one place, first -/
theorem op_open {cd : String → Int32} (hI : INV V) (h1 : cd IOOB = 1) (x1 : Int32) (dk : Bool) : OpE (fun V => fX9_open V x1 (bI dk)) (fun V => fX10_open V x1 (bI dk)) cd V := by
  obtain ⟨g, hC, hM⟩ := hI
  by_cases b1 : ix x1 24 = true
  · obtain ⟨t, ht, rfl⟩ := ix_t (by omega) b1
    refine op_q hC hM (nI (if dk then drk (xL g) (xA g) t else opn (xL g) (xA g) t)) ?_ ?_
    · show ∃ V1, fX9_open V (nI t) (bI dk) = _ ∧ _
      unfold fX9_open
      rw [n_hour, b1]
      simp only [if_true, q_N1]
      cases dk
      · obtain ⟨V1, e, hy⟩ := c_open hC.t ht
        rw [if_pos (show bI false = 0 from rfl), e, q_I]
        exact ⟨V1, rfl, hy.c⟩
      · obtain ⟨V1, e, hy⟩ := c_dark hC.t ht
        rw [if_neg (show ¬ bI true = 0 by decide), e, q_I]
        exact ⟨V1, rfl, hy.c⟩
    · intro V1 hM1
      apply m_ans
      have hT := hM1.t0
      obtain ⟨V2, e, hy⟩ := m_open hT ht dk
      refine ⟨V2, ?_, hy.q⟩
      show fX10_open V1 (nI t) (bI dk) = _
      unfold fX10_open
      rw [q_lt, t0_e, m_noHour, b1, q_R, show bI (!true) = 0 from rfl, m_thr0, q_I, if_pos rfl, e, q_R]
  · refine op_x hC hM IOOB ?_ (m_thr ⟨0, ?_⟩)
    · show fX9_open V _ _ = _
      unfold fX9_open
      rw [n_hour, nf b1]; rfl
    · show fX10_open V _ _ = _
      unfold fX10_open
      rw [q_lt, t0_e, m_noHour, nf b1, q_R, show bI (!false) = 1 from rfl, m_thr1, q_I, if_neg q_10, h1]
end OP
