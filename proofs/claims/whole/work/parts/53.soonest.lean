/-! ===== soonest ===== -/
noncomputable def snP (L : Fa → Bool) (f : Nat) (A : AT) (d k : Nat) : Bool := so (itN (calmD L f) k A) d
noncomputable def snF (L : Fa → Bool) (f : Nat) (A : AT) (d : Nat) : Nat := fa_first (snP L f A d) 41
noncomputable def snI (L : Fa → Bool) (f : Nat) (A : AT) (d : Nat) : Int32 := if snF L f A d < 41 then nI (snF L f A d) else -1
section OP
variable {V : VT} {A : AT} {L : Fa → Bool}
theorem snI_y {f d k : Nat} (hk : k < 41) (hp : snP L f A d k = true) (hn : ∀ j, j < k → snP L f A d j = false) : snI L f A d = nI k := by
  have : snF L f A d = k := first_eq hk hp hn
  unfold snI
  rw [this, if_pos hk]
theorem snI_n {f d : Nat} (hn : ∀ j, j < 41 → snP L f A d j = false) : snI L f A d = -1 := by
  have : snF L f A d = 41 := first_none hn
  unfold snI
  rw [this, if_neg (by omega)]
theorem c_soonest (hC : CT V 3 A L) {d f : Nat} (hd : d < aS A 1) (hf : f ≤ 9) : ∃ V', it_ iX9_soonest_L25 FV (V, nI d, nI f, 0) = some (.inr (snI L f A d), V') ∧ Cd 3 V V' := by
  have h1 := hC.2.1.1.2.1
  exact lpE (f := iX9_soonest_L25) (V := V) (fun _ => ()) (fun V' _ k => (V', nI d, nI f, nI k)) (fun V' => (.inr (snI L f A d), V'))
    (fun k V' => CT V' 3 (itN (calmD L f) k A) L ∧ Cd 3 V V' ∧ ∀ j, j < k → snP L f A d j = false)
    (fun V' => Cd 3 V V') 41 (by omega) ⟨hC, Cd.rf, fun j hj => absurd hj (Nat.not_lt_zero _)⟩
    (by
      rintro k V' hk ⟨hC', hy, hno⟩
      have s1 : aS (itN (calmD L f) k A) 1 = aS A 1 := calms_S (by omega) (by omega) (by omega) (by omega)
      unfold iX9_soonest_L25 fX9_soonest_L25
      simp only []
      rw [if_neg (show ¬ (40 : Int32) < nI k from nI_nlt (a := 40) (by omega) (by omega)), c_isSo hC'.1 hC'.2.1 (by rw [s1]; exact hd), q_R, q_ifb]
      cases hs : so (itN (calmD L f) k A) d
      · left
        rw [if_neg (by decide)]
        obtain ⟨V3, e3, hC3, hy3⟩ := c_passTold hC' hf
        rw [e3, q_R, q_lt, nI_1]
        refine ⟨V3, rfl, hC3, hy.tr hy3, fun j hj => ?_⟩
        by_cases e : j = k
        · rw [e]; exact hs
        · exact hno j (by omega)
      · right
        rw [if_pos rfl, snI_y hk hs hno]
        exact ⟨V', rfl, hy⟩)
    (by
      rintro V' ⟨hC', hy, hno⟩
      refine ⟨V', ?_, hy⟩
      unfold iX9_soonest_L25 fX9_soonest_L25
      simp only []
      rw [if_pos (show (40 : Int32) < nI 41 by decide), snI_n hno])
theorem m_soonestOf (hT : MT V A L) {d f : Nat} (hd : d < aS A 1) (hf : f ≤ 9) : ∃ V', fX10_soonestOf V (nI d) (nI f) = some (snI L f A d, V') ∧ Mk V V' := by
  have h1 := hT.2.1.1.2.1
  unfold fX10_soonestOf
  rw [m_isSo hT.1 hT.2.1 hd, q_R, q_ifb]
  cases hs : so A d
  · rw [if_neg (by decide)]
    obtain ⟨V4, e4, hk4, hT4⟩ := kp_keep hT
    rw [e4, q_R]
    obtain ⟨r, e, V', rfl, hm⟩ := it_forE (F := FV) (f := iX10_soonestOf_L19) 40 (fun k s => ∃ V', MT V' (itN (calmD L f) k A) L ∧ Kp V V' ∧ ((s = (V', nI d, nI f, -1, nI (k + 1)) ∧ ∀ j, j < k + 1 → snP L f A d j = false) ∨ (s = (V', nI d, nI f, nI k, nI (k + 1)) ∧ snP L f A d k = true ∧ ∀ j, j < k → snP L f A d j = false))) (fun r => ∃ V', r = (snI L f A d, V') ∧ Mk V V')
      (by
        rintro k s hk ⟨V', hC', hy, hcase⟩
        have s1 : aS (itN (calmD L f) (k + 1) A) 1 = aS A 1 := calms_S (by omega) (by omega) (by omega) (by omega)
        rcases hcase with ⟨rfl, hno⟩ | ⟨rfl, hyes, hno⟩
        · left
          unfold iX10_soonestOf_L19 fX10_soonestOf_L19
          simp only []
          rw [if_neg (show ¬ (40 : Int32) < nI (k + 1) from nI_nlt (a := 40) (by omega) (by omega)), if_neg (by decide)]
          obtain ⟨V3, e3, hC3, hy3⟩ := m_calmDay hC' hf
          have hC3 : MT V3 (itN (calmD L f) (k + 1) A) L := hC3
          rw [e3, q_R, m_isSo hC3.1 hC3.2.1 (by rw [s1]; exact hd), q_R, q_ifb]
          cases hs2 : so (itN (calmD L f) (k + 1) A) d
          · rw [if_neg (by decide), q_lt, nI_1]
            refine ⟨_, rfl, V3, hC3, hy.d hy3, Or.inl ⟨rfl, fun j hj => ?_⟩⟩
            by_cases e : j = k + 1
            · rw [e]; exact hs2
            · exact hno j (by omega)
          · rw [if_pos rfl, q_lt, nI_1]
            exact ⟨_, rfl, V3, hC3, hy.d hy3, Or.inr ⟨rfl, hs2, hno⟩⟩
        · right
          obtain ⟨V3, e3, -, hm3, -⟩ := kp_back hy hT
          unfold iX10_soonestOf_L19 fX10_soonestOf_L19
          simp only []
          rw [if_neg (show ¬ (40 : Int32) < nI (k + 1) from nI_nlt (a := 40) (by omega) (by omega)), if_pos (nI_pos' (by omega)), e3, q_R]
          exact ⟨_, rfl, V3, by rw [snI_y (by omega) hyes hno], hm3⟩)
      (by
        rintro s ⟨V', hC', hy, hcase⟩
        obtain ⟨V3, e3, -, hm3, -⟩ := kp_back hy hT
        rcases hcase with ⟨rfl, hno⟩ | ⟨rfl, hyes, hno⟩
        · unfold iX10_soonestOf_L19 fX10_soonestOf_L19
          simp only []
          rw [if_pos (show (40 : Int32) < nI (40 + 1) by decide), e3, q_R]
          exact ⟨_, rfl, V3, by rw [snI_n hno], hm3⟩
        · unfold iX10_soonestOf_L19 fX10_soonestOf_L19
          simp only []
          rw [if_pos (show (40 : Int32) < nI (40 + 1) by decide), e3, q_R]
          exact ⟨_, rfl, V3, by rw [snI_y (by omega) hyes hno], hm3⟩) (by have := FV_ge; omega) (s := (V4, nI d, nI f, -1, 1)) ⟨V4, hT4, hk4, Or.inl ⟨rfl, fun j hj => by rw [show j = 0 by omega]; exact hs⟩⟩
    rw [e, q_R]
    exact ⟨V', rfl, hm⟩
  · rw [if_pos rfl]
    refine ⟨V, ?_, Mk.rf⟩
    rw [snI_y (k := 0) (by omega) hs (fun j hj => absurd hj (Nat.not_lt_zero _))]
    rfl
theorem op_soonest {cd : String → Int32} (hI : INV V) (h1 : cd IOOB = 1) (h2 : cd IAE = 2) (x1 x2 : Int32) : OpE (fun V => fX9_soonest V x1 x2) (fun V => fX10_soonest V x1 x2) cd V := by
  obtain ⟨g, hC, hM⟩ := hI
  have h10 := hC.2.1.1.2.1
  by_cases b1 : ix x1 (aS (xA g) 1) = true
  · by_cases b2 : ix x2 10 = true
    · obtain ⟨d, hd, rfl⟩ := ix_t (by omega) b1
      obtain ⟨f, hf, rfl⟩ := ix_t (by omega) b2
      refine op_q hC hM (snI (xL g) f (xA g) d) ?_ ?_
      · obtain ⟨V6, e6, hC6, -, hs6⟩ := c_spare hC.t
        obtain ⟨V2, e2, hd2⟩ := c_soonest hC6 hd (f := f) (by omega)
        refine ⟨V2, ?_, hs6.tr hd2.cs⟩
        show fX9_soonest V _ _ = _
        unfold fX9_soonest
        rw [n_deed hC.1, b1, show (9 : Int32) = nI 9 from rfl, n_num _ (by omega), b2]
        simp only [if_true, q_N1]
        rw [e6, q_R, e2, q_R]
      · intro V1 hM1
        have hT := hM1.t0
        apply m_ansk
        obtain ⟨V2, e2, hd2⟩ := m_soonestOf hT hd (f := f) (by omega)
        refine ⟨V2, ?_, hd2⟩
        show fX10_soonest V1 _ _ = _
        unfold fX10_soonest
        rw [q_lt, t0_e, m_noDeed hT.1 hT.2.1, b1, q_R, show bI (!true) = 0 from rfl, m_thr0, q_I, if_pos rfl, m_noFog, b2, q_R, show bI (!true) = 0 from rfl, m_thr0, q_I, if_pos rfl, e2, q_I]
    · refine op_x hC hM IAE ?_ (m_thr ⟨0, ?_⟩)
      · show fX9_soonest V _ _ = _
        unfold fX9_soonest
        rw [n_deed hC.1, b1, show (9 : Int32) = nI 9 from rfl, n_num _ (by omega), nf b2]; rfl
      · have hT := hM.t0
        show fX10_soonest V _ _ = _
        unfold fX10_soonest
        rw [q_lt, t0_e, m_noDeed hT.1 hT.2.1, b1, q_R, show bI (!true) = 0 from rfl, m_thr0, q_I, if_pos rfl, m_noFog, nf b2, q_R, show bI (!false) = 1 from rfl, m_thr1, q_I, if_neg q_10, h2]
  · refine op_x hC hM IOOB ?_ (m_thr ⟨0, ?_⟩)
    · show fX9_soonest V _ _ = _
      unfold fX9_soonest
      rw [n_deed hC.1, nf b1]; rfl
    · have hT := hM.t0
      show fX10_soonest V _ _ = _
      unfold fX10_soonest
      rw [q_lt, t0_e, m_noDeed hT.1 hT.2.1, nf b1, q_R, show bI (!false) = 1 from rfl, m_thr1, q_I, if_neg q_10, h1]
/-! ===== later ===== -/
noncomputable def ltN (L : Fa → Bool) (f : Nat) (A : AT) : Nat → Nat
  | 0 => 0
  | k + 1 => if bs (so (itN (calmD L f) (k + 1) A)) (aS A 1) = bs (so (itN (calmD L f) k A)) (aS A 1) then ltN L f A k else k + 1
noncomputable def sN0 (L : Fa → Bool) (f : Nat) (A : AT) (d : Nat) : Nat := if snF L f A d < 41 then snF L f A d else 0
noncomputable def mxN (L : Fa → Bool) (f : Nat) (A : AT) : Nat → Nat
  | 0 => 0
  | d + 1 => max (mxN L f A d) (sN0 L f A d)
theorem ltN_s {f k : Nat} : ltN L f A (k + 1) = if bs (so (itN (calmD L f) (k + 1) A)) (aS A 1) = bs (so (itN (calmD L f) k A)) (aS A 1) then ltN L f A k else k + 1 := rfl
theorem if_le {c : Prop} [Decidable c] {a b n : Nat} (ha : a ≤ n) (hb : b ≤ n) : (if c then a else b) ≤ n := by split <;> assumption
theorem le_if {c : Prop} [Decidable c] {a b n : Nat} (ha : n ≤ a) (hb : n ≤ b) : n ≤ (if c then a else b) := by split <;> assumption
theorem ltN_le {f : Nat} (k : Nat) : ltN L f A k ≤ k := by
  induction k with
  | zero => exact Nat.le_refl _
  | succ k ih =>
    rw [ltN_s]
    exact if_le (Nat.le_succ_of_le ih) (Nat.le_refl _)
theorem ltN_mono {f m : Nat} (k : Nat) : m ≤ k → ltN L f A m ≤ ltN L f A k := by
  induction k with
  | zero => intro h; rw [show m = 0 by omega]; exact Nat.le_refl _
  | succ k ih =>
    intro h
    by_cases e : m = k + 1
    · rw [e]; exact Nat.le_refl _
    · have hmk : m ≤ k := by omega
      rw [ltN_s]
      exact le_if (ih hmk) (Nat.le_trans (ltN_le m) (Nat.le_succ_of_le hmk))
theorem ltN_in {f : Nat} (k : Nat) : ltN L f A k = 0 ∨ ∃ j, j < k ∧ ltN L f A k = j + 1 ∧ bs (so (itN (calmD L f) (j + 1) A)) (aS A 1) ≠ bs (so (itN (calmD L f) j A)) (aS A 1) := by
  induction k with
  | zero => exact Or.inl rfl
  | succ k ih =>
    rw [ltN_s]
    by_cases c : bs (so (itN (calmD L f) (k + 1) A)) (aS A 1) = bs (so (itN (calmD L f) k A)) (aS A 1)
    · rw [if_pos c]
      rcases ih with h | ⟨j, h1, h2, h3⟩
      · exact Or.inl h
      · exact Or.inr ⟨j, Nat.lt_succ_of_lt h1, h2, h3⟩
    · rw [if_neg c]
      exact Or.inr ⟨k, Nat.lt_succ_self k, rfl, c⟩
theorem mxN_ge {f d : Nat} : ∀ n, d < n → sN0 L f A d ≤ mxN L f A n
  | 0, h => by omega
  | n + 1, h => by
    show _ ≤ max (mxN L f A n) (sN0 L f A n)
    by_cases e : d = n
    · rw [e]; exact Nat.le_max_right _ _
    · exact Nat.le_trans (mxN_ge n (by omega)) (Nat.le_max_left _ _)
theorem mxN_in {f : Nat} : ∀ n, mxN L f A n = 0 ∨ ∃ d, d < n ∧ mxN L f A n = sN0 L f A d
  | 0 => Or.inl rfl
  | n + 1 => by
    show max (mxN L f A n) (sN0 L f A n) = 0 ∨ ∃ d, d < n + 1 ∧ max (mxN L f A n) (sN0 L f A n) = sN0 L f A d
    rcases Nat.le_total (mxN L f A n) (sN0 L f A n) with h | h
    · exact Or.inr ⟨n, by omega, Nat.max_eq_right h⟩
    · rw [Nat.max_eq_left h]
      rcases mxN_in n with e | ⟨d, h1, h2⟩
      · exact Or.inl e
      · exact Or.inr ⟨d, by omega, h2⟩
theorem bs_ne {f g : Nat → Bool} : ∀ {n : Nat}, bs f n ≠ bs g n → ∃ k, k < n ∧ f k ≠ g k
  | 0, h => absurd rfl h
  | n + 1, h => by
    by_cases c : bs f n = bs g n
    · refine ⟨n, by omega, fun e => h ?_⟩
      rw [bs_s, bs_s, c, e]
    · obtain ⟨k, h1, h2⟩ := bs_ne c
      exact ⟨k, by omega, h2⟩
theorem sN0_le {f d : Nat} : sN0 L f A d ≤ 40 := by
  unfold sN0
  split <;> omega
theorem mxN_le {f n : Nat} : mxN L f A n ≤ 40 := by
  rcases mxN_in (L := L) (A := A) (f := f) n with e | ⟨d, h1, h2⟩
  · omega
  · rw [h2]; exact sN0_le
theorem later_eq {f : Nat} : ltN L f A 40 = mxN L f A (aS A 1) := by
  apply Nat.le_antisymm
  · rcases ltN_in (L := L) (A := A) (f := f) 40 with h | ⟨j, h1, h2, h3⟩
    · rw [h]; exact Nat.zero_le _
    · obtain ⟨d, hd, hne⟩ := bs_ne h3
      have hyes : snP L f A d (j + 1) = true := by
        cases e1 : so (itN (calmD L f) (j + 1) A) d
        · cases e2 : so (itN (calmD L f) j A) d
          · rw [e1, e2] at hne; exact absurd rfl hne
          · have := calms_so (n := j + 1) (by omega) e2
            rw [e1] at this; cases this
        · exact e1
      have hno : ∀ q, q < j + 1 → snP L f A d q = false := by
        intro q hq
        cases e1 : snP L f A d q
        · rfl
        · have h5 : so (itN (calmD L f) j A) d = true := calms_so (m := q) (by omega) e1
          have h6 : so (itN (calmD L f) (j + 1) A) d = true := hyes
          rw [h5, h6] at hne; exact absurd rfl hne
      have hF : snF L f A d = j + 1 := first_eq (by omega) hyes hno
      have hs : sN0 L f A d = j + 1 := by unfold sN0; rw [hF, if_pos (by omega)]
      rw [h2, ← hs]
      exact mxN_ge _ hd
  · rcases mxN_in (L := L) (A := A) (f := f) (aS A 1) with h | ⟨d, h1, h2⟩
    · rw [h]; exact Nat.zero_le _
    · rw [h2]
      unfold sN0
      by_cases c : snF L f A d < 41
      · rw [if_pos c]
        have hy : snP L f A d (snF L f A d) = true := fa_first_yes _ _ c
        by_cases z : snF L f A d = 0
        · rw [z]; exact Nat.zero_le _
        · have hn : snP L f A d (snF L f A d - 1) = false := fa_first_no _ 41 _ (by show snF L f A d - 1 < snF L f A d; omega)
          generalize snF L f A d = n at *
          obtain ⟨m, rfl⟩ : ∃ m, n = m + 1 := ⟨n - 1, by omega⟩
          have hn : so (itN (calmD L f) m A) d = false := hn
          have hy : so (itN (calmD L f) (m + 1) A) d = true := hy
          have hne : bs (so (itN (calmD L f) (m + 1) A)) (aS A 1) ≠ bs (so (itN (calmD L f) m A)) (aS A 1) := by
            intro e
            have := congrArg (fun x => x.testBit d) e
            simp only [bs_bit, h1, decide_true, Bool.true_and] at this
            rw [hn, hy] at this
            cases this
          have e : ltN L f A (m + 1) = m + 1 := if_neg hne
          have := ltN_mono (L := L) (A := A) (f := f) (m := m + 1) 40 (by omega)
          omega
      · rw [if_neg c]; exact Nat.zero_le _
theorem c_later (hC : CT V 3 A L) {f : Nat} (hf : f ≤ 9) : ∃ V', it_ iX9_later_L22 FV (V, nI f, 0, 1) = some (.inr (nI (ltN L f A 40)), V') ∧ Cd 3 V V' := by
  have h1 := hC.2.1.1.2.1
  obtain ⟨V', e, -, h⟩ := lk (V := V) (f := iX9_later_L22) (fun k => ltN L f A k) (fun V' a k => (V', nI f, nI a, nI (k + 1))) (fun V' a => (.inr (nI a), V')) (fun k V' => CT V' 3 (itN (calmD L f) k A) L ∧ Cd 3 V V') 40 (by omega) ⟨hC, Cd.rf⟩
    (by
      rintro k V' hk ⟨hC', hy⟩
      have s1 : ∀ k, aS (itN (calmD L f) k A) 1 = aS A 1 := fun k => calms_S (by omega) (by omega) (by omega) (by omega)
      unfold iX9_later_L22 fX9_later_L22
      simp only []
      obtain ⟨V3, e3, hC3, hy3⟩ := c_passTold hC' hf
      have hC3 : CT V3 3 (itN (calmD L f) (k + 1) A) L := hC3
      rw [if_neg (show ¬ (40 : Int32) < nI (k + 1) from nI_nlt (a := 40) (by omega) (by omega)), q_lt, e3, q_R, hC3.1.1.2.2.2.2.1, hC'.1.1.2.2.2.2.1, s1, s1]
      refine ⟨V3, ?_, hC3, hy.tr hy3⟩
      have b1 := bs_1024 (so (itN (calmD L f) (k + 1) A)) h1
      have b2 := bs_1024 (so (itN (calmD L f) k A)) h1
      by_cases c : bs (so (itN (calmD L f) (k + 1) A)) (aS A 1) = bs (so (itN (calmD L f) k A)) (aS A 1)
      · rw [if_pos (by rw [c]), q_lt, nI_1, show ltN L f A (k + 1) = ltN L f A k from if_pos c]
      · rw [if_neg (fun e => c ((nI_eq (by omega) (by omega)).1 e)), q_lt, nI_1, show ltN L f A (k + 1) = k + 1 from if_neg c])
    (by
      rintro V' ⟨hC', hy⟩
      unfold iX9_later_L22 fX9_later_L22
      simp only []
      rw [if_pos (show (40 : Int32) < nI (40 + 1) by decide)])
  exact ⟨V', e, h⟩
theorem m_later (hC : MT V A L) {f : Nat} (hf : f ≤ 9) : ∃ V', it_ iX10_later_L23 FV (V, nI f, 0, 0) = some (nI (mxN L f A (aS A 1)), V') ∧ Mk V V' := by
  have h1 := hC.2.1.1.2.1
  exact lp (V := V) (f := iX10_later_L23) (fun k => mxN L f A k) (fun V' a k => (V', nI f, nI a, nI k)) (fun V' a => (nI a, V')) (fun V' => Mk V V') (aS A 1) (by omega) Mk.rf
    (by
      rintro k V' hk hy
      have hC' := hC.k hy
      unfold iX10_later_L23 fX10_later_L23
      simp only []
      obtain ⟨V3, e3, hy3⟩ := m_soonestOf hC' hk hf
      rw [m_deeds hC'.1, q_R, if_neg (nI_ge hk (by omega)), e3, q_I]
      refine ⟨V3, ?_, hy.tr hy3⟩
      have hm := mxN_le (L := L) (A := A) (f := f) (n := k)
      have em : mxN L f A (k + 1) = max (mxN L f A k) (sN0 L f A k) := rfl
      rw [em]
      unfold snI sN0
      by_cases c : snF L f A k < 41
      · rw [if_pos c, if_pos c, q_mx (by omega) (by omega), q_lt, nI_1, q_lt]
      · rw [if_neg c, if_neg c, if_neg (show ¬ nI (mxN L f A k) < -1 from fun h => by
          rw [fa_lt, nI_toInt (by omega)] at h
          have : (-1 : Int32).toInt = -1 := by decide
          omega), q_lt, nI_1, q_lt, Nat.max_eq_left (Nat.zero_le _)])
    (by
      rintro V' hy
      unfold iX10_later_L23 fX10_later_L23
      simp only []
      rw [m_deeds (hC.k hy).1, q_R, if_pos (nI_le (Nat.le_refl _) (by omega))])
theorem op_later {cd : String → Int32} (hI : INV V) (h1 : cd IAE = 1) (x1 : Int32) : OpE (fun V => fX9_later V x1) (fun V => fX10_later V x1) cd V := by
  obtain ⟨g, hC, hM⟩ := hI
  by_cases b1 : ix x1 10 = true
  · obtain ⟨f, hf, rfl⟩ := ix_t (by omega) b1
    refine op_q hC hM (nI (ltN (xL g) f (xA g) 40)) ?_ ?_
    · obtain ⟨V6, e6, hC6, -, hs6⟩ := c_spare hC.t
      obtain ⟨V2, e2, hd2⟩ := c_later hC6 (f := f) (by omega)
      refine ⟨V2, ?_, hs6.tr hd2.cs⟩
      show fX9_later V _ = _
      unfold fX9_later
      rw [show (9 : Int32) = nI 9 from rfl, n_num _ (by omega), b1]
      simp only [if_true, q_N1]
      rw [e6, q_R, e2, q_R]
    · intro V1 hM1
      have hT := hM1.t0
      apply m_ansk
      obtain ⟨V2, e2, hd2⟩ := m_later hT (f := f) (by omega)
      rw [← later_eq] at e2
      refine ⟨V2, ?_, hd2⟩
      show fX10_later V1 _ = _
      unfold fX10_later
      rw [q_lt, t0_e, m_noFog, b1, q_R, show bI (!true) = 0 from rfl, m_thr0, q_I, if_pos rfl, e2, q_R]
  · refine op_x hC hM IAE ?_ (m_thr ⟨0, ?_⟩)
    · show fX9_later V _ = _
      unfold fX9_later
      rw [show (9 : Int32) = nI 9 from rfl, n_num _ (by omega), nf b1]; rfl
    · show fX10_later V _ = _
      unfold fX10_later
      rw [q_lt, t0_e, m_noFog, nf b1, q_R, show bI (!false) = 1 from rfl, m_thr1, q_I, if_neg q_10, h1]
end OP
