/-! ===== unseen: rows of hours ===== -/
def rwN (z : Nat → Bool) : Nat → Nat
  | 0 => 0
  | i + 1 => if z i then rwN z i + 1 else 0
def lgN (z : Nat → Bool) : Nat → Nat
  | 0 => 0
  | i + 1 => max (lgN z i) (rwN z (i + 1))
def rlN (z : Nat → Bool) (f : Nat) : Nat := fa_first (fun j => !z (f + j)) 24
def mmN (z : Nat → Bool) : Nat → Nat
  | 0 => 0
  | f + 1 => max (mmN z f) (rlN z f)
theorem rwN_in (z : Nat → Bool) : ∀ i, rwN z i ≤ i ∧ ∀ j, i ≤ j + rwN z i → j < i → z j = true
  | 0 => ⟨Nat.le_refl _, fun j _ h => absurd h (Nat.not_lt_zero _)⟩
  | i + 1 => by
    obtain ⟨h1, h2⟩ := rwN_in z i
    cases hz : z i
    · have e : rwN z (i + 1) = 0 := by unfold rwN; rw [hz]; rfl
      rw [e]
      exact ⟨Nat.zero_le _, fun j a b => by omega⟩
    · have e : rwN z (i + 1) = rwN z i + 1 := by show (if z i = true then rwN z i + 1 else 0) = _; rw [if_pos hz]
      rw [e]
      refine ⟨by omega, fun j a b => ?_⟩
      by_cases hj : j = i
      · rw [hj]; exact hz
      · exact h2 j (by omega) (by omega)
theorem rwN_ge (z : Nat → Bool) : ∀ n i, n ≤ i → (∀ j, i ≤ j + n → j < i → z j = true) → n ≤ rwN z i
  | 0, i, _, _ => Nat.zero_le _
  | n + 1, 0, h, _ => by omega
  | n + 1, i + 1, h, hz => by
    have e : rwN z (i + 1) = rwN z i + 1 := by show (if z i = true then rwN z i + 1 else 0) = _; rw [if_pos (hz i (by omega) (by omega))]
    rw [e]
    have := rwN_ge z n i (by omega) (fun j a b => hz j (by omega) (by omega))
    omega
theorem lgN_in (z : Nat → Bool) : ∀ n, ∃ i, i ≤ n ∧ lgN z n = rwN z i
  | 0 => ⟨0, Nat.le_refl _, rfl⟩
  | n + 1 => by
    obtain ⟨i, h1, h2⟩ := lgN_in z n
    show ∃ i, i ≤ n + 1 ∧ max (lgN z n) (rwN z (n + 1)) = rwN z i
    rcases Nat.le_total (lgN z n) (rwN z (n + 1)) with h | h
    · exact ⟨n + 1, Nat.le_refl _, Nat.max_eq_right h⟩
    · exact ⟨i, by omega, (Nat.max_eq_left h).trans h2⟩
theorem lgN_ge (z : Nat → Bool) : ∀ n i, i ≤ n → rwN z i ≤ lgN z n
  | 0, i, h => by rw [show i = 0 by omega]; exact Nat.le_refl _
  | n + 1, i, h => by
    show rwN z i ≤ max (lgN z n) (rwN z (n + 1))
    by_cases e : i = n + 1
    · rw [e]; exact Nat.le_max_right _ _
    · exact Nat.le_trans (lgN_ge z n i (by omega)) (Nat.le_max_left _ _)
theorem mmN_in (z : Nat → Bool) : ∀ n, mmN z n = 0 ∨ ∃ f, f < n ∧ mmN z n = rlN z f
  | 0 => Or.inl rfl
  | n + 1 => by
    show max (mmN z n) (rlN z n) = 0 ∨ ∃ f, f < n + 1 ∧ max (mmN z n) (rlN z n) = rlN z f
    rcases Nat.le_total (mmN z n) (rlN z n) with h | h
    · exact Or.inr ⟨n, by omega, Nat.max_eq_right h⟩
    · rw [Nat.max_eq_left h]
      rcases mmN_in z n with e | ⟨f, h1, h2⟩
      · exact Or.inl e
      · exact Or.inr ⟨f, by omega, h2⟩
theorem mmN_ge (z : Nat → Bool) : ∀ n f, f < n → rlN z f ≤ mmN z n
  | 0, f, h => by omega
  | n + 1, f, h => by
    show rlN z f ≤ max (mmN z n) (rlN z n)
    by_cases e : f = n
    · rw [e]; exact Nat.le_max_right _ _
    · exact Nat.le_trans (mmN_ge z n f (by omega)) (Nat.le_max_left _ _)
theorem rlN_ge {z : Nat → Bool} {f n : Nat} (hn : n ≤ 24) (h : ∀ j, j < n → z (f + j) = true) : n ≤ rlN z f := by
  unfold rlN
  rcases Nat.lt_or_ge (fa_first (fun j => !z (f + j)) 24) n with h1 | h1
  · have h2 := fa_first_yes (fun j => !z (f + j)) 24 (by omega)
    simp only [h _ h1] at h2
    cases h2
  · exact h1
theorem rlN_in {z : Nat → Bool} {f j : Nat} (h : j < rlN z f) : z (f + j) = true := by
  have := fa_first_no (fun j => !z (f + j)) 24 j h
  cases hz : z (f + j)
  · simp [hz] at this
  · rfl
theorem rlN_le (z : Nat → Bool) (f : Nat) : rlN z f ≤ 24 := fa_first_le _ _
theorem mmN_le (z : Nat → Bool) (n : Nat) : mmN z n ≤ 24 := by
  rcases mmN_in z n with e | ⟨f, h1, h2⟩
  · omega
  · rw [h2]; exact rlN_le z f
theorem un_eq {z : Nat → Bool} (hz : ∀ a b, a % 24 = b % 24 → z a = z b) : min (lgN z 48) 24 = mmN z 24 := by
  apply Nat.le_antisymm
  · obtain ⟨i, h1, h2⟩ := lgN_in z 48
    obtain ⟨h3, h4⟩ := rwN_in z i
    rw [h2]
    have h5 : min (rwN z i) 24 ≤ rlN z ((i - rwN z i) % 24) := rlN_ge (Nat.min_le_right _ _) (fun j hj => by
      rw [hz _ (i - rwN z i + j) (by omega)]
      exact h4 _ (by omega) (by omega))
    exact Nat.le_trans h5 (mmN_ge z 24 _ (Nat.mod_lt _ (by omega)))
  · rcases mmN_in z 24 with e | ⟨f, h1, h2⟩
    · omega
    · have h3 := rlN_le z f
      have h4 : rlN z f ≤ rwN z (f + rlN z f) := rwN_ge z _ _ (by omega) (fun j a b => by
        have := rlN_in (z := z) (f := f) (j := j - f) (by omega)
        rw [show f + (j - f) = j by omega] at this
        exact this)
      have h5 := lgN_ge z 48 (f + rlN z f) (by omega)
      omega
section OP
variable {V : VT} {i : Nat} {A : AT} {L : Fa → Bool}
def uz (L : Fa → Bool) (A : AT) (p : Nat) (k : Nat) : Bool := decide (seer L A p (k % 24) = 0)
theorem lgN_le (z : Nat → Bool) (n : Nat) : lgN z n ≤ n := by
  obtain ⟨i, h1, h2⟩ := lgN_in z n
  have := (rwN_in z i).1
  omega
theorem q_mx {a b : Nat} (ha : a < 2 ^ 31) (hb : b < 2 ^ 31) : (if nI a < nI b then nI b else nI a) = nI (max a b) := by
  by_cases h : a < b
  · rw [if_pos (nI_lt h hb), Nat.max_eq_right (by omega)]
  · rw [if_neg (nI_nlt (by omega) ha), Nat.max_eq_left (by omega)]
theorem q_mi {a b : Nat} (ha : a < 2 ^ 31) (hb : b < 2 ^ 31) : (if nI a < nI b then nI a else nI b) = nI (min a b) := by
  by_cases h : a < b
  · rw [if_pos (nI_lt h hb), Nat.min_eq_left (by omega)]
  · rw [if_neg (nI_nlt (by omega) ha), Nat.min_eq_right (by omega)]
theorem q_m24 {k : Nat} (hk : k < 2 ^ 31) : nI k - nI k / 24 * 24 = nI (k % 24) := pk_rem hk (d := 24) (by omega) (by omega)
theorem c_unseen (hC : CT V i A L) {p : Nat} (hp : p < 24) : ∃ V', fX5_longestUnseen V i (nI p) = some (nI (min (lgN (uz L A p) 48) 24), V') ∧ Ly V V' := by
  unfold fX5_longestUnseen
  obtain ⟨V', e, hy⟩ := lp (f := iX5_longestUnseen_L8 i) (fun k => (lgN (uz L A p) k, rwN (uz L A p) k)) (fun V' a k => (V', nI p, nI a.1, nI a.2, nI k)) (fun V' a => (nI (min a.1 24), V')) (fun V' => Ly V V') 48 (by omega) Ly.rf
    (by
      intro k V' hk hR
      have hC' := hC.ly hR
      have hl := lgN_le (uz L A p) k
      have hr := (rwN_in (uz L A p) k).1
      obtain ⟨V2, e, hy⟩ := c_witness hC' hp (t := k % 24) (Nat.mod_lt _ (by omega))
      have hs := seer_lt (L := L) (p := p) (t := k % 24) hC.2.1
      unfold iX5_longestUnseen_L8 fX5_longestUnseen_L8
      simp only []
      rw [if_neg (show ¬ (48 : Int32) ≤ nI k from nI_ge (b := 48) hk (by omega)), q_m24 (by omega), e, q_I]
      refine ⟨V2, ?_, hR.tr hy⟩
      have hlg : lgN (uz L A p) (k + 1) = max (lgN (uz L A p) k) (rwN (uz L A p) (k + 1)) := rfl
      have hrw : rwN (uz L A p) (k + 1) = if uz L A p k = true then rwN (uz L A p) k + 1 else 0 := rfl
      by_cases hz : seer L A p (k % 24) = 0
      · have hu : uz L A p k = true := decide_eq_true hz
        rw [if_pos hu] at hrw
        rw [hz, if_pos (show nI 0 = 0 from rfl), nI_1, q_lt, q_mx (by omega) (by omega), q_lt, nI_1, q_lt, hlg, hrw]
      · have hu : ¬ uz L A p k = true := fun h => hz (of_decide_eq_true h)
        rw [if_neg hu] at hrw
        rw [if_neg (nI_ne0 (by omega) (by omega)), if_neg (nI_pos (by omega)), q_lt, nI_1, q_lt, hlg, hrw, Nat.max_eq_left (Nat.zero_le _)]
        rfl)
    (by
      intro V' hR
      have hl := lgN_le (uz L A p) 48
      unfold iX5_longestUnseen_L8 fX5_longestUnseen_L8
      simp only []
      rw [if_pos (show (48 : Int32) ≤ nI 48 from nI_le (Nat.le_refl _) (by omega))]
      have e : (if (24 : Int32) < nI (lgN (uz L A p) 48) then (24 : Int32) else nI (lgN (uz L A p) 48)) = nI (min 24 (lgN (uz L A p) 48)) := q_mi (a := 24) (by omega) (by omega)
      rw [e, Nat.min_comm])
  have e : it_ (iX5_longestUnseen_L8 i) FV (V, nI p, 0, 0, 0) = _ := e
  rw [e, q_R]
  exact ⟨V', rfl, hy⟩
theorem m_unseen (hC : MT V A L) {p : Nat} (hp : p < 24) : ∃ V', it_ iX10_unseen_L23 FV (V, nI p, 0, 0) = some (nI (mmN (uz L A p) 24), V') ∧ My V V' := by
  exact lp (f := iX10_unseen_L23) (fun k => mmN (uz L A p) k) (fun V' a k => (V', nI p, nI a, nI k)) (fun V' a => (nI a, V')) (fun V' => My V V') 24 (by omega) My.rf
    (by
      intro f V' hf hR
      have hm := mmN_le (uz L A p) f
      have hl := rlN_le (uz L A p) f
      unfold iX10_unseen_L23 fX10_unseen_L23
      simp only []
      rw [if_neg (show ¬ (24 : Int32) ≤ nI f from nI_ge (b := 24) hf (by omega))]
      obtain ⟨V2, e2, hy2⟩ := lpE (f := iX10_unseen_L32) (V := V') (fun _ => ()) (fun V' _ k => (V', nI p, nI (mmN (uz L A p) f), nI f, nI k)) (fun V' => (V', nI p, nI (mmN (uz L A p) f), nI f, nI (rlN (uz L A p) f)))
        (fun k V' => My V V' ∧ ∀ j, j < k → (!uz L A p (f + j)) = false) (fun V' => My V V') 24 (by omega) ⟨hR, fun j hj => absurd hj (Nat.not_lt_zero _)⟩
        (by
          rintro k V' hk ⟨hy, hno⟩
          have hC' := hC.y hy
          obtain ⟨V3, e3, hy3⟩ := m_seersNow hC' hp (t := (f + k) % 24) (Nat.mod_lt _ (by omega))
          have hs := seer_lt (L := L) (p := p) (t := (f + k) % 24) hC.2.1
          unfold iX10_unseen_L32 fX10_unseen_L32
          simp only []
          rw [if_neg (show ¬ (24 : Int32) ≤ nI k from nI_ge (b := 24) hk (by omega)), nI_add, q_m24 (by omega), e3, q_I]
          by_cases hz : seer L A p ((f + k) % 24) = 0
          · left
            have hu : uz L A p (f + k) = true := decide_eq_true hz
            rw [hz, if_pos (show nI 0 = 0 from rfl), q_lt, nI_1]
            refine ⟨V3, rfl, hy.tr hy3, fun j hj => ?_⟩
            by_cases e : j = k
            · rw [e, hu]; rfl
            · exact hno j (by omega)
          · right
            have hu : uz L A p (f + k) = false := decide_eq_false hz
            rw [if_neg (nI_ne0 (by omega) (by omega))]
            refine ⟨V3, ?_, hy.tr hy3⟩
            have : rlN (uz L A p) f = k := first_eq (p := fun j => !uz L A p (f + j)) hk (by simp [hu]) hno
            rw [this])
        (by
          rintro V' ⟨hy, hno⟩
          refine ⟨V', ?_, hy⟩
          unfold iX10_unseen_L32 fX10_unseen_L32
          simp only []
          rw [if_pos (show (24 : Int32) ≤ nI 24 from nI_le (Nat.le_refl _) (by omega))]
          have : rlN (uz L A p) f = 24 := first_none (p := fun j => !uz L A p (f + j)) hno
          rw [this])
      have e2 : it_ iX10_unseen_L32 FV (V', nI p, nI (mmN (uz L A p) f), nI f, 0) = _ := e2
      rw [e2, q_R]
      refine ⟨V2, ?_, hy2⟩
      simp only [dt5_]
      rw [q_mx (by omega) (by omega), q_lt, nI_1, q_lt]
      rfl)
    (by
      intro V' hR
      unfold iX10_unseen_L23 fX10_unseen_L23
      simp only []
      rw [if_pos (show (24 : Int32) ≤ nI 24 from nI_le (Nat.le_refl _) (by omega))])
theorem op_unseen {cd : String → Int32} (hI : INV V) (h1 : cd IOOB = 1) (x1 : Int32) : OpE (fun V => fX9_unseen V x1) (fun V => fX10_unseen V x1) cd V := by
  obtain ⟨g, hC, hM⟩ := hI
  by_cases b1 : ix x1 24 = true
  · obtain ⟨p, hp, rfl⟩ := ix_t (by omega) b1
    have hu := un_eq (z := uz (xL g) (xA g) p) (fun a b e => by unfold uz; rw [e])
    refine op_q hC hM (nI (mmN (uz (xL g) (xA g) p) 24)) ?_ ?_
    · obtain ⟨V1, e, hy⟩ := c_unseen hC.t hp
      refine ⟨V1, ?_, hy.c⟩
      show fX9_unseen V _ = _
      unfold fX9_unseen
      rw [n_place, b1, ← hu]
      simp only [if_true, q_N1]
      rw [e, q_I]
    · intro V1 hM1
      apply m_ans
      obtain ⟨V2, e, hy⟩ := m_unseen hM1.t0 hp
      refine ⟨V2, ?_, hy.q⟩
      show fX10_unseen V1 _ = _
      unfold fX10_unseen
      rw [q_lt, t0_e, m_noPlace, b1, q_R, show bI (!true) = 0 from rfl, m_thr0, q_I, if_pos rfl, e, q_R]
  · refine op_x hC hM IOOB ?_ (m_thr ⟨0, ?_⟩)
    · show fX9_unseen V _ = _
      unfold fX9_unseen
      rw [n_place, nf b1]; rfl
    · show fX10_unseen V _ = _
      unfold fX10_unseen
      rw [q_lt, t0_e, m_noPlace, nf b1, q_R, show bI (!false) = 1 from rfl, m_thr1, q_I, if_neg q_10, h1]
end OP
