/-! ===== trials and spans ===== -/
section OP
variable {V : VT} {A : AT} {L : Fa → Bool}
theorem pZ_self : pZ A (aZ A) = A := rfl
theorem c_tryDays (hC : CT V 2 A L) {n : Nat} (hn : n ≤ 40) (z : Int32) : ∃ V', fX9_tryDays V (nI n) z = some (nI (aS (itN (drawD L) n (pZ A z)) 7 - aS A 7), V') ∧ CT V' 3 (itN (drawD L) n (pZ A z)) L ∧ Cs V V' := by
  unfold fX9_tryDays
  obtain ⟨V2, e2, hC2, hC22, hs2⟩ := c_spare hC
  rw [e2, q_R, q_lt]
  have hd3 : Cd 3 V2 (va_up V2 3 (upd (V2 3) 11 z)) := Cd.u (by omega) (Or.inl rfl)
  have hC3 := hC2.d hd3 (hC2.1.seed (by omega) z) (hC2.2.1.seed z)
  generalize va_up V2 3 (upd (V2 3) 11 z) = V3 at hd3 hC3 ⊢
  obtain ⟨V4, e4, hC4, hd4⟩ := lk (V := V3) (f := iX9_tryDays_L21) (fun _ => ()) (fun V' _ k => (V', nI n, nI k)) (fun V' _ => (nI (aS (itN (drawD L) n (pZ A z)) 7 - aS A 7), V')) (fun k V' => CT V' 3 (itN (drawD L) k (pZ A z)) L ∧ Cd 3 V2 V') n (by omega) ⟨hC3, hd3⟩
    (by
      rintro k V' hk ⟨hC', hy⟩
      unfold iX9_tryDays_L21 fX9_tryDays_L21
      simp only []
      rw [if_neg (nI_ge hk (by omega))]
      obtain ⟨V5, e5, hC5, hy5⟩ := c_pass hC'
      rw [e5, q_R, q_lt, nI_1]
      exact ⟨V5, rfl, hC5, hy.tr hy5⟩)
    (by
      rintro V' ⟨hC', hy⟩
      have hC'2 := hC22.two hy.cs
      have h7 : aS (pZ A z) 7 ≤ aS (itN (drawD L) n (pZ A z)) 7 := draws_7
      rw [pZ_S] at h7
      unfold iX9_tryDays_L21 fX9_tryDays_L21
      simp only []
      rw [if_pos (nI_le (Nat.le_refl _) (by omega)), hC'.1.1.2.2.2.2.2.2.2.2.2, hC'2.1.1.2.2.2.2.2.2.2.2.2, pk_sub h7])
  have e4 : it_ iX9_tryDays_L21 FV (V3, nI n, 0) = _ := e4
  rw [e4, q_R]
  exact ⟨V4, rfl, hC4, hs2.tr hd4.cs⟩
theorem op_trial {cd : String → Int32} (hI : INV V) (h1 : cd IAE = 1) (x1 : Int32) (w : Bool) : OpE (fun V => fX9_trial V x1 (bI w)) (fun V => fX10_trial V x1 (bI w)) cd V := by
  obtain ⟨g, hC, hM⟩ := hI
  by_cases b1 : ix x1 41 = true
  · obtain ⟨n, hn, rfl⟩ := ix_t (by omega) b1
    have hS1 : aS (itN (drawD (xL g)) n (xA g)) 1 = aS (xA g) 1 := draws_S (by omega) (by omega) (by omega) (by omega)
    have h7 : aS (xA g) 7 ≤ aS (itN (drawD (xL g)) n (xA g)) 7 := draws_7
    refine op_q hC hM (if w then nI (aS (itN (drawD (xL g)) n (xA g)) 7 - aS (xA g) 7) else nI (bs (so (itN (drawD (xL g)) n (xA g))) (aS (xA g) 1))) ?_ ?_
    · obtain ⟨V2, e2, hC2, hs2⟩ := c_tryDays hC.t (n := n) (by omega) (aZ (xA g))
      rw [pZ_self] at e2 hC2
      refine ⟨V2, ?_, hs2⟩
      show fX9_trial V _ _ = _
      unfold fX9_trial
      rw [show (40 : Int32) = nI 40 from rfl, n_num _ (by omega), b1, hC.1.1.2.2.2.2.2.2.2.2.1]
      simp only [if_true, q_N1]
      rw [e2, q_I, q_ifb, hC2.1.1.2.2.2.2.1, hS1]
      cases w <;> rfl
    · intro V1 hM1
      have hT := hM1.t0
      apply m_ansk
      obtain ⟨V8, e8, hk8, hT8⟩ := kp_keep hT
      obtain ⟨V9, e9, hT9, hk9⟩ := lk (V := V8) (f := iX10_trial_L36) (fun _ => ()) (fun V' _ k => (V', nI n, bI w, nI k)) (fun V' _ => (V', bI w)) (fun k V' => MT V' (itN (drawD (xL g)) k (xA g)) (xL g) ∧ Kp (t0 V1) V') n (by omega) ⟨hT8, hk8⟩
        (by
          rintro k V' hk ⟨hC', hy⟩
          unfold iX10_trial_L36 fX10_trial_L36
          simp only []
          rw [if_neg (nI_ge hk (by omega))]
          obtain ⟨V5, e5, hC5, hy5⟩ := m_drawnDay hC'
          rw [e5, q_R, q_lt, nI_1]
          exact ⟨V5, rfl, hC5, hy.d hy5⟩)
        (by
          rintro V' ⟨hC', hy⟩
          unfold iX10_trial_L36 fX10_trial_L36
          simp only []
          rw [if_pos (nI_le (Nat.le_refl _) (by omega))])
      have e9 : it_ iX10_trial_L36 FV (V8, nI n, bI w, 0) = _ := e9
      obtain ⟨V10, e10, -, hm10, -⟩ := kp_back hk9 hT
      refine ⟨V10, ?_, hm10⟩
      show fX10_trial V1 _ _ = _
      unfold fX10_trial
      rw [q_lt, t0_e, show (40 : Int32) = nI 40 from rfl, m_ix1 _ (by omega), b1, q_R, if_neg (show ¬ bI true = 0 by decide)]
      unfold fX10_trial_j21
      rw [m_thr0, q_I, if_pos rfl, e8, q_R, e9, q_R]
      simp only [dt2_]
      have hso := m_soOnes hT9
      rw [hS1] at hso
      have w7 : V9 76 7 = nI (aS (itN (drawD (xL g)) n (xA g)) 7) := hT9.1.1 7 (by omega)
      have t7 : V9 79 7 = nI (aS (xA g) 7) := (hk9.1 7 (by omega)).trans (hT.1.1 7 (by omega))
      rw [hso, q_R, e10, q_R, q_rdl (by omega) (by omega), q_rdl (by omega) (by omega), q_cl (by omega)]
      rw [show V9 76 (OfNat.ofNat 7) = _ from w7, show V9 79 (OfNat.ofNat 7) = _ from t7, pk_sub h7, q_lt, q_R, q_ifb]
      cases w <;> rfl
  · refine op_x hC hM IAE ?_ (m_thr ⟨0, ?_⟩)
    · show fX9_trial V _ _ = _
      unfold fX9_trial
      rw [show (40 : Int32) = nI 40 from rfl, n_num _ (by omega), nf b1]; rfl
    · show fX10_trial V _ _ = _
      unfold fX10_trial
      rw [q_lt, t0_e, show (40 : Int32) = nI 40 from rfl, m_ix1 _ (by omega), nf b1, q_R, if_pos (show bI false = 0 from rfl)]
      unfold fX10_trial_j21
      rw [m_thr1, q_I, if_neg q_10, h1]
noncomputable def spW (L : Fa → Bool) (A : AT) (n s : Nat) : Nat := aS (itN (drawD L) n (pZ A (nI s))) 7 - aS A 7
noncomputable def spF (L : Fa → Bool) (A : AT) (n : Nat) (m : Bool) : Nat → Nat
  | 0 => spW L A n 1
  | k + 1 => if m then max (spF L A n m k) (spW L A n (k + 2)) else min (spF L A n m k) (spW L A n (k + 2))
theorem spW_le (hW : WA A) {n s : Nat} : spW L A n s ≤ 80 := by
  have := WA_w ((hW.seed (nI s)).draws (L := L) n)
  unfold spW
  omega
theorem spF_le (hW : WA A) {n : Nat} {m : Bool} : ∀ k, spF L A n m k ≤ 80
  | 0 => spW_le hW
  | k + 1 => by
    have h1 : spF L A n m k ≤ 80 := spF_le hW k
    have h2 := spW_le (L := L) hW (n := n) (s := k + 2)
    unfold spF
    split <;> omega
theorem c_span (hC : CT V 2 A L) {n : Nat} (hn : n ≤ 40) (m : Bool) : ∃ V', (ob_I (fX9_tryDays V (nI n) 1) fun y4 V5 => ob_R (it_ (iX9_span_L17) FV (V5, nI n, bI m, y4, (2 : Int32))) fun x16 => some x16) = some (.inr (nI (spF L A n m 5)), V') ∧ Cs V V' := by
  obtain ⟨V5, e5, -, hs5⟩ := c_tryDays hC hn (nI 1)
  have e5 : fX9_tryDays V (nI n) 1 = some (nI (spW L A n 1), V5) := e5
  rw [e5, q_I]
  obtain ⟨V6, e6, hs6⟩ := lp (V := V5) (f := iX9_span_L17) (fun k => spF L A n m k) (fun V' a k => (V', nI n, bI m, nI a, nI (k + 2))) (fun V' a => (.inr (nI a), V')) (fun V' => Cs V V') 5 (by omega) hs5
    (by
      intro k V' hk hy
      obtain ⟨V7, e7, -, hs7⟩ := c_tryDays (hC.two hy) hn (nI (k + 2))
      have e7 : fX9_tryDays V' (nI n) (nI (k + 2)) = some (nI (spW L A n (k + 2)), V7) := e7
      have h1 := spF_le (L := L) hC.2.1 (n := n) (m := m) k
      have h2 := spW_le (L := L) hC.2.1 (n := n) (s := k + 2)
      unfold iX9_span_L17 fX9_span_L17
      simp only []
      rw [if_neg (show ¬ (6 : Int32) < nI (k + 2) from nI_nlt (a := 6) (by omega) (by omega)), e7, q_I, q_ifb, q_mx (by omega) (by omega), q_mi (by omega) (by omega), Nat.min_comm]
      refine ⟨V7, ?_, hy.tr hs7⟩
      cases m
      · rw [if_neg (by decide), q_lt, nI_1, q_lt]; rfl
      · rw [if_pos rfl, q_lt, nI_1, q_lt]; rfl)
    (by
      intro V' hy
      unfold iX9_span_L17 fX9_span_L17
      simp only []
      rw [if_pos (show (6 : Int32) < nI (5 + 2) by decide)])
  have e6 : it_ iX9_span_L17 FV (V5, nI n, bI m, nI (spW L A n 1), 2) = _ := e6
  rw [e6, q_R]
  exact ⟨V6, rfl, hs6⟩
/-- a span's seed tried by the model -/
theorem m_spW (hT : MT V A L) {V1 : VT} (hk : Kp V V1) (hT1 : MT V1 A L) {n s : Nat} (hn : n ≤ 40) (u2 u3 : Int32) : ∃ V', it_ iX10_span_L58 FV (va_up V1 76 (upd (V1 76) 9 (nI s)), nI n, u2, u3, nI s, 0) = some (V', nI n, u2, u3, nI s) ∧ V' 76 7 = nI (aS (itN (drawD L) n (pZ A (nI s))) 7) ∧ Kp V V' := by
  have hd : Md V1 (va_up V1 76 (upd (V1 76) 9 (nI s))) := Md.u (by omega)
  have hT2 : MT (va_up V1 76 (upd (V1 76) 9 (nI s))) (pZ A (nI s)) L := hT1.d hd (by rw [va_s]; exact hT1.1.z _) (hT1.2.1.seed _) rfl
  obtain ⟨V', e, h1, h2⟩ := lk (V := va_up V1 76 (upd (V1 76) 9 (nI s))) (f := iX10_span_L58) (fun _ => ()) (fun V' _ k => (V', nI n, u2, u3, nI s, nI k)) (fun V' _ => (V', nI n, u2, u3, nI s)) (fun k V' => MT V' (itN (drawD L) k (pZ A (nI s))) L ∧ Kp V V') n (by omega) ⟨hT2, hk.d hd⟩
    (by
      rintro k V' hk ⟨hC', hy⟩
      unfold iX10_span_L58 fX10_span_L58
      simp only []
      rw [if_neg (nI_ge hk (by omega))]
      obtain ⟨V5, e5, hC5, hy5⟩ := m_drawnDay hC'
      rw [e5, q_R, q_lt, nI_1]
      exact ⟨V5, rfl, hC5, hy.d hy5⟩)
    (by
      rintro V' ⟨hC', hy⟩
      unfold iX10_span_L58 fX10_span_L58
      simp only []
      rw [if_pos (nI_le (Nat.le_refl _) (by omega))])
  exact ⟨V', e, h1.1.1 7 (by omega), h2⟩
theorem m_span (hT : MT V A L) {n : Nat} (hn : n ≤ 40) (m : Bool) : ∃ V', (ob_R (fX10_keepsAll V) fun V8 => ob_R (it_ (iX10_span_L39) FV (V8, nI n, bI m, (-1 : Int32), (1 : Int32))) fun x36 => some x36) = some (nI (spF L A n m 5), V') ∧ Mk V V' := by
  obtain ⟨V8, e8, hk8, hT8⟩ := kp_keep hT
  rw [e8, q_R]
  obtain ⟨r, e, V', rfl, hm⟩ := it_for (F := FV) (f := iX10_span_L39) 6 (fun k s => ∃ V', s = (V', nI n, bI m, (if k = 0 then -1 else nI (spF L A n m (k - 1))), nI (k + 1)) ∧ Kp V V' ∧ MT V' A L ∧ (k ≠ 0 → Mk V V')) (fun r => ∃ V', r = (nI (spF L A n m 5), V') ∧ Mk V V')
    (by
      rintro k s hk ⟨V', rfl, hkp, hT', -⟩
      obtain ⟨V2, e2, w7, hk2⟩ := m_spW (s := k + 1) hT hkp hT' hn (bI m) (if k = 0 then -1 else nI (spF L A n m (k - 1)))
      have t7 : V2 79 7 = nI (aS A 7) := (hk2.1 7 (by omega)).trans (hT.1.1 7 (by omega))
      obtain ⟨V3, e3, hk3, hm3, hT3⟩ := kp_back hk2 hT
      have h7 : aS A 7 ≤ aS (itN (drawD L) n (pZ A (nI (k + 1)))) 7 := by
        have : aS (pZ A (nI (k + 1))) 7 ≤ aS (itN (drawD L) n (pZ A (nI (k + 1)))) 7 := draws_7
        rw [pZ_S] at this
        exact this
      have h1 := spF_le (L := L) hT.2.1 (n := n) (m := m) (k - 1)
      have h2 := spW_le (L := L) hT.2.1 (n := n) (s := k + 1)
      unfold iX10_span_L39 fX10_span_L39
      simp only []
      rw [if_neg (show ¬ (6 : Int32) < nI (k + 1) from nI_nlt (a := 6) (by omega) (by omega)), q_rdl (by omega) (by omega), q_cl (by omega), q_lt]
      have e2 : it_ iX10_span_L58 FV (va_up V' 76 (upd (V' 76) (OfNat.ofNat 9) (nI (k + 1))), nI n, bI m, (if k = 0 then -1 else nI (spF L A n m (k - 1))), nI (k + 1), 0) = _ := e2
      rw [e2, q_R]
      simp only [dt5_]
      rw [q_rdl (by omega) (by omega), q_rdl (by omega) (by omega), q_cl (by omega), show V2 76 (OfNat.ofNat 7) = _ from w7, show V2 79 (OfNat.ofNat 7) = _ from t7, pk_sub h7, q_lt, e3, q_R]
      have ew : aS (itN (drawD L) n (pZ A (nI (k + 1)))) 7 - aS A 7 = spW L A n (k + 1) := rfl
      rw [ew]
      by_cases k0 : k = 0
      · subst k0
        rw [if_pos rfl, if_neg (by decide), q_lt, nI_1]
        exact ⟨_, rfl, V3, rfl, hk3, hT3, fun _ => hm3⟩
      · rw [if_neg k0, if_pos (nI_pos' (by omega)), q_mx (by omega) (by omega), q_mi (by omega) (by omega), q_ifb]
        refine ⟨_, ?_, V3, rfl, hk3, hT3, fun _ => hm3⟩
        obtain ⟨j, rfl⟩ : ∃ j, k = j + 1 := ⟨k - 1, by omega⟩
        rw [if_neg (show ¬ j + 1 + 1 = 0 by omega)]
        show _ = some (Sum.inl (V3, nI n, bI m, nI (spF L A n m (j + 1)), nI (j + 1 + 1 + 1)))
        cases m
        · rw [if_neg (by decide), q_lt, nI_1, q_lt, Nat.min_comm]; rfl
        · rw [if_pos rfl, q_lt, nI_1, q_lt]; rfl)
    (by
      rintro s ⟨V', rfl, hkp, hT', hmk⟩
      unfold iX10_span_L39 fX10_span_L39
      simp only []
      rw [if_pos (show (6 : Int32) < nI (6 + 1) by decide)]
      exact ⟨_, rfl, V', rfl, hmk (by omega)⟩) (by have := FV_ge; omega) (s := (V8, nI n, bI m, -1, 1)) ⟨V8, rfl, hk8, hT8, fun h => absurd rfl h⟩
  rw [e, q_R]
  exact ⟨V', rfl, hm⟩
theorem op_span {cd : String → Int32} (hI : INV V) (h1 : cd IAE = 1) (x1 : Int32) (m : Bool) : OpE (fun V => fX9_span V x1 (bI m)) (fun V => fX10_span V x1 (bI m)) cd V := by
  obtain ⟨g, hC, hM⟩ := hI
  by_cases b1 : ix x1 41 = true
  · obtain ⟨n, hn, rfl⟩ := ix_t (by omega) b1
    refine op_q hC hM (nI (spF (xL g) (xA g) n m 5)) ?_ ?_
    · obtain ⟨V2, e2, hs2⟩ := c_span hC.t (n := n) (by omega) m
      refine ⟨V2, ?_, hs2⟩
      show fX9_span V _ _ = _
      unfold fX9_span
      rw [show (40 : Int32) = nI 40 from rfl, n_num _ (by omega), b1]
      simp only [if_true, q_N1]
      exact e2
    · intro V1 hM1
      have hT := hM1.t0
      apply m_ansk
      obtain ⟨V2, e2, hs2⟩ := m_span hT (n := n) (by omega) m
      refine ⟨V2, ?_, hs2⟩
      show fX10_span V1 _ _ = _
      unfold fX10_span
      rw [q_lt, t0_e, show (40 : Int32) = nI 40 from rfl, m_ix1 _ (by omega), b1, q_R, if_neg (show ¬ bI true = 0 by decide)]
      unfold fX10_span_j21
      rw [m_thr0, q_I, if_pos rfl]
      exact e2
  · refine op_x hC hM IAE ?_ (m_thr ⟨0, ?_⟩)
    · show fX9_span V _ _ = _
      unfold fX9_span
      rw [show (40 : Int32) = nI 40 from rfl, n_num _ (by omega), nf b1]; rfl
    · show fX10_span V _ _ = _
      unfold fX10_span
      rw [q_lt, t0_e, show (40 : Int32) = nI 40 from rfl, m_ix1 _ (by omega), nf b1, q_R, if_pos (show bI false = 0 from rfl)]
      unfold fX10_span_j21
      rw [m_thr1, q_I, if_neg q_10, h1]
end OP
