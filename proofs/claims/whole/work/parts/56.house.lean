/-! ===== house ===== -/
section OP
variable {V : VT} {i : Nat} {A : AT} {L : Fa → Bool}
theorem c_leftEnd (hR : RS V i A) (hW : WA A) {h : Nat} (hh : h < aS A 0) : fX6_leftEnd V i (nI h) = some (nI (aH A h 1 - aH A h 6)) := by
  have hb := hW.2.1 h hh
  unfold fX6_leftEnd
  have e1 : fX6_ofHouse V i (nI h) 1 = some (nI (aH A h 1)) := c_ofHouse hR hW hh (k := 1) (by omega)
  have e6 : fX6_ofHouse V i (nI h) 6 = some (nI (aH A h 6)) := c_ofHouse hR hW hh (k := 6) (by omega)
  rw [e1, q_R, e6, q_R]
  by_cases hc : aH A h 1 ≤ aH A h 6
  · have : ¬ (0 : Int32) < nI (aH A h 1) - nI (aH A h 6) := by
      rw [fa_lt, pk_sub_toInt (by omega) (by omega)]
      have : (0 : Int32).toInt = 0 := by decide
      omega
    rw [if_neg this, show aH A h 1 - aH A h 6 = 0 by omega]; rfl
  · rw [pk_sub (by omega), if_pos (show (0 : Int32) < nI (aH A h 1 - aH A h 6) from nI_lt (a := 0) (b := aH A h 1 - aH A h 6) (by omega) (by omega))]
theorem c_rightEnd (hR : RS V i A) (hW : WA A) {h : Nat} (hh : h < aS A 0) : fX6_rightEnd V i (nI h) = some (nI (min 23 (aH A h 2 + aH A h 6))) := by
  have hb := hW.2.1 h hh
  unfold fX6_rightEnd
  have e1 : fX6_ofHouse V i (nI h) 2 = some (nI (aH A h 2)) := c_ofHouse hR hW hh (k := 2) (by omega)
  have e6 : fX6_ofHouse V i (nI h) 6 = some (nI (aH A h 6)) := c_ofHouse hR hW hh (k := 6) (by omega)
  rw [e1, q_R, e6, q_R, nI_add]
  have e : (if nI (aH A h 2 + aH A h 6) < (23 : Int32) then nI (aH A h 2 + aH A h 6) else (23 : Int32)) = nI (min (aH A h 2 + aH A h 6) 23) := q_mi (b := 23) (by omega) (by omega)
  rw [e, Nat.min_comm]
/-- how many sights a house has, over all places and hours -/
def sg1 (L : Fa → Bool) (A : AT) (h t : Nat) : Nat := fb_ct (fun p => L (fc A h p t)) 24
theorem plc_ct {h t : Nat} : fb_ct (plc L A h t).testBit 24 = sg1 L A h t := fb_ct_cong (fun p hp => by unfold plc; rw [bs_bit]; simp [hp])
theorem c_sights (hC : CT V i A L) {h : Nat} (hh : h < aS A 0) : ∃ V', fX5_sightsOf V i (nI h) = some (nI (fb_sm (sg1 L A h) 24), V') ∧ Ly V V' := by
  unfold fX5_sightsOf
  obtain ⟨V', e, hR⟩ := lp (f := iX5_sightsOf_L5 i) (fun k => fb_sm (sg1 L A h) k) (fun V' a k => (V', nI h, nI a, nI k)) (fun V' a => (nI a, V')) (fun V' => Ly V V') 24 (by omega) Ly.rf
    (by
      intro k V' hk hR
      obtain ⟨V2, e, hy⟩ := c_place (hC.ly hR) hh hk
      unfold iX5_sightsOf_L5 fX5_sightsOf_L5
      simp only []
      rw [if_neg (show ¬ (24 : Int32) ≤ nI k from nI_ge (b := 24) hk (by omega)), e, q_I, bc_e, q_R, bc_24 plc_lt, plc_ct, nI_add, q_lt, nI_1, q_lt]
      exact ⟨V2, rfl, hR.tr hy⟩)
    (by
      intro V' hR
      unfold iX5_sightsOf_L5 fX5_sightsOf_L5
      simp only []
      rw [if_pos (show (24 : Int32) ≤ nI 24 from nI_le (Nat.le_refl _) (by omega))])
  have e : it_ (iX5_sightsOf_L5 i) FV (V, nI h, 0, 0) = _ := e
  rw [e, q_R]
  exact ⟨V', rfl, hR⟩
/-- a square of truths counted by rows and by columns -/
theorem ct_swap (f : Nat → Nat → Bool) (n : Nat) : ∀ m, fb_sm (fun a => fb_ct (fun b => f a b) n) m = fb_sm (fun b => fb_ct (fun a => f a b) m) n
  | 0 => by
    have : (fun b => fb_ct (fun a => f a b) 0) = fun _ => 0 := rfl
    rw [this, fb_sm_const]; rfl
  | m + 1 => by
    rw [fb_sm_succ, ct_swap f n m]
    have : (fun b => fb_ct (fun a => f a b) (m + 1)) = fun b => fb_ct (fun a => f a b) m + (if f m b then 1 else 0) := rfl
    rw [this, fb_sm_add]
    congr 1
    have : ∀ k, fb_ct (fun b => f m b) k = fb_sm (fun b => if f m b = true then 1 else 0) k := by
      intro k
      induction k with
      | zero => rfl
      | succ k ih => rw [fb_ct_succ, fb_sm_succ, ih]
    exact this n
theorem m_share (hC : MT V A L) {h : Nat} (hh : h < aS A 0) : ∃ V', fX10_shareOf V (nI h) = some (100 * nI (fb_sm (sg1 L A h) 24) / 576, V') ∧ My V V' := by
  unfold fX10_shareOf
  obtain ⟨V', e, hR⟩ := lp (f := iX10_shareOf_L4) (fun k => fb_sm (fun p => fb_ct (fun t => L (fc A h p t)) 24) k) (fun V' a k => (V', nI h, nI a, nI k)) (fun V' a => (100 * nI a / 576, V')) (fun V' => My V V') 24 (by omega) My.rf
    (by
      intro p V' hp hR
      unfold iX10_shareOf_L4 fX10_shareOf_L4
      simp only []
      rw [if_neg (show ¬ (24 : Int32) ≤ nI p from nI_ge (b := 24) hp (by omega))]
      obtain ⟨V2, e2, hR2⟩ := lp (V := V') (f := iX10_shareOf_L13) (fun t => fb_sm (fun p => fb_ct (fun t => L (fc A h p t)) 24) p + fb_ct (fun t => L (fc A h p t)) t) (fun V' a k => (V', nI h, nI a, nI p, nI k)) (fun V' a => (V', nI h, nI a, nI p)) (fun V' => My V V') 24 (by omega) hR
        (by
          intro t V' ht hR
          have hC' := hC.y hR
          obtain ⟨V3, e3, hy3, -⟩ := hC'.see (fog := aS A 5) hh hp ht
          have e3 : fX10_doesSee V' (nI h) (nI p) (nI t) (nI (aS A 5)) = some (bI (L (fc A h p t)), V3) := e3
          unfold iX10_shareOf_L13 fX10_shareOf_L13
          simp only []
          rw [if_neg (show ¬ (24 : Int32) ≤ nI t from nI_ge (b := 24) ht (by omega)), q_rdl (by omega) (by omega), q_cl (by omega), hC'.1.1 5 (by omega), e3, q_I, q_ifb]
          refine ⟨V3, ?_, hR.tr hy3⟩
          rw [fb_ct_succ]
          cases L (fc A h p t)
          · rw [if_neg (by decide), add0, q_lt, nI_1, q_lt]; rfl
          · rw [if_pos rfl, nI_1, q_lt, nI_1, q_lt]; rfl)
        (by
          intro V' hR
          unfold iX10_shareOf_L13 fX10_shareOf_L13
          simp only []
          rw [if_pos (show (24 : Int32) ≤ nI 24 from nI_le (Nat.le_refl _) (by omega))])
      have e2 : it_ iX10_shareOf_L13 FV (V', nI h, nI (fb_sm (fun p => fb_ct (fun t => L (fc A h p t)) 24) p), nI p, 0) = _ := e2
      rw [e2, q_R]
      simp only [dt4_]
      rw [nI_1, q_lt]
      exact ⟨V2, rfl, hR2⟩)
    (by
      intro V' hR
      unfold iX10_shareOf_L4 fX10_shareOf_L4
      simp only []
      rw [if_pos (show (24 : Int32) ≤ nI 24 from nI_le (Nat.le_refl _) (by omega))])
  have e : it_ iX10_shareOf_L4 FV (V, nI h, 0, 0) = _ := e
  rw [e, q_R]
  have sw : fb_sm (fun p => fb_ct (fun t => L (fc A h p t)) 24) 24 = fb_sm (sg1 L A h) 24 := (ct_swap (fun p t => L (fc A h p t)) 24 24)
  rw [sw]
  exact ⟨V', rfl, hR⟩
/-- numbers from 0 on -/
theorem ix_cases {x : Int32} {n : Nat} (hn : n < 2 ^ 30) (h : ¬ ix x n = true) {j : Nat} (hj : j < n) : ¬ x = nI j := by
  intro e
  apply h
  rw [e, ix_n (by omega) (by omega)]
  exact decide_eq_true hj
theorem op_house {cd : String → Int32} (hI : INV V) (h1 : cd IOOB = 1) (h2 : cd NSE = 2) (x1 x2 : Int32) : OpE (fun V => fX9_house V x1 x2) (fun V => fX10_house V x1 x2) cd V := by
  obtain ⟨g, hC, hM⟩ := hI
  have h8 := hC.2.1.1.1
  by_cases b1 : ix x1 (aS (xA g) 0) = true
  · obtain ⟨h, hh, rfl⟩ := ix_t (by omega) b1
    have hb := hC.2.1.2.1 h hh
    have cH : ∀ k, k < 7 → fX6_ofHouse V 2 (nI h) (nI k) = some (nI (aH (xA g) h k)) := fun k hk => c_ofHouse hC.1 hC.2.1 hh hk
    have mH : ∀ V1, MT V1 (xA g) (xL g) → ∀ k, k < 8 → fX10_of V1 (nI h) (nI k) = some (nI (aH (xA g) h k)) := fun V1 hT k hk => m_of hT.1 hT.2.1 hh hk
    -- the class's and the model's roads to the row of answers
    have p9 : ∀ x2, fX9_house V (nI h) x2 = if x2 = (0 : Int32) then (ob_R (fX6_ofHouse V 2 (nI h) x2) fun y4 => some (.inr y4, V)) else if x2 = (1 : Int32) then (ob_R (fX6_leftEnd V 2 (nI h)) fun y7 => some (.inr y7, V)) else if x2 = (2 : Int32) then (ob_R (fX6_rightEnd V 2 (nI h)) fun y10 => some (.inr y10, V)) else if x2 = (3 : Int32) then (ob_R (fX6_ofHouse V 2 (nI h) x2) fun y13 => some (.inr y13, V)) else if x2 = (4 : Int32) then (ob_R (fX6_ofHouse V 2 (nI h) x2) fun y16 => some (.inr y16, V)) else if x2 = (5 : Int32) then (ob_R (fX6_ofHouse V 2 (nI h) x2) fun y19 => some (.inr y19, V)) else if x2 = (6 : Int32) then (ob_R (fX6_ofHouse V 2 (nI h) x2) fun y22 => some (.inr y22, V)) else if x2 = (7 : Int32) then (ob_R (fX6_isAway V 2 (nI h)) fun y25 => if y25 = 0 then (some (.inr (0 : Int32), V)) else (some (.inr (1 : Int32), V))) else if x2 = (8 : Int32) then (ob_R (fX6_owed V 2 (nI h)) fun y29 => some (.inr y29, V)) else if x2 = (9 : Int32) then (ob_R (fX6_lacking V 2 (nI h)) fun y32 => some (.inr y32, V)) else if x2 = (10 : Int32) then (ob_I (fX5_sightsOf V 2 (nI h)) fun y35 V36 => some (.inr (((100 : Int32) * y35) / (576 : Int32)), V36)) else (some (.inl "java/util/NoSuchElementException", V)) := by
      intro x2
      unfold fX9_house
      rw [n_house hC.1, b1]
      simp only [if_true, q_N1]
    have p10 : ∀ (V1 : VT), MT (t0 V1) (xA g) (xL g) → ∀ x2, fX10_house V1 (nI h) x2 = if bI (ix x2 11) = 0 then fX10_house_j34 (t0 V1) (nI h) x2 1 else fX10_house_j34 (t0 V1) (nI h) x2 0 := by
      intro V1 hT x2
      unfold fX10_house
      rw [q_lt, t0_e, m_noHouse hT.1 hT.2.1, b1, q_R, show bI (!true) = 0 from rfl, m_thr0, q_I, if_pos rfl, show (10 : Int32) = nI 10 from rfl, m_ix1 _ (by omega), q_R]
    by_cases b2 : ix x2 11 = true
    · have goal : ∀ k, k < 11 → OpE (fun V => fX9_house V (nI h) (nI k)) (fun V => fX10_house V (nI h) (nI k)) cd V := by
        intro k hk
        have bk : ix (nI k) 11 = true := by rw [ix_n (by omega) (by omega)]; exact decide_eq_true hk
        have q10 : ∀ (V1 : VT), MT (t0 V1) (xA g) (xL g) → fX10_house V1 (nI h) (nI k) = (if (nI k) = (1 : Int32) then (ob_R (fX10_of (t0 V1) (nI h) (6 : Int32)) fun y13 => ob_R (fX10_lowOf (t0 V1) (nI h) y13) fun y15 => some (y15, (t0 V1))) else if (nI k) = (2 : Int32) then (ob_R (fX10_of (t0 V1) (nI h) (6 : Int32)) fun y18 => ob_R (fX10_highOf (t0 V1) (nI h) y18) fun y20 => some (y20, (t0 V1))) else if (nI k) = (8 : Int32) then (ob_R (fX10_owesOf (t0 V1) (nI h)) fun y23 => some (y23, (t0 V1))) else if (nI k) = (9 : Int32) then (ob_R (fX10_lacksOf (t0 V1) (nI h)) fun y26 => some (y26, (t0 V1))) else if (nI k) = (10 : Int32) then (ob_I (fX10_shareOf (t0 V1) (nI h)) fun y29 V30 => some (y29, V30)) else (ob_R (fX10_of (t0 V1) (nI h) (nI k)) fun y33 => some (y33, (t0 V1)))) := by
          intro V1 hT
          rw [p10 V1 hT, bk, if_neg (show ¬ bI true = 0 by decide)]
          unfold fX10_house_j34
          rw [m_thr0, q_I, if_pos rfl]
        have plain : ∀ x, (∃ V1, fX9_house V (nI h) (nI k) = some (.inr x, V1) ∧ Cs V V1) → (∀ V1, MT (t0 V1) (xA g) (xL g) → ∃ V2, fX10_house V1 (nI h) (nI k) = some (x, V2) ∧ Mq (t0 V1) V2) → OpE (fun V => fX9_house V (nI h) (nI k)) (fun V => fX10_house V (nI h) (nI k)) cd V := fun x ha hb => op_q hC hM x ha (fun V1 hM1 => m_ans (hb V1 hM1.t0))
        have k11 : k = 0 ∨ k = 1 ∨ k = 2 ∨ k = 3 ∨ k = 4 ∨ k = 5 ∨ k = 6 ∨ k = 7 ∨ k = 8 ∨ k = 9 ∨ k = 10 := by omega
        rcases k11 with rfl | rfl | rfl | rfl | rfl | rfl | rfl | rfl | rfl | rfl | rfl
        · refine plain (nI (aH (xA g) h 0)) ⟨V, ?_, Cs.rf⟩ (fun V1 hT => ⟨t0 V1, ?_, Mq.rf⟩)
          · rw [p9, if_pos (show nI 0 = 0 from rfl), cH 0 (by omega), q_R]
          · rw [q10 V1 hT, if_neg (by decide), if_neg (by decide), if_neg (by decide), if_neg (by decide), if_neg (by decide), mH _ hT 0 (by omega), q_R]
        · refine plain (nI (aH (xA g) h 1 - aH (xA g) h 6)) ⟨V, ?_, Cs.rf⟩ (fun V1 hT => ⟨t0 V1, ?_, Mq.rf⟩)
          · rw [p9, if_neg (by decide), if_pos (show nI 1 = 1 from rfl), c_leftEnd hC.1 hC.2.1 hh, q_R]
          · rw [q10 V1 hT, if_pos (show nI 1 = 1 from rfl), show fX10_of (t0 V1) (nI h) 6 = some (nI (aH (xA g) h 6)) from mH _ hT 6 (by omega), q_R, m_lowOf hT.1 hT.2.1 hh (by omega), q_R]
        · refine plain (nI (min 23 (aH (xA g) h 2 + aH (xA g) h 6))) ⟨V, ?_, Cs.rf⟩ (fun V1 hT => ⟨t0 V1, ?_, Mq.rf⟩)
          · rw [p9, if_neg (by decide), if_neg (by decide), if_pos (show nI 2 = 2 from rfl), c_rightEnd hC.1 hC.2.1 hh, q_R]
          · rw [q10 V1 hT, if_neg (by decide), if_pos (show nI 2 = 2 from rfl), show fX10_of (t0 V1) (nI h) 6 = some (nI (aH (xA g) h 6)) from mH _ hT 6 (by omega), q_R, m_highOf hT.1 hT.2.1 hh (by omega), q_R]
        · refine plain (nI (aH (xA g) h 3)) ⟨V, ?_, Cs.rf⟩ (fun V1 hT => ⟨t0 V1, ?_, Mq.rf⟩)
          · rw [p9, if_neg (by decide), if_neg (by decide), if_neg (by decide), if_pos (show nI 3 = 3 from rfl), cH 3 (by omega), q_R]
          · rw [q10 V1 hT, if_neg (by decide), if_neg (by decide), if_neg (by decide), if_neg (by decide), if_neg (by decide), mH _ hT 3 (by omega), q_R]
        · refine plain (nI (aH (xA g) h 4)) ⟨V, ?_, Cs.rf⟩ (fun V1 hT => ⟨t0 V1, ?_, Mq.rf⟩)
          · rw [p9, if_neg (by decide), if_neg (by decide), if_neg (by decide), if_neg (by decide), if_pos (show nI 4 = 4 from rfl), cH 4 (by omega), q_R]
          · rw [q10 V1 hT, if_neg (by decide), if_neg (by decide), if_neg (by decide), if_neg (by decide), if_neg (by decide), mH _ hT 4 (by omega), q_R]
        · refine plain (nI (aH (xA g) h 5)) ⟨V, ?_, Cs.rf⟩ (fun V1 hT => ⟨t0 V1, ?_, Mq.rf⟩)
          · rw [p9, if_neg (by decide), if_neg (by decide), if_neg (by decide), if_neg (by decide), if_neg (by decide), if_pos (show nI 5 = 5 from rfl), cH 5 (by omega), q_R]
          · rw [q10 V1 hT, if_neg (by decide), if_neg (by decide), if_neg (by decide), if_neg (by decide), if_neg (by decide), mH _ hT 5 (by omega), q_R]
        · refine plain (nI (aH (xA g) h 6)) ⟨V, ?_, Cs.rf⟩ (fun V1 hT => ⟨t0 V1, ?_, Mq.rf⟩)
          · rw [p9, if_neg (by decide), if_neg (by decide), if_neg (by decide), if_neg (by decide), if_neg (by decide), if_neg (by decide), if_pos (show nI 6 = 6 from rfl), cH 6 (by omega), q_R]
          · rw [q10 V1 hT, if_neg (by decide), if_neg (by decide), if_neg (by decide), if_neg (by decide), if_neg (by decide), mH _ hT 6 (by omega), q_R]
        · refine plain (nI (aH (xA g) h 7)) ⟨V, ?_, Cs.rf⟩ (fun V1 hT => ⟨t0 V1, ?_, Mq.rf⟩)
          · rw [p9, if_neg (by decide), if_neg (by decide), if_neg (by decide), if_neg (by decide), if_neg (by decide), if_neg (by decide), if_neg (by decide), if_pos (show nI 7 = 7 from rfl), c_isAway hC.1 hC.2.1 hh, q_R, q_ifb]
            unfold aw
            by_cases a : aH (xA g) h 7 = 1
            · rw [if_pos (decide_eq_true a), a]; rfl
            · rw [if_neg (fun e => a (of_decide_eq_true e)), show aH (xA g) h 7 = 0 by omega]; rfl
          · rw [q10 V1 hT, if_neg (by decide), if_neg (by decide), if_neg (by decide), if_neg (by decide), if_neg (by decide), mH _ hT 7 (by omega), q_R]
        · refine plain (nI (bs (owF (xA g) h) (aS (xA g) 1))) ⟨V, ?_, Cs.rf⟩ (fun V1 hT => ⟨t0 V1, ?_, Mq.rf⟩)
          · rw [p9, if_neg (by decide), if_neg (by decide), if_neg (by decide), if_neg (by decide), if_neg (by decide), if_neg (by decide), if_neg (by decide), if_neg (by decide), if_pos (show nI 8 = 8 from rfl), c_owed hC.1 hC.2.1 hh, q_R]
          · rw [q10 V1 hT, if_neg (by decide), if_neg (by decide), if_pos (show nI 8 = 8 from rfl), m_owesOf hT.1 hT.2.1 hh, q_R]
        · refine plain (nI (bs (lcF (xA g) h) (aS (xA g) 1))) ⟨V, ?_, Cs.rf⟩ (fun V1 hT => ⟨t0 V1, ?_, Mq.rf⟩)
          · rw [p9, if_neg (by decide), if_neg (by decide), if_neg (by decide), if_neg (by decide), if_neg (by decide), if_neg (by decide), if_neg (by decide), if_neg (by decide), if_neg (by decide), if_pos (show nI 9 = 9 from rfl), c_lacking hC.1 hC.2.1 hh, q_R]
          · rw [q10 V1 hT, if_neg (by decide), if_neg (by decide), if_neg (by decide), if_pos (show nI 9 = 9 from rfl), m_lacksOf hT.1 hT.2.1 hh, q_R]
        · obtain ⟨V3, e3, hy3⟩ := c_sights hC.t hh
          refine plain (100 * nI (fb_sm (sg1 (xL g) (xA g) h) 24) / 576) ⟨V3, ?_, hy3.c⟩ (fun V1 hT => ?_)
          · rw [p9, if_neg (by decide), if_neg (by decide), if_neg (by decide), if_neg (by decide), if_neg (by decide), if_neg (by decide), if_neg (by decide), if_neg (by decide), if_neg (by decide), if_neg (by decide), if_pos (show nI 10 = 10 from rfl), e3, q_I]
          · obtain ⟨V4, e4, hy4⟩ := m_share hT hh
            refine ⟨V4, ?_, hy4.q⟩
            rw [q10 V1 hT, if_neg (by decide), if_neg (by decide), if_neg (by decide), if_neg (by decide), if_pos (show nI 10 = 10 from rfl), e4, q_I]
      obtain ⟨k, hk, rfl⟩ := ix_t (by omega) b2
      exact goal k hk
    · refine op_x hC hM NSE ?_ (m_thr ⟨0, ?_⟩)
      · show fX9_house V _ _ = _
        have n := fun j hj => ix_cases (x := x2) (n := 11) (by omega) b2 (j := j) hj
        rw [p9, if_neg (show ¬ x2 = 0 from n 0 (by omega)), if_neg (show ¬ x2 = 1 from n 1 (by omega)), if_neg (show ¬ x2 = 2 from n 2 (by omega)), if_neg (show ¬ x2 = 3 from n 3 (by omega)), if_neg (show ¬ x2 = 4 from n 4 (by omega)), if_neg (show ¬ x2 = 5 from n 5 (by omega)), if_neg (show ¬ x2 = 6 from n 6 (by omega)), if_neg (show ¬ x2 = 7 from n 7 (by omega)), if_neg (show ¬ x2 = 8 from n 8 (by omega)), if_neg (show ¬ x2 = 9 from n 9 (by omega)), if_neg (show ¬ x2 = 10 from n 10 (by omega))]
      · have hT := hM.t0
        show fX10_house V _ _ = _
        rw [p10 V hT, nf b2, if_pos (show bI false = 0 from rfl)]
        unfold fX10_house_j34
        rw [m_thr1, q_I, if_neg q_10, h2]
  · refine op_x hC hM IOOB ?_ (m_thr ⟨0, ?_⟩)
    · show fX9_house V _ _ = _
      unfold fX9_house
      rw [n_house hC.1, nf b1]; rfl
    · have hT := hM.t0
      show fX10_house V _ _ = _
      unfold fX10_house
      rw [q_lt, t0_e, m_noHouse hT.1 hT.2.1, nf b1, q_R, show bI (!false) = 1 from rfl, m_thr1, q_I, if_neg q_10, h1]
/-! ===== count ===== -/
theorem op_count (hI : INV V) (x : Int32) : OpI (fun V => ob_R (fX9_count V x) fun y => some (y, V)) (fun V => fX10_count V x) V := by
  obtain ⟨g, hC, hM⟩ := hI
  have plain : ∀ y, fX9_count V x = some y → (∀ V1, MIN (t0 V1) g → MT (t0 V1) (xA g) (xL g) → fX10_count V1 x = some (y, t0 V1)) → OpI (fun V => ob_R (fX9_count V x) fun y => some (y, V)) (fun V => fX10_count V x) V := by
    intro y h9 h10
    refine op_i hC hM y ⟨V, ?_, Cs.rf⟩ (fun V1 hM1 => ⟨t0 V1, h10 V1 (hM1.m t0_m) hM1.t0, t0_m⟩)
    show ob_R (fX9_count V x) _ = _
    rw [h9, q_R]
  have h4 := hC.2.1.1
  have hw := WA_w hC.2.1
  have rM : ∀ (V1 : VT), MT (t0 V1) (xA g) (xL g) → ∀ k, k < 9 → t0 V1 76 k = nI (aS (xA g) k) := fun V1 hT k hk => hT.1.1 k hk
  by_cases b : ix x 13 = true
  · obtain ⟨k, hk, rfl⟩ := ix_t (by omega) b
    have k13 : k = 0 ∨ k = 1 ∨ k = 2 ∨ k = 3 ∨ k = 4 ∨ k = 5 ∨ k = 6 ∨ k = 7 ∨ k = 8 ∨ k = 9 ∨ k = 10 ∨ k = 11 ∨ k = 12 := by omega
    have low : ∀ (V1 : VT), MT (t0 V1) (xA g) (xL g) → k < 7 → k ≠ 3 → fX10_count V1 (nI k) = some (nI (aS (xA g) k), t0 V1) := by
      intro V1 hT hk7 hk3
      unfold fX10_count
      have n : ∀ j : Nat, j < 100 → k ≠ j → ¬ nI k = nI j := fun j hj h e => h ((nI_eq (by omega) (by omega)).1 e)
      rw [q_lt, t0_e, if_neg (show ¬ nI k = 3 from n 3 (by omega) hk3), if_neg (show ¬ nI k = 7 from n 7 (by omega) (by omega)), if_neg (show ¬ nI k = 8 from n 8 (by omega) (by omega)), if_neg (show ¬ nI k = 9 from n 9 (by omega) (by omega)), if_neg (show ¬ nI k = 10 from n 10 (by omega) (by omega)), if_neg (show ¬ nI k = 11 from n 11 (by omega) (by omega)), if_neg (show ¬ nI k = 12 from n 12 (by omega) (by omega)), show (6 : Int32) = nI 6 from rfl, m_ix1 _ (by omega), ix_n (by omega) (by omega), decide_eq_true (show k < 6 + 1 by omega), q_R, if_neg (show ¬ bI true = 0 by decide), q_rd (by omega) (by omega), nI_clamp (by omega), rM V1 hT k (by omega)]
    rcases k13 with rfl | rfl | rfl | rfl | rfl | rfl | rfl | rfl | rfl | rfl | rfl | rfl | rfl
    · exact plain (nI (aS (xA g) 0)) (by unfold fX9_count; rw [if_pos (show nI 0 = 0 from rfl), hC.1.1.1]) (fun V1 _ hT => low V1 hT (by omega) (by omega))
    · exact plain (nI (aS (xA g) 1)) (by unfold fX9_count; rw [if_neg (by decide), if_pos (show nI 1 = 1 from rfl), hC.1.1.2.1]) (fun V1 _ hT => low V1 hT (by omega) (by omega))
    · exact plain (nI (aS (xA g) 2)) (by unfold fX9_count; rw [if_neg (by decide), if_neg (by decide), if_pos (show nI 2 = 2 from rfl), hC.1.1.2.2.1]) (fun V1 _ hT => low V1 hT (by omega) (by omega))
    · refine plain (xl g) (by unfold fX9_count; rw [if_neg (by decide), if_neg (by decide), if_neg (by decide), if_pos (show nI 3 = 3 from rfl), hC.2.2.1]) (fun V1 hm _ => ?_)
      unfold fX10_count
      rw [q_lt, t0_e, if_pos (show nI 3 = 3 from rfl), q_rdl (by omega) (by omega), q_cl (by omega), q_rdl (by omega) (by omega), q_cl (by omega)]
      rcases hm.2.2.1 with ⟨a, e⟩ | ⟨a, e⟩
      · rw [show t0 V1 76 (OfNat.ofNat 3) = 0 from a, if_neg (by decide), e]
      · rw [show t0 V1 76 (OfNat.ofNat 3) = 1 from a, if_pos rfl, show t0 V1 76 (OfNat.ofNat 314) = xl g from e]
    · exact plain (nI (aS (xA g) 4)) (by unfold fX9_count; rw [if_neg (by decide), if_neg (by decide), if_neg (by decide), if_neg (by decide), if_pos (show nI 4 = 4 from rfl), hC.1.1.2.2.2.2.2.2.2.1]) (fun V1 _ hT => low V1 hT (by omega) (by omega))
    · exact plain (nI (aS (xA g) 5)) (by unfold fX9_count; rw [if_neg (by decide), if_neg (by decide), if_neg (by decide), if_neg (by decide), if_neg (by decide), if_pos (show nI 5 = 5 from rfl), hC.1.1.2.2.2.2.2.1]) (fun V1 _ hT => low V1 hT (by omega) (by omega))
    · exact plain (nI (aS (xA g) 6)) (by unfold fX9_count; rw [if_neg (by decide), if_neg (by decide), if_neg (by decide), if_neg (by decide), if_neg (by decide), if_neg (by decide), if_pos (show nI 6 = 6 from rfl), hC.1.1.2.2.2.2.2.2.1]) (fun V1 _ hT => low V1 hT (by omega) (by omega))
    · refine plain (nI (bs (aw (xA g)) (aS (xA g) 0))) (by unfold fX9_count; rw [if_neg (by decide), if_neg (by decide), if_neg (by decide), if_neg (by decide), if_neg (by decide), if_neg (by decide), if_neg (by decide), if_pos (show nI 7 = 7 from rfl), hC.1.1.2.2.2.1]) (fun V1 _ hT => ?_)
      unfold fX10_count
      rw [q_lt, t0_e, if_neg (by decide), if_pos (show nI 7 = 7 from rfl), m_awayOnes hT.1 hT.2.1, q_R]
    · refine plain (nI (fb_sm (fun h => aH (xA g) h 6) (aS (xA g) 0))) (by unfold fX9_count; rw [if_neg (by decide), if_neg (by decide), if_neg (by decide), if_neg (by decide), if_neg (by decide), if_neg (by decide), if_neg (by decide), if_neg (by decide), if_pos (show nI 8 = 8 from rfl), show fX6_total V 2 6 = _ from c_total hC.1 hC.2.1 (q := 6) (by omega), q_R]) (fun V1 _ hT => ?_)
      unfold fX10_count
      rw [q_lt, t0_e, if_neg (by decide), if_neg (by decide), if_pos (show nI 8 = 8 from rfl), show fX10_sumOf (t0 V1) 6 = _ from m_sumOf hT.1 hT.2.1 (q := 6) (by omega), q_R]
    · refine plain (nI (fb_sm (fun h => aH (xA g) h 5) (aS (xA g) 0))) (by unfold fX9_count; rw [if_neg (by decide), if_neg (by decide), if_neg (by decide), if_neg (by decide), if_neg (by decide), if_neg (by decide), if_neg (by decide), if_neg (by decide), if_neg (by decide), if_pos (show nI 9 = 9 from rfl), show fX6_total V 2 5 = _ from c_total hC.1 hC.2.1 (q := 5) (by omega), q_R]) (fun V1 _ hT => ?_)
      unfold fX10_count
      rw [q_lt, t0_e, if_neg (by decide), if_neg (by decide), if_neg (by decide), if_pos (show nI 9 = 9 from rfl), show fX10_sumOf (t0 V1) 5 = _ from m_sumOf hT.1 hT.2.1 (q := 5) (by omega), q_R]
    · refine plain (nI (aS (xA g) 7)) (by unfold fX9_count; rw [if_neg (by decide), if_neg (by decide), if_neg (by decide), if_neg (by decide), if_neg (by decide), if_neg (by decide), if_neg (by decide), if_neg (by decide), if_neg (by decide), if_neg (by decide), if_pos (show nI 10 = 10 from rfl), hC.1.1.2.2.2.2.2.2.2.2.2]) (fun V1 _ hT => ?_)
      unfold fX10_count
      rw [q_lt, t0_e, if_neg (by decide), if_neg (by decide), if_neg (by decide), if_neg (by decide), if_pos (show nI 10 = 10 from rfl), q_rdl (by omega) (by omega), q_cl (by omega), show t0 V1 76 (OfNat.ofNat 7) = _ from rM V1 hT 7 (by omega)]
    · refine plain (nI (aS (xA g) 8)) ?_ (fun V1 _ hT => ?_)
      · have e8 : aS (xA g) 8 = min 60 (aS (xA g) 7) := hC.2.1.1.2.2.2.2.2.2.2.2
        have e : (if (60 : Int32) < nI (aS (xA g) 7) then (60 : Int32) else nI (aS (xA g) 7)) = nI (min 60 (aS (xA g) 7)) := q_mi (a := 60) (by omega) (by omega)
        unfold fX9_count fX6_logSize
        rw [if_neg (by decide), if_neg (by decide), if_neg (by decide), if_neg (by decide), if_neg (by decide), if_neg (by decide), if_neg (by decide), if_neg (by decide), if_neg (by decide), if_neg (by decide), if_neg (by decide), if_pos (show nI 11 = 11 from rfl), q_R, hC.1.1.2.2.2.2.2.2.2.2.2, e, e8]
      · unfold fX10_count
        rw [q_lt, t0_e, if_neg (by decide), if_neg (by decide), if_neg (by decide), if_neg (by decide), if_neg (by decide), if_pos (show nI 11 = 11 from rfl), q_rdl (by omega) (by omega), q_cl (by omega), show t0 V1 76 (OfNat.ofNat 8) = _ from rM V1 hT 8 (by omega)]
    · refine plain (nI (xc g)) (by unfold fX9_count; rw [if_neg (by decide), if_neg (by decide), if_neg (by decide), if_neg (by decide), if_neg (by decide), if_neg (by decide), if_neg (by decide), if_neg (by decide), if_neg (by decide), if_neg (by decide), if_neg (by decide), if_neg (by decide), if_pos (show nI 12 = 12 from rfl), hC.2.2.2.2.2.2.2.2.2.1]) (fun V1 hm hT => ?_)
      unfold fX10_count
      rw [q_lt, t0_e, if_neg (by decide), if_neg (by decide), if_neg (by decide), if_neg (by decide), if_neg (by decide), if_neg (by decide), if_pos (show nI 12 = 12 from rfl), hm.2.2.2.2.2.2.2.2.2.1]
  · have n := fun j hj => ix_cases (x := x) (n := 13) (by omega) b (j := j) hj
    have b7 : ix x 7 = false := by
      cases e : ix x 7
      · rfl
      · obtain ⟨j, hj, rfl⟩ := ix_t (by omega) e
        exact absurd rfl (n j (by omega))
    refine plain (-1) ?_ (fun V1 _ hT => ?_)
    · unfold fX9_count
      rw [if_neg (show ¬ x = 0 from n 0 (by omega)), if_neg (show ¬ x = 1 from n 1 (by omega)), if_neg (show ¬ x = 2 from n 2 (by omega)), if_neg (show ¬ x = 3 from n 3 (by omega)), if_neg (show ¬ x = 4 from n 4 (by omega)), if_neg (show ¬ x = 5 from n 5 (by omega)), if_neg (show ¬ x = 6 from n 6 (by omega)), if_neg (show ¬ x = 7 from n 7 (by omega)), if_neg (show ¬ x = 8 from n 8 (by omega)), if_neg (show ¬ x = 9 from n 9 (by omega)), if_neg (show ¬ x = 10 from n 10 (by omega)), if_neg (show ¬ x = 11 from n 11 (by omega)), if_neg (show ¬ x = 12 from n 12 (by omega))]
    · unfold fX10_count
      rw [q_lt, t0_e, if_neg (show ¬ x = 3 from n 3 (by omega)), if_neg (show ¬ x = 7 from n 7 (by omega)), if_neg (show ¬ x = 8 from n 8 (by omega)), if_neg (show ¬ x = 9 from n 9 (by omega)), if_neg (show ¬ x = 10 from n 10 (by omega)), if_neg (show ¬ x = 11 from n 11 (by omega)), if_neg (show ¬ x = 12 from n 12 (by omega)), show (6 : Int32) = nI 6 from rfl, m_ix1 _ (by omega), b7, q_R, if_pos (show bI false = 0 from rfl)]
end OP
