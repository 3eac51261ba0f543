/-! ===== a deed done: who sees it ===== -/
def fre1 (L : Fa → Bool) (A : AT) (d : Nat) : AT := pD A d 3 (aD A d 3 ||| seer L A (aD A d 0) (aD A d 1))
def free1 (L : Fa → Bool) (A : AT) (d : Nat) : AT := if (!so A d && fre A d) = true then fre1 L A d else A
def freN (L : Fa → Bool) (A : AT) : Nat → AT
  | 0 => A
  | n + 1 => free1 L (freN L A n) n
theorem free1_S {L : Fa → Bool} {A : AT} {d : Nat} : aS (free1 L A d) = aS A := by unfold free1; split <;> rfl
theorem freN_S {L : Fa → Bool} {A : AT} : ∀ {n : Nat}, aS (freN L A n) = aS A
  | 0 => rfl
  | n + 1 => free1_S.trans freN_S
theorem WA.done {L : Fa → Bool} {A : AT} (hW : WA A) {d : Nat} (hd : d < aS A 1) : WA (fre1 L A d) := by
  have h3 := (hW.2.2.1 d hd).2.2.2.1
  have hs := seer_lt (L := L) (p := aD A d 0) (t := aD A d 1) hW
  exact hW.dq (Or.inl rfl) (fun _ => or_256 h3 hs) (by omega)
theorem WA.free {L : Fa → Bool} {A : AT} (hW : WA A) {d : Nat} (hd : d < aS A 1) : WA (free1 L A d) := by
  unfold free1
  split
  · exact hW.done hd
  · exact hW
theorem WA.freN {L : Fa → Bool} {A : AT} (hW : WA A) : ∀ n, n ≤ aS A 1 → WA (freN L A n)
  | 0, _ => hW
  | n + 1, h => (hW.freN n (by omega)).free (by rw [freN_S]; exact h)
theorem pD_self {A : AT} {d k : Nat} : pD A d k (aD A d k) = A := by
  have : up2 A.2.2.1 d k (aD A d k) = A.2.2.1 := by
    funext i j
    unfold up2
    split
    · next h => rw [h.1, h.2]; rfl
    · rfl
  unfold pD
  rw [this]
theorem pD_pD {A : AT} {d k u v : Nat} : pD (pD A d k u) d k v = pD A d k v := by
  have : up2 (up2 A.2.2.1 d k u) d k v = up2 A.2.2.1 d k v := by
    funext i j
    unfold up2
    split <;> rfl
  show (A.1, A.2.1, up2 (up2 A.2.2.1 d k u) d k v, A.2.2.2) = _
  rw [this]
  rfl
theorem bs_or_bit {s k : Nat} {f : Nat → Bool} (h : s.testBit k = true) : s ||| bs f (k + 1) = s ||| bs f k := by
  apply Nat.eq_of_testBit_eq
  intro j
  rw [Nat.testBit_or, Nat.testBit_or, bs_bit, bs_bit]
  by_cases e : j = k
  · subst e; rw [h]; rfl
  · have : decide (j < k + 1) = decide (j < k) := by
      apply decide_eq_decide.2
      omega
    rw [this]
section OP
variable {V : VT} {i : Nat} {A : AT} {L : Fa → Bool}
theorem c_addSeen (hR : RS V i A) (hW : WA A) (hi : i < 17) {d b : Nat} (hd : d < aS A 1) : ∃ V', fX6_addSeen V i (nI d) (nI b) = some V' ∧ RS V' i (pD A d 3 (aD A d 3 ||| b)) ∧ Cd i V V' := by
  unfold fX6_addSeen
  have e3 : fX6_ofDeed V i (nI d) 3 = some (nI (aD A d 3)) := c_ofDeed hR hW hd (k := 3) (by omega) (by omega)
  rw [e3, q_R, q_or]
  obtain ⟨V4, e5, hR4, hq4⟩ := c_setDeed (v := aD A d 3 ||| b) hR hW hi hd (k := 3) (by omega)
  have e5 : fX6_setDeed V i (nI d) 3 (nI (aD A d 3 ||| b)) = some V4 := e5
  rw [e5, q_R]
  exact ⟨V4, rfl, hR4, Cd.of hi (Or.inr (Or.inr (Or.inl rfl))) hq4⟩
theorem c_show (hC : CT V i A L) {d : Nat} (hd : d < aS A 1) : ∃ V', fX1_showDeed V i (nI d) = some V' ∧ CT V' i (fre1 L A d) L ∧ Cd i V V' := by
  obtain ⟨hR, hW, hL, hi⟩ := hC
  have hC : CT V i A L := ⟨hR, hW, hL, hi⟩
  have h0 := hW.1.1
  have hdd := hW.2.2.1 d hd
  unfold fX1_showDeed
  have e0 : fX6_ofDeed V i (nI d) 0 = some (nI (aD A d 0)) := c_ofDeed hR hW hd (k := 0) (by omega) (by omega)
  have e1 : fX6_ofDeed V i (nI d) 1 = some (nI (aD A d 1)) := c_ofDeed hR hW hd (k := 1) (by omega) (by omega)
  rw [e0, q_R, e1, q_R]
  obtain ⟨V', e, hC', hy⟩ := lk (V := V) (f := iX1_showDeed_L18 i) (fun _ => ()) (fun V' _ k => (V', nI d, nI (aD A d 0), nI (aD A d 1), nI k)) (fun V' _ => V') (fun k V' => CT V' i (pD A d 3 (aD A d 3 ||| bs (fun h => L (fc A h (aD A d 0) (aD A d 1))) k)) L ∧ Cd i V V') (aS A 0) (by omega)
    ⟨by rw [show aD A d 3 ||| bs (fun h => L (fc A h (aD A d 0) (aD A d 1))) 0 = aD A d 3 from Nat.or_zero _, pD_self]; exact hC, Cd.rf⟩
    (by
      rintro k V' hk ⟨hC', hy⟩
      have hlt : bs (fun h => L (fc A h (aD A d 0) (aD A d 1))) k < 256 := bs_256 _ (by omega)
      have es : aD (pD A d 3 (aD A d 3 ||| bs (fun h => L (fc A h (aD A d 0) (aD A d 1))) k)) d 3 = aD A d 3 ||| bs (fun h => L (fc A h (aD A d 0) (aD A d 1))) k := by rw [aD_p, if_pos ⟨rfl, rfl⟩]
      have hs := c_hasSeen hC'.1 hC'.2.1 (h := k) hk (d := d) hd
      rw [es, Nat.testBit_or, bs_bit] at hs
      simp only [Nat.lt_irrefl, decide_false, Bool.false_and, Bool.or_false] at hs
      unfold iX1_showDeed_L18 fX1_showDeed_L18
      simp only []
      have e3 : V' i 3 = nI (aS A 0) := hC'.1.1.1
      rw [e3, if_neg (nI_ge hk (by omega)), hs, q_R, q_ifb]
      cases hb : (aD A d 3).testBit k
      · rw [if_neg (by decide)]
        obtain ⟨V2, e2, hy2⟩ := hC'.see (h := k) hk (p := aD A d 0) (by omega) (t := aD A d 1) (by omega)
        have e2 : fX3_lets V' i (nI k) (nI (aD A d 0)) (nI (aD A d 1)) = some (bI (L (fc A k (aD A d 0) (aD A d 1))), V2) := e2
        rw [e2, q_I, q_ifb]
        have hC2 := hC'.ly hy2
        cases hl : L (fc A k (aD A d 0) (aD A d 1))
        · rw [if_neg (by decide), q_lt, nI_1]
          refine ⟨V2, rfl, ?_, hy.tr hy2.d⟩
          rw [bs_sf (f := fun h => L (fc A h (aD A d 0) (aD A d 1))) hl]
          exact hC2
        · rw [if_pos rfl, q_shl (by omega)]
          obtain ⟨V3, e3, hR3, hd3⟩ := c_addSeen (b := 2 ^ k) hC2.1 hC2.2.1 hi (d := d) hd
          rw [e3, q_R, q_lt, nI_1]
          rw [es, pD_pD, Nat.or_assoc, show bs (fun h => L (fc A h (aD A d 0) (aD A d 1))) k ||| 2 ^ k = bs (fun h => L (fc A h (aD A d 0) (aD A d 1))) (k + 1) by rw [bs_s, if_pos hl]] at hR3
          refine ⟨V3, rfl, hC2.d hd3 hR3 (hW.dq (Or.inl rfl) (fun _ => or_256 hdd.2.2.2.1 (bs_256 _ (by omega))) (by omega)), (hy.tr hy2.d).tr hd3⟩
      · rw [if_pos rfl, q_lt, nI_1]
        refine ⟨V', rfl, ?_, hy⟩
        rw [bs_or_bit hb]
        exact hC')
    (by
      rintro V' ⟨hC', hy⟩
      unfold iX1_showDeed_L18 fX1_showDeed_L18
      simp only []
      have e3 : V' i 3 = nI (aS A 0) := hC'.1.1.1
      rw [e3, if_pos (nI_le (Nat.le_refl _) (by omega))])
  have e : it_ (iX1_showDeed_L18 i) FV (V, nI d, nI (aD A d 0), nI (aD A d 1), 0) = _ := e
  rw [e, q_R]
  exact ⟨V', rfl, hC', hy⟩
theorem c_free (hC : CT V i A L) : ∃ V', fX1_doFreeDeeds V i = some V' ∧ CT V' i (freN L A (aS A 1)) L ∧ Cd i V V' := by
  have h1 := hC.2.1.1.2.1
  unfold fX1_doFreeDeeds
  obtain ⟨V', e, hC', hy⟩ := lk (V := V) (f := iX1_doFreeDeeds_L2 i) (fun _ => ()) (fun V' _ k => (V', nI k)) (fun V' _ => V') (fun k V' => CT V' i (freN L A k) L ∧ Cd i V V') (aS A 1) (by omega) ⟨hC, Cd.rf⟩
    (by
      rintro k V' hk ⟨hC', hy⟩
      have hs : aS (freN L A k) = aS A := freN_S
      have hk' : k < aS (freN L A k) 1 := by rw [hs]; exact hk
      unfold iX1_doFreeDeeds_L2 fX1_doFreeDeeds_L2
      simp only []
      rw [hC'.1.1.2.1, hs, if_neg (nI_ge hk (by omega)), c_isSo hC'.1 hC'.2.1 hk', q_R, q_ifb, c_isFree hC'.1 hC'.2.1 hk', q_R, q_ifb]
      have en : freN L A (k + 1) = free1 L (freN L A k) k := rfl
      rw [en]
      unfold free1
      cases so (freN L A k) k
      · rw [if_neg (by decide)]
        cases fre (freN L A k) k
        · rw [if_neg (by decide), q_lt, nI_1, if_neg (by decide)]
          exact ⟨V', rfl, hC', hy⟩
        · rw [if_pos rfl, if_pos (show (!false && true) = true from rfl)]
          obtain ⟨V2, e2, hC2, hy2⟩ := c_show hC' hk'
          rw [e2, q_R, q_lt, nI_1]
          exact ⟨V2, rfl, hC2, hy.tr hy2⟩
      · rw [if_pos rfl, q_lt, nI_1, if_neg (by simp)]
        exact ⟨V', rfl, hC', hy⟩)
    (by
      rintro V' ⟨hC', hy⟩
      unfold iX1_doFreeDeeds_L2 fX1_doFreeDeeds_L2
      simp only []
      rw [hC'.1.1.2.1, freN_S, if_pos (nI_le (Nat.le_refl _) (by omega))])
  have e : it_ (iX1_doFreeDeeds_L2 i) FV (V, 0) = _ := e
  rw [e, q_R]
  exact ⟨V', rfl, hC', hy⟩
theorem m_isDone (hT : MT V A L) {d : Nat} (hd : d < aS A 1) : ∃ V', fX10_isDone V (nI d) = some V' ∧ MT V' (fre1 L A d) L ∧ Md V V' := by
  have h1 := hT.2.1.1.2.1
  have hdd := hT.2.1.2.2.1 d hd
  unfold fX10_isDone
  have e0 : fX10_ofDeed V (nI d) 0 = some (nI (aD A d 0)) := m_ofDeed hT.1 hT.2.1 hd (k := 0) (by omega) (by omega)
  have e1 : fX10_ofDeed V (nI d) 1 = some (nI (aD A d 1)) := m_ofDeed hT.1 hT.2.1 hd (k := 1) (by omega) (by omega)
  obtain ⟨V2, e2, hy2⟩ := m_seersNow hT (p := aD A d 0) (by omega) (t := aD A d 1) (by omega)
  rw [show fX10_deedAt V (nI d) 3 = some (nI (74 + 6 * d + 3)) from m_dat (k := 3), q_R, q_rd (by omega) (by omega), e0, q_R, e1, q_R, e2, q_I, q_rd (by omega) (by omega), nI_clamp (by omega), hT.1.2.2.2.1 d 3 hd (by omega) (by omega), q_or, q_lt]
  have hT2 := hT.y hy2
  have hR3 := hT2.1.d hT2.2.1 (h := d) (k := 3) (v := aD A d 3 ||| seer L A (aD A d 0) (aD A d 1)) (by omega) (by omega)
  have hd3 : Md V2 (va_up V2 76 (upd (V2 76) (74 + 6 * d + 3) (nI (aD A d 3 ||| seer L A (aD A d 0) (aD A d 1))))) := Md.u (by omega)
  refine ⟨_, rfl, hT2.d hd3 ?_ (hT.2.1.done hd) rfl, hy2.d.tr hd3⟩
  rw [va_s]
  exact hR3
theorem m_free (hT : MT V A L) {x : Int32} : ∃ V', it_ iX10_oneDay_L2 FV (V, x, 0) = some (V', x) ∧ MT V' (freN L A (aS A 1)) L ∧ Md V V' := by
  have h1 := hT.2.1.1.2.1
  exact lk (V := V) (f := iX10_oneDay_L2) (fun _ => ()) (fun V' _ k => (V', x, nI k)) (fun V' _ => (V', x)) (fun k V' => MT V' (freN L A k) L ∧ Md V V') (aS A 1) (by omega) ⟨hT, Md.rf⟩
    (by
      rintro k V' hk ⟨hC', hy⟩
      have hs : aS (freN L A k) = aS A := freN_S
      have hk' : k < aS (freN L A k) 1 := by rw [hs]; exact hk
      unfold iX10_oneDay_L2 fX10_oneDay_L2
      simp only []
      rw [m_deeds hC'.1, q_R, hs, if_neg (nI_ge hk (by omega)), m_isSo hC'.1 hC'.2.1 hk', q_R, q_ifb, m_isFree hC'.1 hC'.2.1 hk', q_R, q_ifb]
      have en : freN L A (k + 1) = free1 L (freN L A k) k := rfl
      rw [en]
      unfold free1
      cases so (freN L A k) k
      · rw [if_neg (by decide)]
        cases fre (freN L A k) k
        · rw [if_neg (by decide), q_lt, nI_1, if_neg (by decide)]
          exact ⟨V', rfl, hC', hy⟩
        · rw [if_pos rfl, if_pos (show (!false && true) = true from rfl)]
          obtain ⟨V2, e2, hC2, hy2⟩ := m_isDone hC' hk'
          rw [e2, q_R, q_lt, nI_1]
          exact ⟨V2, rfl, hC2, hy.tr hy2⟩
      · rw [if_pos rfl, q_lt, nI_1, if_neg (by simp)]
        exact ⟨V', rfl, hC', hy⟩)
    (by
      rintro V' ⟨hC', hy⟩
      unfold iX10_oneDay_L2 fX10_oneDay_L2
      simp only []
      rw [m_deeds hC'.1, q_R, freN_S, if_pos (nI_le (Nat.le_refl _) (by omega))])
/-! ===== done ===== -/
theorem op_done {cd : String → Int32} (hI : INV V) (h1 : cd IOOB = 1) (h2 : cd ISE = 2) (x1 : Int32) : OpE (fun V => fX9_done V x1) (fun V => fX10_done V x1) cd V := by
  obtain ⟨g, hC, hM⟩ := hI
  have h8 := hC.2.1.1.1
  have h10 := hC.2.1.1.2.1
  by_cases b1 : ix x1 (aS (xA g) 1) = true
  · obtain ⟨d, hd, rfl⟩ := ix_t (by omega) b1
    have hdd := hC.2.1.2.2.1 d hd
    cases hs : so (xA g) d
    · refine op_a hC hM (nI (seer (xL g) (xA g) (aD (xA g) d 0) (aD (xA g) d 1))) (fre1 (xL g) (xA g) d) (hC.2.1.done hd) rfl ?_ ?_
      · intro V1 e1 hC1
        have e0 : fX6_ofDeed V1 2 (nI d) 0 = some (nI (aD (xA g) d 0)) := c_ofDeed hC1.1 hC1.2.1 hd (k := 0) (by omega) (by omega)
        have e01 : fX6_ofDeed V1 2 (nI d) 1 = some (nI (aD (xA g) d 1)) := c_ofDeed hC1.1 hC1.2.1 hd (k := 1) (by omega) (by omega)
        obtain ⟨V2, e2, hy2⟩ := c_witness hC1 (p := aD (xA g) d 0) (by omega) (t := aD (xA g) d 1) (by omega)
        have hC2 := hC1.ly hy2
        obtain ⟨V3, e3, hR3, hd3⟩ := c_addSeen (b := seer (xL g) (xA g) (aD (xA g) d 0) (aD (xA g) d 1)) hC2.1 hC2.2.1 (by omega) hd
        refine ⟨V3, ?_, hR3, hy2.d.tr hd3⟩
        show fX9_done V _ = _
        unfold fX9_done
        rw [n_deed hC.1, b1]
        simp only [if_true, q_N1]
        rw [c_isSo hC.1 hC.2.1 hd, q_R, q_ifb, hs, if_neg (by decide), e1, q_R, e0, q_R, e01, q_R, e2, q_I, e3, q_R]
      · intro V1 V2 hT e2 hT2
        obtain ⟨V3, e3, hT3, hd3⟩ := m_isDone hT2 hd
        have f0 : fX10_ofDeed V3 (nI d) 0 = some (nI (aD (xA g) d 0)) := by
          have := m_ofDeed hT3.1 hT3.2.1 hd (k := 0) (by omega) (by omega)
          have e : aD (fre1 (xL g) (xA g) d) d 0 = aD (xA g) d 0 := if_neg (by omega)
          rw [e] at this
          exact this
        have f1 : fX10_ofDeed V3 (nI d) 1 = some (nI (aD (xA g) d 1)) := by
          have := m_ofDeed hT3.1 hT3.2.1 hd (k := 1) (by omega) (by omega)
          have e : aD (fre1 (xL g) (xA g) d) d 1 = aD (xA g) d 1 := if_neg (by omega)
          rw [e] at this
          exact this
        obtain ⟨V4, e4, hy4⟩ := m_seersNow hT3 (p := aD (xA g) d 0) (by omega) (t := aD (xA g) d 1) (by omega)
        have e4 : fX10_seersNow V3 (nI (aD (xA g) d 0)) (nI (aD (xA g) d 1)) = some (nI (seer (xL g) (xA g) (aD (xA g) d 0) (aD (xA g) d 1)), V4) := e4
        refine ⟨V4, ?_, (hT3.y hy4).1, hd3.tr hy4.d⟩
        show fX10_done V1 _ = _
        unfold fX10_done
        rw [q_lt, t0_e, m_noDeed hT.1 hT.2.1, b1, q_R, show bI (!true) = 0 from rfl, m_thr0, q_I, if_pos rfl, m_isSo hT.1 hT.2.1 hd, hs, q_R, show bI false = 0 from rfl, m_thr0, q_I, if_pos rfl, e2, q_R, e3, q_R, f0, q_R, f1, q_R, e4, q_I]
    · refine op_x hC hM ISE ?_ (m_thr ⟨0, ?_⟩)
      · show fX9_done V _ = _
        unfold fX9_done
        rw [n_deed hC.1, b1]
        simp only [if_true, q_N1]
        rw [c_isSo hC.1 hC.2.1 hd, q_R, q_ifb, hs, if_pos rfl]
      · have hT := hM.t0
        show fX10_done V _ = _
        unfold fX10_done
        rw [q_lt, t0_e, m_noDeed hT.1 hT.2.1, b1, q_R, show bI (!true) = 0 from rfl, m_thr0, q_I, if_pos rfl, m_isSo hT.1 hT.2.1 hd, hs, q_R, show bI true = 1 from rfl, m_thr1, q_I, if_neg q_10, h2]
  · refine op_x hC hM IOOB ?_ (m_thr ⟨0, ?_⟩)
    · show fX9_done V _ = _
      unfold fX9_done
      rw [n_deed hC.1, nf b1]; rfl
    · have hT := hM.t0
      show fX10_done V _ = _
      unfold fX10_done
      rw [q_lt, t0_e, m_noDeed hT.1 hT.2.1, nf b1, q_R, show bI (!false) = 1 from rfl, m_thr1, q_I, if_neg q_10, h1]
end OP
