/-! ===== counts and sets of houses and deeds ===== -/
/-- a set gathered by a loop of deeds, written nowhere -/
theorem or0 (a : Nat) : nI a ||| (0 : Int32) = nI a := by rw [q_lit, q_or, Nat.or_zero]
theorem add0 (a : Nat) : nI a + (0 : Int32) = nI a := by rw [q_lit, nI_add, Nat.add_zero]
section OP
variable {V : VT} {i : Nat} {A : AT} {L : Fa → Bool}
def owF (A : AT) (h d : Nat) : Bool := !so A d && ((aD A d 3).testBit h && !(aD A d 4).testBit h)
def lcF (A : AT) (h d : Nat) : Bool := !so A d && !(aD A d 3).testBit h
def unF (A : AT) (h d : Nat) : Bool := !so A d && !(aD A d 4).testBit h
def hbF (A : AT) (d : Nat) : Bool := !so A d && !decide (aD A d 3 = 0)
theorem c_owed (hR : RS V i A) (hW : WA A) {h : Nat} (hh : h < aS A 0) : fX6_owed V i (nI h) = some (nI (bs (owF A h) (aS A 1))) := by
  have h1 := hW.1.2.1
  unfold fX6_owed
  have e := lq (f := iX6_owed_L4 V i) (r := nI (bs (owF A h) (aS A 1))) (fun k => bs (owF A h) k) (fun a k => (nI h, nI a, nI k)) (aS A 1) (by omega)
    (by
      intro k hk
      unfold iX6_owed_L4 fX6_owed_L4
      simp only []
      rw [hR.1.2.1, if_neg (nI_ge hk (by omega)), c_isSo hR hW hk, q_R, q_ifb, c_hasSeen hR hW hh hk, q_R, q_ifb, c_hasSaid hR hW hh hk, q_R, q_ifb, q_shl (by omega)]
      simp only [q_lt, nI_1]
      have es := bs_s (owF A h) k
      unfold owF at es ⊢
      rw [es]
      cases so A k <;> cases (aD A k 3).testBit h <;> cases (aD A k 4).testBit h <;> simp [fa_or])
    (by
      unfold iX6_owed_L4 fX6_owed_L4
      simp only []
      rw [hR.1.2.1, if_pos (nI_le (Nat.le_refl _) (by omega))])
  have e : it_ (iX6_owed_L4 V i) FV (nI h, 0, 0) = _ := e
  rw [e, q_R]
theorem c_lacking (hR : RS V i A) (hW : WA A) {h : Nat} (hh : h < aS A 0) : fX6_lacking V i (nI h) = some (nI (bs (lcF A h) (aS A 1))) := by
  have h1 := hW.1.2.1
  unfold fX6_lacking
  have e := lq (f := iX6_lacking_L4 V i) (r := nI (bs (lcF A h) (aS A 1))) (fun k => bs (lcF A h) k) (fun a k => (nI h, nI a, nI k)) (aS A 1) (by omega)
    (by
      intro k hk
      unfold iX6_lacking_L4 fX6_lacking_L4
      simp only []
      rw [hR.1.2.1, if_neg (nI_ge hk (by omega)), c_isSo hR hW hk, q_R, q_ifb, c_hasSeen hR hW hh hk, q_R, q_ifb, q_shl (by omega)]
      simp only [q_lt, nI_1]
      have es := bs_s (lcF A h) k
      unfold lcF at es ⊢
      rw [es]
      cases so A k <;> cases (aD A k 3).testBit h <;> simp [fa_or])
    (by
      unfold iX6_lacking_L4 fX6_lacking_L4
      simp only []
      rw [hR.1.2.1, if_pos (nI_le (Nat.le_refl _) (by omega))])
  have e : it_ (iX6_lacking_L4 V i) FV (nI h, 0, 0) = _ := e
  rw [e, q_R]
theorem c_unsaid (hR : RS V i A) (hW : WA A) {h : Nat} (hh : h < aS A 0) : fX6_unsaid V i (nI h) = some (nI (fb_ct (unF A h) (aS A 1))) := by
  have h1 := hW.1.2.1
  unfold fX6_unsaid
  have e := lq (f := iX6_unsaid_L4 V i) (r := nI (fb_ct (unF A h) (aS A 1))) (fun k => fb_ct (unF A h) k) (fun a k => (nI h, nI a, nI k)) (aS A 1) (by omega)
    (by
      intro k hk
      unfold iX6_unsaid_L4 fX6_unsaid_L4
      simp only []
      rw [hR.1.2.1, if_neg (nI_ge hk (by omega)), c_isSo hR hW hk, q_R, q_ifb, c_hasSaid hR hW hh hk, q_R, q_ifb]
      simp only [q_lt, nI_1]
      have es := fb_ct_succ (unF A h) k
      unfold unF at es ⊢
      rw [es]
      cases so A k <;> cases (aD A k 4).testBit h <;> simp)
    (by
      unfold iX6_unsaid_L4 fX6_unsaid_L4
      simp only []
      rw [hR.1.2.1, if_pos (nI_le (Nat.le_refl _) (by omega))])
  have e : it_ (iX6_unsaid_L4 V i) FV (nI h, 0, 0) = _ := e
  rw [e, q_R]
theorem q_e0 {n : Nat} (h : n < 2 ^ 31) : nI n = 0 ↔ n = 0 := by
  constructor
  · intro e
    exact (nI_eq (b := 0) h (by omega)).1 e
  · intro e; rw [e]; rfl
theorem c_halfBook (hR : RS V i A) (hW : WA A) : fX6_halfBook V i = some (nI (bs (hbF A) (aS A 1))) := by
  have h1 := hW.1.2.1
  unfold fX6_halfBook
  have e := lq (f := iX6_halfBook_L4 V i) (r := nI (bs (hbF A) (aS A 1))) (fun k => bs (hbF A) k) (fun a k => (nI a, nI k)) (aS A 1) (by omega)
    (by
      intro k hk
      have h3 := (hW.2.2.1 k hk).2.2.2.1
      have e3 : fX6_ofDeed V i (nI k) 3 = some (nI (aD A k 3)) := c_ofDeed hR hW hk (k := 3) (by omega) (by omega)
      unfold iX6_halfBook_L4 fX6_halfBook_L4
      simp only []
      rw [hR.1.2.1, if_neg (nI_ge hk (by omega)), c_isSo hR hW hk, q_R, q_ifb, e3, q_R, q_shl (by omega)]
      simp only [q_lt, nI_1, q_e0 (show aD A k 3 < 2 ^ 31 by omega)]
      have es := bs_s (hbF A) k
      unfold hbF at es ⊢
      rw [es]
      by_cases z : aD A k 3 = 0 <;> cases so A k <;> simp [fa_or, z])
    (by
      unfold iX6_halfBook_L4 fX6_halfBook_L4
      simp only []
      rw [hR.1.2.1, if_pos (nI_le (Nat.le_refl _) (by omega))])
  have e : it_ (iX6_halfBook_L4 V i) FV (0, 0) = _ := e
  rw [e, q_R]
theorem m_owesOf (hM : RM (V 76) A) (hW : WA A) {h : Nat} (hh : h < aS A 0) : fX10_owesOf V (nI h) = some (nI (bs (owF A h) (aS A 1))) := by
  have h0 := hW.1.1
  have h1 := hW.1.2.1
  unfold fX10_owesOf
  have e := lq (f := iX10_owesOf_L4 V) (r := nI (bs (owF A h) (aS A 1))) (fun k => bs (owF A h) k) (fun a k => (nI h, nI a, nI k)) (aS A 1) (by omega)
    (by
      intro k hk
      have hdd := hW.2.2.1 k hk
      have e3 : fX10_ofDeed V (nI k) 3 = some (nI (aD A k 3)) := m_ofDeed hM hW hk (k := 3) (by omega) (by omega)
      have e4 : fX10_ofDeed V (nI k) 4 = some (nI (aD A k 4)) := m_ofDeed hM hW hk (k := 4) (by omega) (by omega)
      unfold iX10_owesOf_L4 fX10_owesOf_L4
      simp only []
      rw [m_deeds hM, q_R, if_neg (nI_ge hk (by omega)), m_isSo hM hW hk, q_R, q_ifb, e3, q_R, m_has (by omega) (by omega), q_R, q_ifb, e4, q_R, m_has (by omega) (by omega), q_R, q_ifb, q_shl (by omega)]
      simp only [q_lt, nI_1, or0]
      have es := bs_s (owF A h) k
      unfold owF at es ⊢
      rw [es]
      cases so A k <;> cases (aD A k 3).testBit h <;> cases (aD A k 4).testBit h <;> simp [fa_or])
    (by
      unfold iX10_owesOf_L4 fX10_owesOf_L4
      simp only []
      rw [m_deeds hM, q_R, if_pos (nI_le (Nat.le_refl _) (by omega))])
  have e : it_ (iX10_owesOf_L4 V) FV (nI h, 0, 0) = _ := e
  rw [e, q_R]
theorem m_lacksOf (hM : RM (V 76) A) (hW : WA A) {h : Nat} (hh : h < aS A 0) : fX10_lacksOf V (nI h) = some (nI (bs (lcF A h) (aS A 1))) := by
  have h0 := hW.1.1
  have h1 := hW.1.2.1
  unfold fX10_lacksOf
  have e := lq (f := iX10_lacksOf_L4 V) (r := nI (bs (lcF A h) (aS A 1))) (fun k => bs (lcF A h) k) (fun a k => (nI h, nI a, nI k)) (aS A 1) (by omega)
    (by
      intro k hk
      have hdd := hW.2.2.1 k hk
      have e3 : fX10_ofDeed V (nI k) 3 = some (nI (aD A k 3)) := m_ofDeed hM hW hk (k := 3) (by omega) (by omega)
      unfold iX10_lacksOf_L4 fX10_lacksOf_L4
      simp only []
      rw [m_deeds hM, q_R, if_neg (nI_ge hk (by omega)), m_isSo hM hW hk, q_R, q_ifb, e3, q_R, m_has (by omega) (by omega), q_R, q_ifb, q_shl (by omega)]
      simp only [q_lt, nI_1, or0]
      have es := bs_s (lcF A h) k
      unfold lcF at es ⊢
      rw [es]
      cases so A k <;> cases (aD A k 3).testBit h <;> simp [fa_or])
    (by
      unfold iX10_lacksOf_L4 fX10_lacksOf_L4
      simp only []
      rw [m_deeds hM, q_R, if_pos (nI_le (Nat.le_refl _) (by omega))])
  have e : it_ (iX10_lacksOf_L4 V) FV (nI h, 0, 0) = _ := e
  rw [e, q_R]
def brF (A : AT) (d h : Nat) : Nat := if (aD A d 4).testBit h then 0 else aH A h 5
theorem c_bribe (hR : RS V i A) (hW : WA A) {d : Nat} (hd : d < aS A 1) : fX6_bribe V i (nI d) = some (nI (fb_sm (brF A d) (aS A 0))) := by
  have h0 := hW.1.1
  unfold fX6_bribe
  have e := lq (f := iX6_bribe_L4 V i) (r := nI (fb_sm (brF A d) (aS A 0))) (fun k => fb_sm (brF A d) k) (fun a k => (nI d, nI a, nI k)) (aS A 0) (by omega)
    (by
      intro k hk
      have e5 : fX6_ofHouse V i (nI k) 5 = some (nI (aH A k 5)) := c_ofHouse hR hW hk (k := 5) (by omega)
      unfold iX6_bribe_L4 fX6_bribe_L4
      simp only []
      rw [hR.1.1, if_neg (nI_ge hk (by omega)), c_hasSaid hR hW hk hd, q_R, q_ifb, e5, q_R]
      simp only [q_lt, nI_1, nI_add]
      rw [fb_sm_succ]
      unfold brF
      cases (aD A d 4).testBit k <;> simp)
    (by
      unfold iX6_bribe_L4 fX6_bribe_L4
      simp only []
      rw [hR.1.1, if_pos (nI_le (Nat.le_refl _) (by omega))])
  have e : it_ (iX6_bribe_L4 V i) FV (nI d, 0, 0) = _ := e
  rw [e, q_R]
theorem m_bribeOf (hM : RM (V 76) A) (hW : WA A) {d : Nat} (hd : d < aS A 1) : fX10_bribeOf V (nI d) = some (nI (fb_sm (brF A d) (aS A 0))) := by
  have h0 := hW.1.1
  have hdd := hW.2.2.1 d hd
  unfold fX10_bribeOf
  have e := lq (f := iX10_bribeOf_L4 V) (r := nI (fb_sm (brF A d) (aS A 0))) (fun k => fb_sm (brF A d) k) (fun a k => (nI d, nI a, nI k)) (aS A 0) (by omega)
    (by
      intro k hk
      have e5 : fX10_of V (nI k) 5 = some (nI (aH A k 5)) := m_of hM hW hk (k := 5) (by omega)
      have e4 : fX10_ofDeed V (nI d) 4 = some (nI (aD A d 4)) := m_ofDeed hM hW hd (k := 4) (by omega) (by omega)
      unfold iX10_bribeOf_L4 fX10_bribeOf_L4
      simp only []
      rw [m_houses hM, q_R, if_neg (nI_ge hk (by omega)), e4, q_R, m_has (by omega) (by omega), q_R, q_ifb, e5, q_R]
      simp only [q_lt, nI_1, nI_add, add0]
      rw [fb_sm_succ]
      unfold brF
      cases (aD A d 4).testBit k <;> simp)
    (by
      unfold iX10_bribeOf_L4 fX10_bribeOf_L4
      simp only []
      rw [m_houses hM, q_R, if_pos (nI_le (Nat.le_refl _) (by omega))])
  have e : it_ (iX10_bribeOf_L4 V) FV (nI d, 0, 0) = _ := e
  rw [e, q_R]
theorem c_total (hR : RS V i A) (hW : WA A) {q : Nat} (hq : q < 7) : fX6_total V i (nI q) = some (nI (fb_sm (fun h => aH A h q) (aS A 0))) := by
  have h0 := hW.1.1
  unfold fX6_total
  have e := lq (f := iX6_total_L4 V i) (r := nI (fb_sm (fun h => aH A h q) (aS A 0))) (fun k => fb_sm (fun h => aH A h q) k) (fun a k => (nI q, nI a, nI k)) (aS A 0) (by omega)
    (by
      intro k hk
      unfold iX6_total_L4 fX6_total_L4
      simp only []
      rw [hR.1.1, if_neg (nI_ge hk (by omega)), c_ofHouse hR hW hk hq, q_R, nI_add, q_lt, nI_1, q_lt]
      rfl)
    (by
      unfold iX6_total_L4 fX6_total_L4
      simp only []
      rw [hR.1.1, if_pos (nI_le (Nat.le_refl _) (by omega))])
  have e : it_ (iX6_total_L4 V i) FV (nI q, 0, 0) = _ := e
  rw [e, q_R]
theorem m_sumOf (hM : RM (V 76) A) (hW : WA A) {q : Nat} (hq : q < 8) : fX10_sumOf V (nI q) = some (nI (fb_sm (fun h => aH A h q) (aS A 0))) := by
  have h0 := hW.1.1
  unfold fX10_sumOf
  have e := lq (f := iX10_sumOf_L4 V) (r := nI (fb_sm (fun h => aH A h q) (aS A 0))) (fun k => fb_sm (fun h => aH A h q) k) (fun a k => (nI q, nI a, nI k)) (aS A 0) (by omega)
    (by
      intro k hk
      unfold iX10_sumOf_L4 fX10_sumOf_L4
      simp only []
      rw [m_houses hM, q_R, if_neg (nI_ge hk (by omega)), m_of hM hW hk hq, q_R, nI_add, q_lt, nI_1, q_lt]
      rfl)
    (by
      unfold iX10_sumOf_L4 fX10_sumOf_L4
      simp only []
      rw [m_houses hM, q_R, if_pos (nI_le (Nat.le_refl _) (by omega))])
  have e : it_ (iX10_sumOf_L4 V) FV (nI q, 0, 0) = _ := e
  rw [e, q_R]
theorem m_awayOnes (hM : RM (V 76) A) (hW : WA A) : fX10_awayOnes V = some (nI (bs (aw A) (aS A 0))) := by
  have h0 := hW.1.1
  unfold fX10_awayOnes
  have e := lq (f := iX10_awayOnes_L4 V) (r := nI (bs (aw A) (aS A 0))) (fun k => bs (aw A) k) (fun a k => (nI a, nI k)) (aS A 0) (by omega)
    (by
      intro k hk
      have h7 := (hW.2.1 k hk).2.2.2.2.2.2.2
      have e7 : fX10_of V (nI k) 7 = some (nI (aH A k 7)) := m_of hM hW hk (k := 7) (by omega)
      unfold iX10_awayOnes_L4 fX10_awayOnes_L4
      simp only []
      rw [m_houses hM, q_R, if_neg (nI_ge hk (by omega)), e7, q_R]
      by_cases a : aH A k 7 = 1
      · rw [a, show nI 1 <<< (nI k &&& 31) = nI (2 ^ k) from q_shl (by omega), bs_st (show aw A k = true from decide_eq_true a), q_lt, nI_1, q_lt]
      · rw [show aH A k 7 = 0 by omega, show nI 0 <<< (nI k &&& 31) = nI (0 * 2 ^ k) from pk_shlN _ k (q_sl k (by omega)) (by omega), Nat.zero_mul, q_or, Nat.or_zero, bs_sf (show aw A k = false from decide_eq_false a), q_lt, nI_1, q_lt])
    (by
      unfold iX10_awayOnes_L4 fX10_awayOnes_L4
      simp only []
      rw [m_houses hM, q_R, if_pos (nI_le (Nat.le_refl _) (by omega))])
  have e : it_ (iX10_awayOnes_L4 V) FV (0, 0) = _ := e
  rw [e, q_R]
/-! ===== book ===== -/
theorem m_book9 (hT : MT V A L) {x : Int32} : it_ iX10_book_L9 FV (V, x, 0, 0) = some (V, x, nI (bs (hbF A) (aS A 1))) := by
  have h1 := hT.2.1.1.2.1
  exact lq (f := iX10_book_L9) (r := (V, x, nI (bs (hbF A) (aS A 1)))) (fun k => bs (hbF A) k) (fun a k => (V, x, nI a, nI k)) (aS A 1) (by omega)
    (by
      intro k hk
      have h3 := (hT.2.1.2.2.1 k hk).2.2.2.1
      have e3 : fX10_ofDeed V (nI k) 3 = some (nI (aD A k 3)) := m_ofDeed hT.1 hT.2.1 hk (k := 3) (by omega) (by omega)
      unfold iX10_book_L9 fX10_book_L9
      simp only []
      rw [m_deeds hT.1, q_R, if_neg (nI_ge hk (by omega)), m_isSo hT.1 hT.2.1 hk, q_R, q_ifb, e3, q_R, q_shl (by omega)]
      simp only [q_lt, nI_1, or0, q_e0 (show aD A k 3 < 2 ^ 31 by omega)]
      have es := bs_s (hbF A) k
      unfold hbF at es ⊢
      rw [es]
      by_cases z : aD A k 3 = 0 <;> cases so A k <;> simp [fa_or, z])
    (by
      unfold iX10_book_L9 fX10_book_L9
      simp only []
      rw [m_deeds hT.1, q_R, if_pos (nI_le (Nat.le_refl _) (by omega))])
theorem op_book (hI : INV V) (hf : Bool) : OpI (fun V => ob_R (fX9_book V (bI hf)) fun y => some (y, V)) (fun V => fX10_book V (bI hf)) V := by
  obtain ⟨g, hC, hM⟩ := hI
  refine op_i hC hM (if hf then nI (bs (hbF (xA g)) (aS (xA g) 1)) else nI (bs (so (xA g)) (aS (xA g) 1))) ⟨V, ?_, Cs.rf⟩ ?_
  · show ob_R (fX9_book V _) _ = _
    unfold fX9_book
    rw [q_ifb, c_halfBook hC.1 hC.2.1, q_R, hC.1.1.2.2.2.2.1]
    cases hf <;> rfl
  · intro V1 hM1
    have hT := hM1.t0
    refine ⟨t0 V1, ?_, t0_m⟩
    show fX10_book V1 _ = _
    unfold fX10_book
    rw [q_lt, t0_e, m_book9 hT, q_R]
    simp only [dt3_]
    rw [m_soOnes hT, q_R, q_ifb]
    cases hf <;> rfl
/-! ===== holds ===== -/
def hoS (A : AT) : Nat → Int32 × Int32
  | 0 => (-1, -1)
  | h + 1 => if (hoS A h).1 < nI (fb_ct (unF A h) (aS A 1)) then (nI (fb_ct (unF A h) (aS A 1)), nI h) else hoS A h
theorem op_holds (hI : INV V) : OpI (fun V => ob_R (fX9_holds V) fun y => some (y, V)) (fun V => fX10_holds V) V := by
  obtain ⟨g, hC, hM⟩ := hI
  have h0 := hC.2.1.1.1
  have h1 := hC.2.1.1.2.1
  refine op_i hC hM (hoS (xA g) (aS (xA g) 0)).2 ⟨V, ?_, Cs.rf⟩ ?_
  · show ob_R (fX9_holds V) _ = _
    unfold fX9_holds
    have e := lq (f := iX9_holds_L6 V) (r := (hoS (xA g) (aS (xA g) 0)).2) (fun k => hoS (xA g) k) (fun a k => (a.1, a.2, nI k)) (aS (xA g) 0) (by omega)
      (by
        intro k hk
        unfold iX9_holds_L6 fX9_holds_L6
        simp only []
        rw [hC.1.1.1, if_neg (nI_ge hk (by omega)), c_unsaid hC.1 hC.2.1 hk, q_R]
        have es : hoS (xA g) (k + 1) = if (hoS (xA g) k).1 < nI (fb_ct (unF (xA g) k) (aS (xA g) 1)) then (nI (fb_ct (unF (xA g) k) (aS (xA g) 1)), nI k) else hoS (xA g) k := rfl
        rw [es]
        by_cases c : (hoS (xA g) k).1 < nI (fb_ct (unF (xA g) k) (aS (xA g) 1))
        · rw [if_pos c, if_neg (fa_of_lt c).2.1, q_lt, nI_1]
        · rw [if_neg c, if_pos (fa_of_nlt c), q_lt, nI_1])
      (by
        unfold iX9_holds_L6 fX9_holds_L6
        simp only []
        rw [hC.1.1.1, if_pos (nI_le (Nat.le_refl _) (by omega))])
    have e : it_ (iX9_holds_L6 V) FV (-1, -1, 0) = _ := e
    rw [e, q_R, q_R]
  · intro V1 hM1
    have hT := hM1.t0
    refine ⟨t0 V1, ?_, t0_m⟩
    show fX10_holds V1 = _
    unfold fX10_holds
    rw [q_lt, t0_e]
    have e := lq (f := iX10_holds_L11) (r := ((hoS (xA g) (aS (xA g) 0)).2, t0 V1)) (fun k => hoS (xA g) k) (fun a k => (t0 V1, a.2, a.1, nI k)) (aS (xA g) 0) (by omega)
      (by
        intro k hk
        unfold iX10_holds_L11 fX10_holds_L11
        simp only []
        rw [m_houses hT.1, q_R, if_neg (nI_ge hk (by omega))]
        have e2 := lq (f := iX10_holds_L25) (r := (t0 V1, (hoS (xA g) k).2, (hoS (xA g) k).1, nI k, nI (fb_ct (unF (xA g) k) (aS (xA g) 1)))) (fun j => fb_ct (unF (xA g) k) j) (fun a j => (t0 V1, (hoS (xA g) k).2, (hoS (xA g) k).1, nI k, nI a, nI j)) (aS (xA g) 1) (by omega)
          (by
            intro j hj
            have hdd := hT.2.1.2.2.1 j hj
            have e4 : fX10_ofDeed (t0 V1) (nI j) 4 = some (nI (aD (xA g) j 4)) := m_ofDeed hT.1 hT.2.1 hj (k := 4) (by omega) (by omega)
            unfold iX10_holds_L25 fX10_holds_L25
            simp only []
            rw [m_deeds hT.1, q_R, if_neg (nI_ge hj (by omega)), m_isSo hT.1 hT.2.1 hj, q_R, q_ifb, e4, q_R, m_has (by omega) (by omega), q_R, q_ifb]
            simp only [q_lt, nI_1, add0]
            have es := fb_ct_succ (unF (xA g) k) j
            unfold unF at es ⊢
            rw [es]
            cases so (xA g) j <;> cases (aD (xA g) j 4).testBit k <;> simp)
          (by
            unfold iX10_holds_L25 fX10_holds_L25
            simp only []
            rw [m_deeds hT.1, q_R, if_pos (nI_le (Nat.le_refl _) (by omega))])
        have e2 : it_ iX10_holds_L25 FV (t0 V1, (hoS (xA g) k).2, (hoS (xA g) k).1, nI k, 0, 0) = _ := e2
        rw [e2, q_R]
        simp only [dt5_]
        have es : hoS (xA g) (k + 1) = if (hoS (xA g) k).1 < nI (fb_ct (unF (xA g) k) (aS (xA g) 1)) then (nI (fb_ct (unF (xA g) k) (aS (xA g) 1)), nI k) else hoS (xA g) k := rfl
        rw [es]
        by_cases c : (hoS (xA g) k).1 < nI (fb_ct (unF (xA g) k) (aS (xA g) 1))
        · rw [if_pos c, if_pos c, q_lt, nI_1]
        · rw [if_neg c, if_neg c, q_lt, nI_1])
      (by
        unfold iX10_holds_L11 fX10_holds_L11
        simp only []
        rw [m_houses hT.1, q_R, if_pos (nI_le (Nat.le_refl _) (by omega))])
    have e : it_ iX10_holds_L11 FV (t0 V1, -1, -1, 0) = _ := e
    rw [e, q_R]
end OP
