/-! ===== the log ===== -/
section OP
variable {V : VT} {i : Nat} {A : AT} {L : Fa → Bool}
def lgR (A : AT) (j : Nat) : Nat := (aL A j 0 * 8 + aL A j 1) * 10 + aL A j 2
theorem c_logSize (hR : RS V i A) (hW : WA A) : fX6_logSize V i = some (nI (aS A 8)) := by
  have hw := WA_w hW
  have e8 : aS A 8 = min 60 (aS A 7) := hW.1.2.2.2.2.2.2.2.2
  have e : (if (60 : Int32) < nI (aS A 7) then (60 : Int32) else nI (aS A 7)) = nI (min 60 (aS A 7)) := q_mi (a := 60) (by omega) (by omega)
  unfold fX6_logSize
  rw [hR.1.2.2.2.2.2.2.2.2.2, e, e8]
theorem c_logRow (hR : RS V i A) (hW : WA A) {j : Nat} (hj : j < aS A 8) : fX6_logRow V i (nI j) = some (nI (lgR A j)) := by
  have hw := WA_w hW
  have e8 : aS A 8 = min 60 (aS A 7) := hW.1.2.2.2.2.2.2.2.2
  unfold fX6_logRow
  rw [if_neg (nI_pos (by omega)), c_logSize hR hW, q_R, if_pos (nI_lt hj (by omega)), hR.1.2.2.2.2.2.2.2.2.2, show nI (aS A 7) - 1 = nI (aS A 7 - 1) from pk_sub (b := 1) (by omega), pk_sub (by omega), q_r60 (by omega), q_lt, if_neg (nI_pos (by omega)), if_neg (nI_ge (show (aS A 7 - 1 - j) % 60 < 60 by omega) (by omega)), q_rd (show (aS A 7 - 1 - j) % 60 < 60 by omega) (by omega), nI_clamp (by omega), hR.2.2.2.2 j hj]
  rfl
theorem c_logNo (hR : RS V i A) (hW : WA A) {x : Int32} (hx : ¬ ix x (aS A 8) = true) : fX6_logRow V i x = some (-1) := by
  unfold fX6_logRow
  by_cases c : x < 0
  · rw [if_pos c]
  · rw [if_neg c, c_logSize hR hW, q_R, if_neg (fun e => hx (decide_eq_true ⟨c, e⟩))]
theorem lgR_b (hW : WA A) {j : Nat} (hj : j < aS A 8) : lgR A j < 2 ^ 30 ∧ lgR A j / 80 = aL A j 0 ∧ lgR A j / 10 % 8 = aL A j 1 ∧ lgR A j % 10 = aL A j 2 := by
  obtain ⟨a, b, c⟩ := hW.2.2.2 j hj
  unfold lgR
  omega
theorem c_logDay (hR : RS V i A) (hW : WA A) {j : Nat} (hj : j < aS A 8) : fX6_logDay V i (nI j) = some (nI (aL A j 0)) := by
  obtain ⟨a, b, c, d⟩ := lgR_b hW hj
  unfold fX6_logDay
  rw [c_logRow hR hW hj, q_R, if_neg (q_m1 (by omega)), show nI (lgR A j) / 80 = nI (lgR A j / 80) from pk_div (d := 80) (by omega) (by omega) (by omega), b]
theorem c_logHouse (hR : RS V i A) (hW : WA A) {j : Nat} (hj : j < aS A 8) : fX6_logHouse V i (nI j) = some (nI (aL A j 1)) := by
  obtain ⟨a, b, c, d⟩ := lgR_b hW hj
  unfold fX6_logHouse
  rw [c_logRow hR hW hj, q_R, if_neg (q_m1 (by omega)), show nI (lgR A j) / 10 = nI (lgR A j / 10) from pk_div (d := 10) (by omega) (by omega) (by omega), show nI (lgR A j / 10) - nI (lgR A j / 10) / 8 * 8 = nI (lgR A j / 10 % 8) from pk_rem (d := 8) (by omega) (by omega) (by omega), c]
theorem c_logDeed (hR : RS V i A) (hW : WA A) {j : Nat} (hj : j < aS A 8) : fX6_logDeed V i (nI j) = some (nI (aL A j 2)) := by
  obtain ⟨a, b, c, d⟩ := lgR_b hW hj
  unfold fX6_logDeed
  rw [c_logRow hR hW hj, q_R, if_neg (q_m1 (by omega)), q_r10 (by omega), d]
theorem m_ofLog (hM : RM (V 76) A) (hW : WA A) {j k : Nat} (hj : j < aS A 8) (hk : k < 3) : fX10_ofLog V (nI j) (nI k) = some (nI (aL A j k)) := by
  have h8 := WA_l hW
  unfold fX10_ofLog
  rw [q_mulL, q_addL, nI_add, q_rd (by omega) (by omega), nI_clamp (by omega), hM.2.2.2.2.2 j k hj hk]
theorem op_log {cd : String → Int32} (hI : INV V) (h1 : cd NSE = 1) (x1 x2 : Int32) : OpE (fun V => fX9_log V x1 x2) (fun V => fX10_log V x1 x2) cd V := by
  obtain ⟨g, hC, hM⟩ := hI
  have h8 := WA_l hC.2.1
  by_cases b2 : ix x2 3 = true
  · obtain ⟨k, hk, rfl⟩ := ix_t (by omega) b2
    have p10 : ∀ V1, MT (t0 V1) (xA g) (xL g) → fX10_log V1 x1 (nI k) = if bI (ix x1 (aS (xA g) 8)) = 0 then some (-1, t0 V1) else ob_R (fX10_ofLog (t0 V1) x1 (nI k)) fun y => some (y, t0 V1) := by
      intro V1 hT
      unfold fX10_log
      rw [q_lt, t0_e, show (2 : Int32) = nI 2 from rfl, m_ix1 _ (by omega), b2, q_R, if_neg (show ¬ bI true = 0 by decide)]
      unfold fX10_log_j20
      rw [m_thr0, q_I, if_pos rfl, q_rdl (by omega) (by omega), q_cl (by omega), show t0 V1 76 (OfNat.ofNat 8) = _ from hT.1.1 8 (by omega), m_ix _ (by omega), q_R]
    by_cases b1 : ix x1 (aS (xA g) 8) = true
    · obtain ⟨j, hj, rfl⟩ := ix_t (by omega) b1
      refine op_q hC hM (nI (aL (xA g) j k)) ⟨V, ?_, Cs.rf⟩ (fun V1 hM1 => m_ans ⟨t0 V1, ?_, Mq.rf⟩)
      · show fX9_log V _ _ = _
        unfold fX9_log
        have k3 : k = 0 ∨ k = 1 ∨ k = 2 := by omega
        rcases k3 with rfl | rfl | rfl
        · rw [if_pos (show nI 0 = 0 from rfl), c_logDay hC.1 hC.2.1 hj, q_R]
        · rw [if_neg (by decide), if_pos (show nI 1 = 1 from rfl), c_logHouse hC.1 hC.2.1 hj, q_R]
        · rw [if_neg (by decide), if_neg (by decide), if_pos (show nI 2 = 2 from rfl), c_logDeed hC.1 hC.2.1 hj, q_R]
      · have hT := hM1.t0
        rw [p10 V1 hT, b1, if_neg (show ¬ bI true = 0 by decide), m_ofLog hT.1 hT.2.1 hj hk, q_R]
    · refine op_q hC hM (-1) ⟨V, ?_, Cs.rf⟩ (fun V1 hM1 => m_ans ⟨t0 V1, ?_, Mq.rf⟩)
      · show fX9_log V _ _ = _
        unfold fX9_log fX6_logDay fX6_logHouse fX6_logDeed
        rw [c_logNo hC.1 hC.2.1 b1, q_R, if_pos rfl, q_R, q_R, if_pos rfl, q_R, q_R, if_pos rfl, q_R]
        have k3 : k = 0 ∨ k = 1 ∨ k = 2 := by omega
        rcases k3 with rfl | rfl | rfl
        · rw [if_pos (show nI 0 = 0 from rfl)]
        · rw [if_neg (by decide), if_pos (show nI 1 = 1 from rfl)]
        · rw [if_neg (by decide), if_neg (by decide), if_pos (show nI 2 = 2 from rfl)]
      · rw [p10 V1 hM1.t0, nf b1, if_pos (show bI false = 0 from rfl)]
  · have n := fun j hj => ix_cases (x := x2) (n := 3) (by omega) b2 (j := j) hj
    refine op_x hC hM NSE ?_ (m_thr ⟨0, ?_⟩)
    · show fX9_log V _ _ = _
      unfold fX9_log
      rw [if_neg (show ¬ x2 = 0 from n 0 (by omega)), if_neg (show ¬ x2 = 1 from n 1 (by omega)), if_neg (show ¬ x2 = 2 from n 2 (by omega))]
    · show fX10_log V _ _ = _
      unfold fX10_log
      rw [q_lt, t0_e, show (2 : Int32) = nI 2 from rfl, m_ix1 _ (by omega), nf b2, q_R, if_pos (show bI false = 0 from rfl)]
      unfold fX10_log_j20
      rw [m_thr1, q_I, if_neg q_10, h1]
/-! ===== led ===== -/
def ldP (A : AT) (h j : Nat) : Bool := decide (aL A j 1 = h)
def ldN (A : AT) (h N : Nat) : Nat → Int32
  | 0 => -1
  | k + 1 => if ldP A h (N - 1 - k) = true then nI (aL A (N - 1 - k) 0) else ldN A h N k
theorem ldN_skip {h N k : Nat} : ∀ m, m + k = N → (∀ j, j < m → ldP A h j = false) → ldN A h N N = ldN A h N k
  | 0, e, _ => by rw [← e, Nat.zero_add]
  | m + 1, e, hn => by
    have h1 : ldN A h N N = ldN A h N (k + 1) := ldN_skip m (by omega) (fun j hj => hn j (by omega))
    have h2 : ldN A h N (k + 1) = if ldP A h (N - 1 - k) = true then nI (aL A (N - 1 - k) 0) else ldN A h N k := rfl
    rw [h1, h2, show N - 1 - k = m by omega, hn m (by omega)]
    rfl
theorem c_rowsOf (hR : RS V i A) (hW : WA A) {h : Nat} (hh : h < aS A 0) : fX6_rowsOf V i (nI h) = some (nI (fb_ct (ldP A h) (aS A 8))) := by
  have h8 := WA_l hW
  have h0 := hW.1.1
  unfold fX6_rowsOf
  have e := lq (f := iX6_rowsOf_L4 V i) (r := nI (fb_ct (ldP A h) (aS A 8))) (fun k => fb_ct (ldP A h) k) (fun a k => (nI h, nI a, nI k)) (aS A 8) (by omega)
    (by
      intro k hk
      have hl := hW.2.2.2 k hk
      unfold iX6_rowsOf_L4 fX6_rowsOf_L4
      simp only []
      rw [c_logSize hR hW, q_R, if_neg (nI_ge hk (by omega)), c_logHouse hR hW hk, q_R, fb_ct_succ]
      by_cases c : aL A k 1 = h
      · rw [c, if_pos rfl, nI_1, q_lt, nI_1, q_lt, if_pos (show ldP A h k = true from decide_eq_true c)]
      · rw [if_neg (fun e => c ((nI_eq (by omega) (by omega)).1 e)), nI_1, q_lt, if_neg (show ¬ ldP A h k = true from fun e => c (of_decide_eq_true e))]
        rfl)
    (by
      unfold iX6_rowsOf_L4 fX6_rowsOf_L4
      simp only []
      rw [c_logSize hR hW, q_R, if_pos (nI_le (Nat.le_refl _) (by omega))])
  have e : it_ (iX6_rowsOf_L4 V i) FV (nI h, 0, 0) = _ := e
  rw [e, q_R]
theorem c_lastDayOf (hR : RS V i A) (hW : WA A) {h : Nat} (hh : h < aS A 0) : fX6_lastDayOf V i (nI h) = some (ldN A h (aS A 8) (aS A 8)) := by
  have h8 := WA_l hW
  have h0 := hW.1.1
  unfold fX6_lastDayOf
  obtain ⟨r, e, rfl⟩ := it_forE (F := FV) (f := iX6_lastDayOf_L2 V i) (aS A 8) (fun k s => s = (nI h, nI k) ∧ ∀ j, j < k → ldP A h j = false) (fun r => r = ldN A h (aS A 8) (aS A 8))
    (by
      rintro k s hk ⟨rfl, hn⟩
      have hl := hW.2.2.2 k hk
      unfold iX6_lastDayOf_L2 fX6_lastDayOf_L2
      simp only []
      rw [c_logSize hR hW, q_R, if_neg (nI_ge hk (by omega)), c_logHouse hR hW hk, q_R, c_logDay hR hW hk, q_R]
      by_cases c : aL A k 1 = h
      · right
        rw [c, if_pos rfl]
        refine ⟨_, rfl, ?_⟩
        have h1 : ldN A h (aS A 8) (aS A 8) = ldN A h (aS A 8) (aS A 8 - 1 - k + 1) := ldN_skip k (by omega) hn
        have h2 : ldN A h (aS A 8) (aS A 8 - 1 - k + 1) = if ldP A h (aS A 8 - 1 - (aS A 8 - 1 - k)) = true then nI (aL A (aS A 8 - 1 - (aS A 8 - 1 - k)) 0) else ldN A h (aS A 8) (aS A 8 - 1 - k) := rfl
        rw [h1, h2, show aS A 8 - 1 - (aS A 8 - 1 - k) = k by omega, if_pos (show ldP A h k = true from decide_eq_true c)]
      · left
        rw [if_neg (fun e => c ((nI_eq (by omega) (by omega)).1 e)), nI_1, q_lt]
        refine ⟨_, rfl, rfl, fun j hj => ?_⟩
        by_cases e : j = k
        · rw [e]; exact decide_eq_false c
        · exact hn j (by omega))
    (by
      rintro s ⟨rfl, hn⟩
      unfold iX6_lastDayOf_L2 fX6_lastDayOf_L2
      simp only []
      rw [c_logSize hR hW, q_R, if_pos (nI_le (Nat.le_refl _) (by omega))]
      exact ⟨_, rfl, (ldN_skip (k := 0) (aS A 8) (by omega) hn).symm⟩) (by have := FV_ge; omega) (s := (nI h, 0)) ⟨rfl, fun j hj => absurd hj (Nat.not_lt_zero _)⟩
  rw [e, q_R]
theorem m_led (hT : MT V A L) {h : Nat} (hh : h < aS A 0) {x : Int32} : it_ iX10_led_L36 FV (V, nI h, x, 0, -1, nI (aS A 8) - 1) = some (V, x, nI (fb_ct (ldP A h) (aS A 8)), ldN A h (aS A 8) (aS A 8)) := by
  have hW := hT.2.1
  have h8 := WA_l hW
  have h0 := hW.1.1
  have e := lq (f := iX10_led_L36) (r := (V, x, nI (fb_ct (ldP A h) (aS A 8)), ldN A h (aS A 8) (aS A 8))) (fun k => (fb_ct (ldP A h) (aS A 8) - fb_ct (ldP A h) (aS A 8 - k), ldN A h (aS A 8) k)) (fun a k => (V, nI h, x, nI a.1, a.2, nI (aS A 8 - k) - 1)) (aS A 8) (by omega)
    (by
      intro k hk
      have hl := hW.2.2.2 (aS A 8 - k - 1) (by omega)
      have e1 : fX10_ofLog V (nI (aS A 8 - k - 1)) 1 = some (nI (aL A (aS A 8 - k - 1) 1)) := m_ofLog hT.1 hW (by omega) (k := 1) (by omega)
      have e0 : fX10_ofLog V (nI (aS A 8 - k - 1)) 0 = some (nI (aL A (aS A 8 - k - 1) 0)) := m_ofLog hT.1 hW (by omega) (k := 0) (by omega)
      have em : nI (aS A 8 - k - 1) + (-1) = nI (aS A 8 - (k + 1)) - 1 := by
        rw [show aS A 8 - k - 1 = aS A 8 - (k + 1) by omega]
        exact (Int32.sub_eq_add_neg _ _).symm
      unfold iX10_led_L36 fX10_led_L36
      simp only []
      rw [show nI (aS A 8 - k) - 1 = nI (aS A 8 - k - 1) from pk_sub (b := 1) (by omega), if_neg (nI_pos (by omega)), e1, q_R, e0]
      have es : ldN A h (aS A 8) (k + 1) = if ldP A h (aS A 8 - 1 - k) = true then nI (aL A (aS A 8 - 1 - k) 0) else ldN A h (aS A 8) k := rfl
      have hc := fb_ct_succ (ldP A h) (aS A 8 - k - 1)
      rw [show aS A 8 - k - 1 + 1 = aS A 8 - k by omega] at hc
      have hm := fb_ct_mono (ldP A h) (show aS A 8 - k ≤ aS A 8 by omega)
      rw [es, show aS A 8 - 1 - k = aS A 8 - k - 1 by omega]
      by_cases c : aL A (aS A 8 - k - 1) 1 = h
      · have cp : ldP A h (aS A 8 - k - 1) = true := decide_eq_true c
        rw [if_pos cp] at hc
        rw [c, if_pos rfl, nI_1, q_lt, q_R, em, q_lt, if_pos cp, show fb_ct (ldP A h) (aS A 8) - fb_ct (ldP A h) (aS A 8 - k) + 1 = fb_ct (ldP A h) (aS A 8) - fb_ct (ldP A h) (aS A 8 - (k + 1)) by rw [show aS A 8 - (k + 1) = aS A 8 - k - 1 by omega]; omega]
      · have cp : ¬ ldP A h (aS A 8 - k - 1) = true := fun e => c (of_decide_eq_true e)
        rw [if_neg cp] at hc
        rw [if_neg (fun e => c ((nI_eq (by omega) (by omega)).1 e)), em, q_lt, if_neg cp, show fb_ct (ldP A h) (aS A 8) - fb_ct (ldP A h) (aS A 8 - k) = fb_ct (ldP A h) (aS A 8) - fb_ct (ldP A h) (aS A 8 - (k + 1)) by rw [show aS A 8 - (k + 1) = aS A 8 - k - 1 by omega]; omega])
    (by
      unfold iX10_led_L36 fX10_led_L36
      simp only []
      rw [Nat.sub_self, if_pos (show nI 0 - 1 < 0 by decide)]
      rfl)
  simp only [Nat.sub_zero, Nat.sub_self] at e
  exact e
theorem op_led {cd : String → Int32} (hI : INV V) (h1 : cd IOOB = 1) (x1 : Int32) (dy : Bool) : OpE (fun V => fX9_led V x1 (bI dy)) (fun V => fX10_led V x1 (bI dy)) cd V := by
  obtain ⟨g, hC, hM⟩ := hI
  have h8 := hC.2.1.1.1
  by_cases b1 : ix x1 (aS (xA g) 0) = true
  · obtain ⟨h, hh, rfl⟩ := ix_t (by omega) b1
    refine op_q hC hM (if dy then ldN (xA g) h (aS (xA g) 8) (aS (xA g) 8) else nI (fb_ct (ldP (xA g) h) (aS (xA g) 8))) ⟨V, ?_, Cs.rf⟩ (fun V1 hM1 => m_ans ⟨t0 V1, ?_, Mq.rf⟩)
    · show fX9_led V _ _ = _
      unfold fX9_led
      rw [n_house hC.1, b1]
      simp only [if_true, q_N1]
      rw [c_rowsOf hC.1 hC.2.1 hh, q_R, c_lastDayOf hC.1 hC.2.1 hh, q_R, q_ifb]
      cases dy <;> rfl
    · have hT := hM1.t0
      show fX10_led V1 _ _ = _
      unfold fX10_led
      rw [q_lt, t0_e, m_noHouse hT.1 hT.2.1, b1, q_R, show bI (!true) = 0 from rfl, m_thr0, q_I, if_pos rfl, q_rdl (by omega) (by omega), q_cl (by omega), show t0 V1 76 (OfNat.ofNat 8) = _ from hT.1.1 8 (by omega), q_lt, m_led hT hh, q_R]
      simp only [dt4_]
      rw [q_ifb]
      cases dy <;> rfl
  · refine op_x hC hM IOOB ?_ (m_thr ⟨0, ?_⟩)
    · show fX9_led V _ _ = _
      unfold fX9_led
      rw [n_house hC.1, nf b1]; rfl
    · have hT := hM.t0
      show fX10_led V _ _ = _
      unfold fX10_led
      rw [q_lt, t0_e, m_noHouse hT.1 hT.2.1, nf b1, q_R, show bI (!false) = 1 from rfl, m_thr1, q_I, if_neg q_10, h1]
/-! ===== what a deed hangs on ===== -/
def cnN (A : AT) : Nat → Nat → Nat
  | 0, _ => 0
  | F + 1, n => if n = 0 then 0 else 2 ^ (n - 1) ||| cnN A F (aD A (n - 1) 2)
def chN (A : AT) : Nat → Nat → Nat
  | 0, _ => 0
  | F + 1, n => if n = 0 then 0 else 1 + chN A F (aD A (n - 1) 2)
theorem on_le (hW : WA A) {n : Nat} (hn : n ≤ aS A 1) (h0 : n ≠ 0) : aD A (n - 1) 2 ≤ n - 1 := (hW.2.2.1 (n - 1) (by omega)).2.2.1
theorem cn_st (hW : WA A) : ∀ F G n, n ≤ F → n ≤ G → n ≤ aS A 1 → cnN A F n = cnN A G n
  | 0, 0, n, _, _, _ => rfl
  | 0, G + 1, n, h, _, _ => by rw [show n = 0 by omega]; rfl
  | F + 1, 0, n, _, h, _ => by rw [show n = 0 by omega]; rfl
  | F + 1, G + 1, n, h1, h2, h3 => by
    by_cases n0 : n = 0
    · rw [n0]; rfl
    · have := on_le hW h3 n0
      show (if n = 0 then 0 else 2 ^ (n - 1) ||| cnN A F (aD A (n - 1) 2)) = (if n = 0 then 0 else 2 ^ (n - 1) ||| cnN A G (aD A (n - 1) 2))
      rw [if_neg n0, if_neg n0, cn_st hW F G _ (by omega) (by omega) (by omega)]
theorem cn_lt (hW : WA A) : ∀ F n, n ≤ aS A 1 → cnN A F n < 2 ^ n
  | 0, n, _ => Nat.two_pow_pos _
  | F + 1, n, h => by
    by_cases n0 : n = 0
    · rw [n0]; exact Nat.one_pos
    · have h2 := on_le hW h n0
      have ih := cn_lt hW F (aD A (n - 1) 2) (by omega)
      show (if n = 0 then 0 else 2 ^ (n - 1) ||| cnN A F (aD A (n - 1) 2)) < 2 ^ n
      rw [if_neg n0]
      apply Nat.or_lt_two_pow
      · exact Nat.pow_lt_pow_right (by omega) (by omega)
      · exact Nat.lt_of_lt_of_le ih (Nat.pow_le_pow_right (by omega) (by omega))
theorem cn_ct (hW : WA A) : ∀ F n, n ≤ F → n ≤ aS A 1 → fb_ct (cnN A F n).testBit 10 = chN A F n
  | 0, n, _, _ => fb_ct_zero.2 (fun k _ => Nat.zero_testBit k)
  | F + 1, n, hF, h => by
    have h10 := hW.1.2.1
    by_cases n0 : n = 0
    · rw [n0]; exact fb_ct_zero.2 (fun k _ => Nat.zero_testBit k)
    · have h2 := on_le hW h n0
      have ih := cn_ct hW F (aD A (n - 1) 2) (by omega) (by omega)
      have hlt := cn_lt hW F (aD A (n - 1) 2) (by omega)
      show fb_ct (if n = 0 then 0 else 2 ^ (n - 1) ||| cnN A F (aD A (n - 1) 2)).testBit 10 = (if n = 0 then 0 else 1 + chN A F (aD A (n - 1) 2))
      rw [if_neg n0, if_neg n0]
      have e : (2 ^ (n - 1) ||| cnN A F (aD A (n - 1) 2)).testBit = fun k => if k = n - 1 then true else (cnN A F (aD A (n - 1) 2)).testBit k := by
        funext k
        rw [Nat.or_comm, fb_bit_set]
        by_cases c : k = n - 1 <;> simp [c]
      have hz : (cnN A F (aD A (n - 1) 2)).testBit (n - 1) = false := Nat.testBit_lt_two_pow (Nat.lt_of_lt_of_le hlt (Nat.pow_le_pow_right (by omega) h2))
      have u := fb_ct_upd (cnN A F (aD A (n - 1) 2)).testBit true (i := n - 1) (n := 10) (by omega)
      rw [hz, ih] at u
      rw [e]
      have u2 : fb_ct (fun k => if k = n - 1 then true else (cnN A F (aD A (n - 1) 2)).testBit k) 10 + 0 = chN A F (aD A (n - 1) 2) + 1 := u
      omega
theorem m_anc (hM : RM (V 76) A) (hW : WA A) : ∀ m n b F, n ≤ m → n < F → n ≤ aS A 1 → it_ (iX10_aheadOf_L9 V) F (nI b, onI n) = some (nI (b ||| cnN A m n)) := by
  intro m
  have h10 := hW.1.2.1
  have zero : ∀ b F m, 0 < F → it_ (iX10_aheadOf_L9 V) F (nI b, onI 0) = some (nI (b ||| cnN A m 0)) := by
    intro b F m hF
    obtain ⟨G, rfl⟩ : ∃ G, F = G + 1 := ⟨F - 1, by omega⟩
    have e : iX10_aheadOf_L9 V (nI b, onI 0) = some (.inr (nI b)) := by
      unfold iX10_aheadOf_L9 fX10_aheadOf_L9
      simp only []
      rw [if_pos (show onI 0 < 0 by decide)]
    unfold it_
    rw [e]
    have : cnN A m 0 = 0 := by cases m <;> rfl
    rw [this, Nat.or_zero]
  induction m with
  | zero =>
    intro n b F h1 h2 h3
    rw [show n = 0 by omega]
    exact zero b F 0 (by omega)
  | succ m ih =>
    intro n b F h1 h2 h3
    by_cases n0 : n = 0
    · rw [n0]; exact zero b F (m + 1) (by omega)
    · have hl := on_le hW h3 n0
      obtain ⟨G, rfl⟩ : ∃ G, F = G + 1 := ⟨F - 1, by omega⟩
      have e : iX10_aheadOf_L9 V (nI b, onI n) = some (.inl (nI (b ||| 2 ^ (n - 1)), onI (aD A (n - 1) 2))) := by
        unfold iX10_aheadOf_L9 fX10_aheadOf_L9
        simp only []
        rw [onI_s n0, if_neg (nI_pos (by omega)), q_shl (by omega), q_or, q_lt, m_ofDeed2 hM hW (by omega), q_R]
      unfold it_
      rw [e]
      show it_ (iX10_aheadOf_L9 V) G (nI (b ||| 2 ^ (n - 1)), onI (aD A (n - 1) 2)) = _
      rw [ih _ _ G (by omega) (by omega) (by omega), Nat.or_assoc]
      have : cnN A (m + 1) n = 2 ^ (n - 1) ||| cnN A m (aD A (n - 1) 2) := if_neg n0
      rw [this]
theorem m_aheadOf (hM : RM (V 76) A) (hW : WA A) {d : Nat} (hd : d < aS A 1) : fX10_aheadOf V (nI d) = some (nI (cnN A 10 (aD A d 2))) := by
  have h10 := hW.1.2.1
  have hl := (hW.2.2.1 d hd).2.2.1
  unfold fX10_aheadOf
  rw [m_ofDeed2 hM hW hd, q_R]
  have e := m_anc hM hW 10 (aD A d 2) 0 FV (by omega) (by have := FV_ge; omega) (by omega)
  have e : it_ (iX10_aheadOf_L9 V) FV (0, onI (aD A d 2)) = _ := e
  rw [e, q_R, Nat.zero_or]
theorem c_chainL (hR : RS V i A) (hW : WA A) : ∀ m n c k F, n ≤ m → n < F → n ≤ aS A 1 → k + n ≤ 10 → it_ (iX6_chain_L12 V i) F (nI c, onI n, nI k) = some (nI (c + chN A m n)) := by
  intro m
  have h10 := hW.1.2.1
  have zero : ∀ c k F m, 0 < F → it_ (iX6_chain_L12 V i) F (nI c, onI 0, nI k) = some (nI (c + chN A m 0)) := by
    intro c k F m hF
    obtain ⟨G, rfl⟩ : ∃ G, F = G + 1 := ⟨F - 1, by omega⟩
    have e : iX6_chain_L12 V i (nI c, onI 0, nI k) = some (.inr (nI c)) := by
      unfold iX6_chain_L12 fX6_chain_L12
      simp only []
      rw [if_pos (show onI 0 = -1 by decide)]
      split <;> rfl
    unfold it_
    rw [e]
    have : chN A m 0 = 0 := by cases m <;> rfl
    rw [this, Nat.add_zero]
  induction m with
  | zero =>
    intro n c k F h1 h2 h3 h4
    rw [show n = 0 by omega]
    exact zero c k F 0 (by omega)
  | succ m ih =>
    intro n c k F h1 h2 h3 h4
    by_cases n0 : n = 0
    · rw [n0]; exact zero c k F (m + 1) (by omega)
    · have hl := on_le hW h3 n0
      obtain ⟨G, rfl⟩ : ∃ G, F = G + 1 := ⟨F - 1, by omega⟩
      have e : iX6_chain_L12 V i (nI c, onI n, nI k) = some (.inl (nI (c + 1), onI (aD A (n - 1) 2), nI (k + 1))) := by
        unfold iX6_chain_L12 fX6_chain_L12
        simp only []
        rw [onI_s n0, if_neg (show ¬ (10 : Int32) ≤ nI k from nI_ge (b := 10) (by omega) (by omega)), if_neg (q_m1 (by omega)), nI_1, q_lt, c_ofDeed2 hR hW (by omega), q_R, nI_1, q_lt]
      unfold it_
      rw [e]
      show it_ (iX6_chain_L12 V i) G (nI (c + 1), onI (aD A (n - 1) 2), nI (k + 1)) = _
      rw [ih _ _ _ G (by omega) (by omega) (by omega) (by omega)]
      have : chN A (m + 1) n = 1 + chN A m (aD A (n - 1) 2) := if_neg n0
      rw [this, Nat.add_assoc]
theorem c_chain (hR : RS V i A) (hW : WA A) {d : Nat} (hd : d < aS A 1) : fX6_chain V i (nI d) = some (nI (chN A 10 (aD A d 2))) := by
  have h10 := hW.1.2.1
  have hl := (hW.2.2.1 d hd).2.2.1
  unfold fX6_chain
  rw [c_ofDeed2 hR hW hd, q_R]
  have e := c_chainL hR hW 10 (aD A d 2) 0 0 FV (by omega) (by have := FV_ge; omega) (by omega) (by omega)
  have e : it_ (iX6_chain_L12 V i) FV (0, onI (aD A d 2), 0) = _ := e
  rw [e, q_R, Nat.zero_add]
def haF (A : AT) (d o : Nat) : Bool := decide (d < o) && (cnN A 10 (aD A o 2)).testBit d
theorem haF_s (hW : WA A) {d o : Nat} (ho : o < aS A 1) (hd : d < o) : haF A d o = (decide (aD A o 2 = d + 1) || (decide (aD A o 2 ≠ 0) && (bs (haF A d) o).testBit (aD A o 2 - 1))) := by
  have h10 := hW.1.2.1
  have hl := (hW.2.2.1 o ho).2.2.1
  have e0 : haF A d o = (cnN A 10 (aD A o 2)).testBit d := by unfold haF; simp [hd]
  rw [e0]
  by_cases n0 : aD A o 2 = 0
  · rw [n0]
    have : cnN A 10 0 = 0 := rfl
    rw [this, Nat.zero_testBit]
    simp
  · have hl2 := on_le hW (n := aD A o 2) (by omega) n0
    have e1 : cnN A 10 (aD A o 2) = 2 ^ (aD A o 2 - 1) ||| cnN A 9 (aD A (aD A o 2 - 1) 2) := if_neg n0
    have e2 : cnN A 9 (aD A (aD A o 2 - 1) 2) = cnN A 10 (aD A (aD A o 2 - 1) 2) := cn_st hW 9 10 _ (by omega) (by omega) (by omega)
    rw [e1, e2, bs_bit, Nat.or_comm, fb_bit_set]
    have e3 : decide (aD A o 2 - 1 < o) = true := decide_eq_true (by omega)
    have e4 : decide (aD A o 2 ≠ 0) = true := decide_eq_true n0
    rw [e3, e4, Bool.true_and, Bool.true_and]
    have e5 : haF A d (aD A o 2 - 1) = (cnN A 10 (aD A (aD A o 2 - 1) 2)).testBit d := by
      unfold haF
      cases hb : (cnN A 10 (aD A (aD A o 2 - 1) 2)).testBit d
      · simp
      · have hlt := cn_lt hW 10 (aD A (aD A o 2 - 1) 2) (by omega)
        have : d < aD A (aD A o 2 - 1) 2 := by
          rcases Nat.lt_or_ge d (aD A (aD A o 2 - 1) 2) with h | h
          · exact h
          · have := Nat.testBit_lt_two_pow (Nat.lt_of_lt_of_le hlt (Nat.pow_le_pow_right (n := 2) (by omega) h))
            rw [hb] at this
            cases this
        simp
        omega
    rw [e5]
    have e6 : decide (d = aD A o 2 - 1) = decide (aD A o 2 = d + 1) := by
      apply decide_eq_decide.2
      omega
    rw [e6, Bool.or_comm]
theorem haF_0 {d n : Nat} (hn : n ≤ d + 1) : bs (haF A d) n = 0 := (bs_0 _ _).2 (fun k hk => by unfold haF; rw [decide_eq_false (by omega)]; rfl)
theorem c_hanging (hR : RS V i A) (hW : WA A) {d : Nat} (hd : d < aS A 1) : fX6_hanging V i (nI d) = some (nI (bs (haF A d) (aS A 1))) := by
  have h10 := hW.1.2.1
  unfold fX6_hanging
  rw [nI_1, q_lt]
  have e := lq (f := iX6_hanging_L6 V i) (r := nI (bs (haF A d) (aS A 1))) (fun k => bs (haF A d) (d + 1 + k)) (fun a k => (nI d, nI a, nI (d + 1 + k))) (aS A 1 - (d + 1)) (by omega)
    (by
      intro k hk
      have ho : d + 1 + k < aS A 1 := by omega
      have hl := (hW.2.2.1 _ ho).2.2.1
      have hlt : bs (haF A d) (d + 1 + k) < 2 ^ 31 := bs_31 _ (by omega)
      have hs := haF_s hW (d := d) ho (by omega)
      unfold iX6_hanging_L6 fX6_hanging_L6 fX6_hanging_j44_6
      simp only []
      rw [hR.1.2.1, if_neg (nI_ge ho (by omega)), c_ofDeed2 hR hW ho, q_R, q_shl (by omega), nI_1, q_or]
      simp only [q_lt]
      rw [show d + 1 + (k + 1) = (d + 1 + k) + 1 by omega, bs_s]
      by_cases c1 : aD A (d + 1 + k) 2 = d + 1
      · rw [if_pos (show onI (aD A (d + 1 + k) 2) = nI d by rw [c1, onI_s (by omega), Nat.add_sub_cancel]), if_pos (by rw [hs, c1]; simp)]
      · rw [if_neg (show ¬ onI (aD A (d + 1 + k) 2) = nI d from fun e => by
          by_cases n0 : aD A (d + 1 + k) 2 = 0
          · rw [n0] at e; exact q_m1 (n := d) (by omega) e.symm
          · rw [onI_s n0] at e
            have := (nI_eq (by omega) (by omega)).1 e
            omega)]
        by_cases n0 : aD A (d + 1 + k) 2 = 0
        · rw [if_pos ((onI_m1 (by omega)).2 n0), if_neg (by rw [hs, n0]; simp), Nat.or_zero]
        · rw [if_neg (fun e => n0 ((onI_m1 (by omega)).1 e)), onI_s n0]
          by_cases hb : (bs (haF A d) (d + 1 + k)).testBit (aD A (d + 1 + k) 2 - 1) = true
          · rw [if_pos ((q_bit hlt (by omega)).2 hb), if_pos (by rw [hs, hb]; simp [n0])]
          · rw [if_neg (fun e => hb ((q_bit hlt (by omega)).1 e)), if_neg (by rw [hs, nf hb]; simp [c1]), Nat.or_zero])
    (by
      unfold iX6_hanging_L6 fX6_hanging_L6
      simp only []
      rw [hR.1.2.1, if_pos (nI_le (by omega) (by omega)), show d + 1 + (aS A 1 - (d + 1)) = aS A 1 by omega])
  simp only [Nat.add_zero] at e
  rw [haF_0 (Nat.le_refl _)] at e
  have e : it_ (iX6_hanging_L6 V i) FV (nI d, 0, nI (d + 1)) = _ := e
  rw [e, q_R]
theorem m_hangsOn (hM : RM (V 76) A) (hW : WA A) {d : Nat} (hd : d < aS A 1) : fX10_hangsOn V (nI d) = some (nI (bs (haF A d) (aS A 1))) := by
  have h10 := hW.1.2.1
  unfold fX10_hangsOn
  rw [nI_1, q_lt]
  have e := lq (f := iX10_hangsOn_L6 V) (r := nI (bs (haF A d) (aS A 1))) (fun k => bs (haF A d) (d + 1 + k)) (fun a k => (nI d, nI a, nI (d + 1 + k))) (aS A 1 - (d + 1)) (by omega)
    (by
      intro k hk
      have ho : d + 1 + k < aS A 1 := by omega
      have hl := (hW.2.2.1 _ ho).2.2.1
      have hlt := cn_lt hW 10 (aD A (d + 1 + k) 2) (by omega)
      have hlt2 : cnN A 10 (aD A (d + 1 + k) 2) < 2 ^ 31 := Nat.lt_of_lt_of_le hlt (Nat.pow_le_pow_right (by omega) (by omega))
      have hs : haF A d (d + 1 + k) = (cnN A 10 (aD A (d + 1 + k) 2)).testBit d := by
        unfold haF
        rw [decide_eq_true (show d < d + 1 + k by omega), Bool.true_and]
      unfold iX10_hangsOn_L6 fX10_hangsOn_L6
      simp only []
      rw [m_deeds hM, q_R, if_neg (nI_ge ho (by omega)), m_aheadOf hM hW ho, q_R, m_has hlt2 (by omega), q_R, q_ifb, q_shl (by omega), nI_1, q_or, or0]
      simp only [q_lt]
      rw [show d + 1 + (k + 1) = (d + 1 + k) + 1 by omega, bs_s, hs]
      cases (cnN A 10 (aD A (d + 1 + k) 2)).testBit d <;> simp)
    (by
      unfold iX10_hangsOn_L6 fX10_hangsOn_L6
      simp only []
      rw [m_deeds hM, q_R, if_pos (nI_le (by omega) (by omega)), show d + 1 + (aS A 1 - (d + 1)) = aS A 1 by omega])
  simp only [Nat.add_zero] at e
  rw [haF_0 (Nat.le_refl _)] at e
  have e : it_ (iX10_hangsOn_L6 V) FV (nI d, 0, nI (d + 1)) = _ := e
  rw [e, q_R]
theorem op_deed {cd : String → Int32} (hI : INV V) (h1 : cd IOOB = 1) (h2 : cd NSE = 2) (x1 x2 : Int32) : OpE (fun V => fX9_deed V x1 x2) (fun V => fX10_deed V x1 x2) cd V := by
  obtain ⟨g, hC, hM⟩ := hI
  have h10 := hC.2.1.1.2.1
  by_cases b1 : ix x1 (aS (xA g) 1) = true
  · obtain ⟨d, hd, rfl⟩ := ix_t (by omega) b1
    have hb := hC.2.1.2.2.1 d hd
    have cD : ∀ k, k < 5 → fX6_ofDeed V 2 (nI d) (nI k) = some (dI k (aD (xA g) d k)) := by
      intro k hk
      unfold dI
      by_cases k2 : k = 2
      · rw [if_pos k2, k2]; exact c_ofDeed2 hC.1 hC.2.1 hd
      · rw [if_neg k2]; exact c_ofDeed hC.1 hC.2.1 hd hk k2
    have mD : ∀ V1, MT V1 (xA g) (xL g) → ∀ k, k < 6 → fX10_ofDeed V1 (nI d) (nI k) = some (dI k (aD (xA g) d k)) := by
      intro V1 hT k hk
      unfold dI
      by_cases k2 : k = 2
      · rw [if_pos k2, k2]; exact m_ofDeed2 hT.1 hT.2.1 hd
      · rw [if_neg k2]; exact m_ofDeed hT.1 hT.2.1 hd hk k2
    have p9 : ∀ x2, fX9_deed V (nI d) x2 = if x2 = (0 : Int32) then (ob_R (fX6_ofDeed V 2 (nI d) x2) fun y4 => some (.inr y4, V)) else if x2 = (1 : Int32) then (ob_R (fX6_ofDeed V 2 (nI d) x2) fun y7 => some (.inr y7, V)) else if x2 = (2 : Int32) then (ob_R (fX6_ofDeed V 2 (nI d) x2) fun y10 => some (.inr y10, V)) else if x2 = (3 : Int32) then (ob_R (fX6_ofDeed V 2 (nI d) x2) fun y13 => some (.inr y13, V)) else if x2 = (4 : Int32) then (ob_R (fX6_ofDeed V 2 (nI d) x2) fun y16 => some (.inr y16, V)) else if x2 = (5 : Int32) then (ob_R (fX6_isSo V 2 (nI d)) fun y19 => if y19 = 0 then (some (.inr (0 : Int32), V)) else (some (.inr (1 : Int32), V))) else if x2 = (6 : Int32) then (ob_R (fX6_hanging V 2 (nI d)) fun y23 => some (.inr y23, V)) else if x2 = (7 : Int32) then (ob_R (fX6_chain V 2 (nI d)) fun y26 => some (.inr y26, V)) else if x2 = (8 : Int32) then (ob_R (fX6_bribe V 2 (nI d)) fun y29 => some (.inr y29, V)) else (some (.inl "java/util/NoSuchElementException", V)) := by
      intro x2
      unfold fX9_deed
      rw [n_deed hC.1, b1]
      simp only [if_true, q_N1]
    have p10 : ∀ (V1 : VT), MT (t0 V1) (xA g) (xL g) → ∀ x2, fX10_deed V1 (nI d) x2 = if bI (ix x2 9) = 0 then fX10_deed_j34 (t0 V1) (nI d) x2 1 else fX10_deed_j34 (t0 V1) (nI d) x2 0 := by
      intro V1 hT x2
      unfold fX10_deed
      rw [q_lt, t0_e, m_noDeed hT.1 hT.2.1, b1, q_R, show bI (!true) = 0 from rfl, m_thr0, q_I, if_pos rfl, show (8 : Int32) = nI 8 from rfl, m_ix1 _ (by omega), q_R]
    by_cases b2 : ix x2 9 = true
    · have goal : ∀ k, k < 9 → OpE (fun V => fX9_deed V (nI d) (nI k)) (fun V => fX10_deed V (nI d) (nI k)) cd V := by
        intro k hk
        have bk : ix (nI k) 9 = true := by rw [ix_n (by omega) (by omega)]; exact decide_eq_true hk
        have q10 : ∀ (V1 : VT), MT (t0 V1) (xA g) (xL g) → fX10_deed V1 (nI d) (nI k) = (if (nI k) = (6 : Int32) then (ob_R (fX10_hangsOn (t0 V1) (nI d)) fun y13 => some (y13, (t0 V1))) else if (nI k) = (7 : Int32) then (ob_R (fX10_aheadOf (t0 V1) (nI d)) fun y16 => ob_R (fJ6_bitCount_0f7a4 (t0 V1) y16) fun y18 => some (y18, (t0 V1))) else if (nI k) = (8 : Int32) then (ob_R (fX10_bribeOf (t0 V1) (nI d)) fun y21 => some (y21, (t0 V1))) else (ob_R (fX10_ofDeed (t0 V1) (nI d) (nI k)) fun y24 => some (y24, (t0 V1)))) := by
          intro V1 hT
          rw [p10 V1 hT, bk, if_neg (show ¬ bI true = 0 by decide)]
          unfold fX10_deed_j34
          rw [m_thr0, q_I, if_pos rfl]
        have plain : ∀ x, (fX9_deed V (nI d) (nI k) = some (.inr x, V)) → (∀ V1, MT (t0 V1) (xA g) (xL g) → fX10_deed V1 (nI d) (nI k) = some (x, t0 V1)) → OpE (fun V => fX9_deed V (nI d) (nI k)) (fun V => fX10_deed V (nI d) (nI k)) cd V := fun x ha hb => op_q hC hM x ⟨V, ha, Cs.rf⟩ (fun V1 hM1 => m_ans ⟨t0 V1, hb V1 hM1.t0, Mq.rf⟩)
        have low : k < 5 → OpE (fun V => fX9_deed V (nI d) (nI k)) (fun V => fX10_deed V (nI d) (nI k)) cd V := by
          intro hk5
          have n : ∀ j : Nat, j < 100 → k ≠ j → ¬ nI k = nI j := fun j hj h e => h ((nI_eq (by omega) (by omega)).1 e)
          refine plain (dI k (aD (xA g) d k)) ?_ (fun V1 hT => ?_)
          · rw [p9, cD k hk5, q_R]
            have k5 : k = 0 ∨ k = 1 ∨ k = 2 ∨ k = 3 ∨ k = 4 := by omega
            rcases k5 with rfl | rfl | rfl | rfl | rfl
            · rw [if_pos (show nI 0 = 0 from rfl)]
            · rw [if_neg (by decide), if_pos (show nI 1 = 1 from rfl)]
            · rw [if_neg (by decide), if_neg (by decide), if_pos (show nI 2 = 2 from rfl)]
            · rw [if_neg (by decide), if_neg (by decide), if_neg (by decide), if_pos (show nI 3 = 3 from rfl)]
            · rw [if_neg (by decide), if_neg (by decide), if_neg (by decide), if_neg (by decide), if_pos (show nI 4 = 4 from rfl)]
          · rw [q10 V1 hT, if_neg (show ¬ nI k = 6 from n 6 (by omega) (by omega)), if_neg (show ¬ nI k = 7 from n 7 (by omega) (by omega)), if_neg (show ¬ nI k = 8 from n 8 (by omega) (by omega)), mD _ hT k (by omega), q_R]
        by_cases hk5 : k < 5
        · exact low hk5
        · have k9 : k = 5 ∨ k = 6 ∨ k = 7 ∨ k = 8 := by omega
          rcases k9 with rfl | rfl | rfl | rfl
          · refine plain (nI (aD (xA g) d 5)) ?_ (fun V1 hT => ?_)
            · rw [p9, if_neg (by decide), if_neg (by decide), if_neg (by decide), if_neg (by decide), if_neg (by decide), if_pos (show nI 5 = 5 from rfl), c_isSo hC.1 hC.2.1 hd, q_R, q_ifb]
              unfold so
              by_cases a : aD (xA g) d 5 = 1
              · rw [if_pos (decide_eq_true a), a]; rfl
              · rw [if_neg (fun e => a (of_decide_eq_true e)), show aD (xA g) d 5 = 0 by omega]; rfl
            · rw [q10 V1 hT, if_neg (by decide), if_neg (by decide), if_neg (by decide), mD _ hT 5 (by omega), q_R]; rfl
          · refine plain (nI (bs (haF (xA g) d) (aS (xA g) 1))) ?_ (fun V1 hT => ?_)
            · rw [p9, if_neg (by decide), if_neg (by decide), if_neg (by decide), if_neg (by decide), if_neg (by decide), if_neg (by decide), if_pos (show nI 6 = 6 from rfl), c_hanging hC.1 hC.2.1 hd, q_R]
            · rw [q10 V1 hT, if_pos (show nI 6 = 6 from rfl), m_hangsOn hT.1 hT.2.1 hd, q_R]
          · refine plain (nI (chN (xA g) 10 (aD (xA g) d 2))) ?_ (fun V1 hT => ?_)
            · rw [p9, if_neg (by decide), if_neg (by decide), if_neg (by decide), if_neg (by decide), if_neg (by decide), if_neg (by decide), if_neg (by decide), if_pos (show nI 7 = 7 from rfl), c_chain hC.1 hC.2.1 hd, q_R]
            · have hlt := cn_lt hT.2.1 10 (aD (xA g) d 2) (by omega)
              have hlt2 : cnN (xA g) 10 (aD (xA g) d 2) < 1024 := Nat.lt_of_lt_of_le hlt (show 2 ^ aD (xA g) d 2 ≤ 2 ^ 10 from Nat.pow_le_pow_right (by omega) (by omega))
              rw [q10 V1 hT, if_neg (by decide), if_pos (show nI 7 = 7 from rfl), m_aheadOf hT.1 hT.2.1 hd, q_R, bc_e, q_R, bc_10 hlt2, cn_ct hT.2.1 10 _ (by omega) (by omega)]
          · refine plain (nI (fb_sm (brF (xA g) d) (aS (xA g) 0))) ?_ (fun V1 hT => ?_)
            · rw [p9, if_neg (by decide), if_neg (by decide), if_neg (by decide), if_neg (by decide), if_neg (by decide), if_neg (by decide), if_neg (by decide), if_neg (by decide), if_pos (show nI 8 = 8 from rfl), c_bribe hC.1 hC.2.1 hd, q_R]
            · rw [q10 V1 hT, if_neg (by decide), if_neg (by decide), if_pos (show nI 8 = 8 from rfl), m_bribeOf hT.1 hT.2.1 hd, q_R]
      obtain ⟨k, hk, rfl⟩ := ix_t (by omega) b2
      exact goal k hk
    · refine op_x hC hM NSE ?_ (m_thr ⟨0, ?_⟩)
      · show fX9_deed V _ _ = _
        have n := fun j hj => ix_cases (x := x2) (n := 9) (by omega) b2 (j := j) hj
        rw [p9, if_neg (show ¬ x2 = 0 from n 0 (by omega)), if_neg (show ¬ x2 = 1 from n 1 (by omega)), if_neg (show ¬ x2 = 2 from n 2 (by omega)), if_neg (show ¬ x2 = 3 from n 3 (by omega)), if_neg (show ¬ x2 = 4 from n 4 (by omega)), if_neg (show ¬ x2 = 5 from n 5 (by omega)), if_neg (show ¬ x2 = 6 from n 6 (by omega)), if_neg (show ¬ x2 = 7 from n 7 (by omega)), if_neg (show ¬ x2 = 8 from n 8 (by omega))]
      · have hT := hM.t0
        show fX10_deed V _ _ = _
        rw [p10 V hT, nf b2, if_pos (show bI false = 0 from rfl)]
        unfold fX10_deed_j34
        rw [m_thr1, q_I, if_neg q_10, h2]
  · refine op_x hC hM IOOB ?_ (m_thr ⟨0, ?_⟩)
    · show fX9_deed V _ _ = _
      unfold fX9_deed
      rw [n_deed hC.1, nf b1]; rfl
    · have hT := hM.t0
      show fX10_deed V _ _ = _
      unfold fX10_deed
      rw [q_lt, t0_e, m_noDeed hT.1 hT.2.1, nf b1, q_R, show bI (!false) = 1 from rfl, m_thr1, q_I, if_neg q_10, h1]
end OP
