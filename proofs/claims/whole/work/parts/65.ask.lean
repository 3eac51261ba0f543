/-! ===== denied, ask ===== -/
section OP
variable {V : VT} {A : AT} {L : Fa → Bool} {b : Nat → Int32} {n : Nat}
def us (V : VT) : VT := va_up V 22 (upd (upd (upd (upd (V 22) 0 0) 11 (V 22 9)) 9 0) 10 0)
theorem m_uses : fX10_uses V = some (us V) := by
  unfold fX10_uses us
  simp only [q_lt, va_s, va_uu]
  rw [pk_un (show (9 : Nat) ≠ 0 by omega)]
theorem us_22 {k : Nat} (h0 : k ≠ 0) (h9 : k ≠ 9) (h10 : k ≠ 10) (h11 : k ≠ 11) : us V 22 k = V 22 k := by
  unfold us
  rw [va_s, pk_un h10, pk_un h9, pk_un h11, pk_un h0]
theorem us_11 : us V 22 11 = V 22 9 := by
  unfold us
  rw [va_s, pk_un (by omega), pk_un (by omega), pk_us]
theorem us_9 : us V 22 9 = 0 := by
  unfold us
  rw [va_s, pk_un (by omega), pk_us]
theorem us_0 : us V 22 0 = 0 := by
  unfold us
  rw [va_s, pk_un (by omega), pk_un (by omega), pk_un (by omega), pk_us]
theorem us_n {j : Nat} (h : j ≠ 22) : us V j = V j := va_n h
theorem MIN.use {g : GA} (h : MIN V g) : MIN (us V) (tpG g 0 (xb g)) := by
  obtain ⟨d1, d2, d3, d4⟩ := h.2.2.2.2.1
  exact h.tape (fun j a _ _ => us_n a) (us_22 (by omega) (by omega) (by omega) (by omega)) (us_22 (by omega) (by omega) (by omega) (by omega)) (us_22 (by omega) (by omega) (by omega) (by omega)) us_9 (by omega) (by rw [us_n (by omega)]; exact d3) d4
theorem op_xg {f9 : VT → Option ((String ⊕ Int32) × VT)} {f10 : VT → Option (Int32 × VT)} {cd : String → Int32} {g g' : GA} (hM : MIN V g) (s : String) (h9 : ∃ V1, f9 V = some (.inl s, V1) ∧ CIN V1 g' ∧ V1 22 = V 22 ∧ ∀ j, 76 ≤ j → V1 j = V j) (h10 : ∀ V1, MIN V1 g → ∃ c V2, f10 V1 = some (c, V2) ∧ MIN V2 g' ∧ (∀ j, j < 76 → j ≠ 22 → V2 j = V1 j) ∧ V2 22 0 = cd s) : OpE f9 f10 cd V := by
  obtain ⟨V1, e1, c1, a1, a2⟩ := h9
  obtain ⟨c, V2, e2, m2, b1, b2⟩ := h10 V1 (hM.c a1 a2)
  exact ⟨_, V1, c, V2, e1, e2, ⟨g', c1.w (fun j hj => b1 j (by omega) (by omega)) (by rw [b1 1 (by omega) (by omega)]) (fun k _ => by rw [b1 17 (by omega) (by omega)]), m2⟩, Or.inr ⟨s, rfl, b2⟩⟩
/-- what is needed of a tape that is told: class -/
def tC (V : VT) (b : Nat → Int32) (n H : Nat) : Prop := V 1 1 = nI n ∧ n ≤ 36 ∧ n % 3 = 0 ∧ (∀ k, k < 400 → V 23 k = b k) ∧ H ≤ 8 ∧ ∀ r, r < n / 3 → rkB b H r = true
theorem and_bit (s h : Nat) : s &&& 2 ^ h = 2 ^ h ↔ s.testBit h = true := by
  constructor
  · intro e
    have := congrArg (fun x => x.testBit h) e
    simpa using this
  · intro e
    apply Nat.eq_of_testBit_eq
    intro k
    rw [Nat.testBit_and, Nat.testBit_two_pow]
    by_cases c : h = k
    · subst c; simp [e]
    · simp [c]
theorem c_fitting {H : Nat} (ht : tC V b n H) (x : Nat) (p : Nat → Bool) (hp : ∀ s, (s &&& x = x) ↔ p s = true) (hx : x < 256) : fX2_fitting V (nI H) (nI x) = some (nI (fb_ct (fun s => p s && ftB b n s) (2 ^ H))) := by
  obtain ⟨h1, hn, h3, hb, hH, hrk⟩ := ht
  have hpw : 2 ^ H ≤ 256 := Nat.pow_le_pow_right (n := 2) (by omega) hH
  unfold fX2_fitting
  have e := lq (f := iX2_fitting_L5 V) (r := nI (fb_ct (fun s => p s && ftB b n s) (2 ^ H))) (fun k => fb_ct (fun s => p s && ftB b n s) k) (fun a k => (nI H, nI x, nI a, nI k)) (2 ^ H) (by omega)
    (by
      intro k hk
      have han : k &&& x < 256 := Nat.lt_of_le_of_lt Nat.and_le_right hx
      unfold iX2_fitting_L5 fX2_fitting_L5
      simp only []
      rw [q_shl (by omega), if_neg (nI_ge hk (by omega)), fa_and, c_fits h1 hn h3 hb hH hrk (by omega), q_R, q_ifb, nI_1, nI_1, fb_ct_succ]
      simp only [q_lt]
      by_cases c : k &&& x = x
      · rw [if_pos (by rw [c]), (hp k).1 c]
        cases ftB b n k <;> simp
      · rw [if_neg (fun e => c ((nI_eq (by omega) (by omega)).1 e)), nf (fun e => c ((hp k).2 e))]
        simp)
    (by
      unfold iX2_fitting_L5 fX2_fitting_L5
      simp only []
      rw [q_shl (by omega), if_pos (nI_le (Nat.le_refl _) (by omega))])
  have e : it_ (iX2_fitting_L5 V) FV (nI H, nI x, 0, 0) = _ := e
  rw [e, q_R]
def anF (b : Nat → Int32) (n H : Nat) : Nat → Nat
  | 0 => 2 ^ H - 1
  | k + 1 => if ftB b n k then anF b n H k &&& k else anF b n H k
theorem c_inAll {H : Nat} (ht : tC V b n H) : fX2_inAll V (nI H) = some (if fb_ct (ftB b n) (2 ^ H) = 0 then 0 else nI (anF b n H (2 ^ H))) := by
  obtain ⟨h1, hn, h3, hb, hH, hrk⟩ := ht
  have hpw : 2 ^ H ≤ 256 := Nat.pow_le_pow_right (n := 2) (by omega) hH
  unfold fX2_inAll
  rw [q_all (by omega), q_lt]
  have e := lq (f := iX2_inAll_L11 V) (r := (nI (anF b n H (2 ^ H)), bI (decide (fb_ct (ftB b n) (2 ^ H) = 0)))) (fun k => (anF b n H k, bI (decide (fb_ct (ftB b n) k = 0)))) (fun a k => (nI H, nI a.1, a.2, nI k)) (2 ^ H) (by omega)
    (by
      intro k hk
      unfold iX2_inAll_L11 fX2_inAll_L11
      simp only []
      rw [q_shl (by omega), if_neg (nI_ge hk (by omega)), c_fits h1 hn h3 hb hH hrk (by omega), q_R, q_ifb, nI_1, fa_and, fb_ct_succ]
      simp only [q_lt]
      have ea : anF b n H (k + 1) = if ftB b n k then anF b n H k &&& k else anF b n H k := rfl
      rw [ea]
      cases ftB b n k
      · rw [if_neg (by decide), if_neg (by decide), if_neg (by decide)]
        rfl
      · rw [if_pos rfl, if_pos rfl, if_pos rfl, decide_eq_false (show ¬ fb_ct (ftB b n) k + 1 = 0 by omega)]
        rfl)
    (by
      unfold iX2_inAll_L11 fX2_inAll_L11
      simp only []
      rw [q_shl (by omega), if_pos (nI_le (Nat.le_refl _) (by omega))])
  have e : it_ (iX2_inAll_L11 V) FV (nI H, nI (2 ^ H - 1), 1, 0) = _ := e
  rw [e, q_R]
  simp only [dt2_]
  rw [q_ifb]
  by_cases c : fb_ct (ftB b n) (2 ^ H) = 0
  · rw [if_pos (decide_eq_true c), if_pos c]
  · rw [if_neg (fun e => c (of_decide_eq_true e)), if_neg c]
/-- .. model -/
def tM (V : VT) (b : Nat → Int32) (n : Nat) (A : AT) (L : Fa → Bool) : Prop := MT V A L ∧ V 22 11 = nI n ∧ n ≤ 36 ∧ n % 3 = 0 ∧ (∀ k, k < 400 → V 81 k = b k) ∧ (∀ k, k < 400 → by_ (b k)) ∧ ∀ r, r < n / 3 → rkB b (aS A 0) r = true
theorem m_denied36 (ht : tM V b n A L) {x : Int32} : it_ iX10_denied_L36 FV (V, x, 0, nI (2 ^ aS A 0 - 1), 0) = some (V, x, nI (fb_ct (ftB b n) (2 ^ aS A 0)), nI (anF b n (aS A 0) (2 ^ aS A 0))) := by
  obtain ⟨hT, h1, hn, h3, hb, hy, hrk⟩ := ht
  have h8 := hT.2.1.1.1
  have hpw : 2 ^ aS A 0 ≤ 256 := Nat.pow_le_pow_right (n := 2) (by omega) h8
  have hp := Nat.two_pow_pos (aS A 0)
  exact lq (f := iX10_denied_L36) (r := (V, x, nI (fb_ct (ftB b n) (2 ^ aS A 0)), nI (anF b n (aS A 0) (2 ^ aS A 0)))) (fun k => (fb_ct (ftB b n) k, anF b n (aS A 0) k)) (fun a k => (V, x, nI a.1, nI a.2, nI k)) (2 ^ aS A 0) (by omega)
    (by
      intro k hk
      unfold iX10_denied_L36 fX10_denied_L36
      simp only []
      rw [m_allHouses hT.1 hT.2.1, q_R, if_neg (nI_nlt (by omega) (by omega)), m_fits h1 hn h3 hb hy h8 hrk (by omega), q_R, q_ifb, nI_1, nI_1, fa_and, fb_ct_succ]
      simp only [q_lt]
      have ea : anF b n (aS A 0) (k + 1) = if ftB b n k then anF b n (aS A 0) k &&& k else anF b n (aS A 0) k := rfl
      rw [ea]
      cases ftB b n k
      · rw [if_neg (by decide), if_neg (by decide), if_neg (by decide)]
        rfl
      · rw [if_pos rfl, if_pos rfl, if_pos rfl])
    (by
      unfold iX10_denied_L36 fX10_denied_L36
      simp only []
      rw [m_allHouses hT.1 hT.2.1, q_R, if_pos (nI_lt (by omega) (by omega))])
theorem td_t {H : Nat} (h : tdB b n H = true) : n ≤ 36 ∧ n % 3 = 0 ∧ ∀ r, r < n / 3 → rkB b H r = true := by
  unfold tdB at h
  rw [Bool.and_eq_true] at h
  have h1 := of_decide_eq_true h.1
  exact ⟨h1.2, h1.1, allB_iff.1 h.2⟩
theorem CIN.cut {g : GA} (hC : CIN V g) : CIN (va_up V 1 (upd (V 1) 1 0)) (tpG g 0 (xb g)) := by
  obtain ⟨c1, c2, c3, c4⟩ := hC.2.2.2.2.1
  exact hC.tape (fun j a _ => va_n a) (by rw [va_s, pk_us]; rfl) (by omega) (by rw [va_n (by omega)]; exact c3) c4
theorem MIN.tu {g : GA} (h : MIN V g) : MT (us V) (xA g) (xL g) := h.use.t
theorem op_denied {cd : String → Int32} (hI : INV V) (h1 : cd IAE = 1) (su : Bool) : OpE (fun V => fX9_denied V (bI su)) (fun V => fX10_denied V (bI su)) cd V := by
  obtain ⟨g, hC, hM⟩ := hI
  have h8 := hC.2.1.1.1
  obtain ⟨c1, c2, c3, c4⟩ := hC.2.2.2.2.1
  have et := c_isTold c1 c2 c3 h8
  have em : ∀ V1, MIN V1 g → fX10_isTold (us V1) = some (bI (tdB (xb g) (xn g) (aS (xA g) 0))) := fun V1 h => by
    obtain ⟨d1, d2, d3, d4⟩ := h.2.2.2.2.1
    exact m_isTold h.tu (us_11.trans d1) d2 (by rw [us_n (by omega)]; exact d3) d4
  cases ht : tdB (xb g) (xn g) (aS (xA g) 0)
  · rw [ht] at et
    refine op_xg (g := g) (g' := tpG g 0 (xb g)) hM IAE ⟨va_up V 1 (upd (V 1) 1 0), ?_, hC.cut, va_n (by omega), fun j hj => va_n (by omega)⟩ (fun V1 hM1 => ⟨0, va_up (us V1) 22 (upd (us V1 22) 0 1), ?_, ?_, ?_, ?_⟩)
    · show fX9_denied V _ = _
      unfold fX9_denied
      rw [hC.1.1.1, et, q_R, if_pos (show bI false = 0 from rfl)]
      unfold fX9_denied_j58
      rw [q_lt, if_pos (show bI false = 0 from rfl)]
    · show fX10_denied V1 _ = _
      unfold fX10_denied
      rw [m_uses, q_R, em V1 hM1, ht, q_R, if_pos (show bI false = 0 from rfl)]
      unfold fX10_denied_j17
      rw [m_thr1, q_I, if_neg q_10]
    · exact hM1.use.m tc_m
    · intro j hj h22
      rw [va_n h22]; exact us_n h22
    · rw [va_s, pk_us, h1]
  · rw [ht] at et
    obtain ⟨t1, t2, t3⟩ := td_t ht
    have tc : tC V (xb g) (xn g) (aS (xA g) 0) := ⟨c1, t1, t2, c3, h8, t3⟩
    refine op_g (g := g) (g' := tpG g 0 (xb g)) hM (if su then (if fb_ct (ftB (xb g) (xn g)) (2 ^ aS (xA g) 0) = 0 then 0 else nI (anF (xb g) (xn g) (aS (xA g) 0) (2 ^ aS (xA g) 0))) else nI (fb_ct (ftB (xb g) (xn g)) (2 ^ aS (xA g) 0))) ⟨va_up V 1 (upd (V 1) 1 0), ?_, hC.cut, va_n (by omega), fun j hj => va_n (by omega)⟩ (fun V1 hM1 => ⟨us V1, ?_, hM1.use, fun j _ h22 => us_n h22, us_0⟩)
    · show fX9_denied V _ = _
      have ef : fX2_fitting V (nI (aS (xA g) 0)) 0 = some (nI (fb_ct (ftB (xb g) (xn g)) (2 ^ aS (xA g) 0))) := by
        have := c_fitting tc 0 (fun _ => true) (fun s => by rw [Nat.and_zero]; exact ⟨fun _ => rfl, fun _ => rfl⟩) (by omega)
        simp only [Bool.true_and] at this
        exact this
      unfold fX9_denied
      rw [hC.1.1.1, et, q_R, if_neg (show ¬ bI true = 0 by decide), ef, q_R, c_inAll tc, q_R, q_ifb]
      unfold fX9_denied_j57 fX9_denied_j58
      rw [q_lt, q_lt, if_neg (show ¬ bI true = 0 by decide), if_neg (show ¬ bI true = 0 by decide)]
      cases su <;> rfl
    · obtain ⟨d1, d2, d3, d4⟩ := hM1.2.2.2.2.1
      have hT := hM1.tu
      have tm : tM (us V1) (xb g) (xn g) (xA g) (xL g) := ⟨hT, us_11.trans d1, t1, t2, by rw [us_n (by omega)]; exact d3, d4, t3⟩
      have hpw : 2 ^ aS (xA g) 0 ≤ 256 := Nat.pow_le_pow_right (n := 2) (by omega) h8
      have hct := fb_ct_le (ftB (xb g) (xn g)) (2 ^ aS (xA g) 0)
      show fX10_denied V1 _ = _
      unfold fX10_denied
      rw [m_uses, q_R, em V1 hM1, ht, q_R, if_neg (show ¬ bI true = 0 by decide)]
      unfold fX10_denied_j17
      rw [m_thr0, q_I, if_pos rfl, m_allHouses hT.1 hT.2.1, q_R, m_denied36 tm, q_R]
      simp only [dt4_]
      rw [q_ifb]
      simp only [q_e0 (show fb_ct (ftB (xb g) (xn g)) (2 ^ aS (xA g) 0) < 2 ^ 31 by omega)]
      cases su
      · rfl
      · rw [if_pos rfl, if_pos rfl]
        split <;> rfl
/-! ===== ask ===== -/
def inF (b : Nat → Int32) (n H h : Nat) : Nat := fb_ct (fun s => s.testBit h && ftB b n s) (2 ^ H)
def coF (b : Nat → Int32) (n H : Nat) : Nat := fb_ct (ftB b n) (2 ^ H)
def grF (b : Nat → Int32) (n H h : Nat) : Nat := max (inF b n H h) (coF b n H - inF b n H h)
/-- the greater's least, and whose -/
def paS (b : Nat → Int32) (n H : Nat) : Nat → Nat × Int32
  | 0 => (1000000, -1)
  | h + 1 => if grF b n H h < (paS b n H h).1 then (grF b n H h, nI h) else paS b n H h
theorem in_le {H h : Nat} : inF b n H h ≤ coF b n H := fb_ct_sub (fun k _ e => by
  rw [Bool.and_eq_true] at e
  exact e.2)
theorem pa_1 {H h : Nat} (h0 : 0 < h) (hH : H ≤ 8) : (paS b n H h).1 ≤ 256 := by
  have hpw : 2 ^ H ≤ 256 := Nat.pow_le_pow_right (n := 2) (by omega) hH
  have hc : coF b n H ≤ 2 ^ H := fb_ct_le _ _
  have hg : ∀ h, grF b n H h ≤ 256 := fun h => by
    have := in_le (b := b) (n := n) (H := H) (h := h)
    unfold grF
    omega
  induction h with
  | zero => omega
  | succ h ih =>
    have e : paS b n H (h + 1) = if grF b n H h < (paS b n H h).1 then (grF b n H h, nI h) else paS b n H h := rfl
    rw [e]
    by_cases c : grF b n H h < (paS b n H h).1
    · rw [if_pos c]; exact hg h
    · rw [if_neg c]
      have := hg h
      omega
theorem c_parting {H : Nat} (ht : tC V b n H) : fX2_parting V (nI H) = some (if coF b n H < 2 then -1 else (paS b n H H).2) := by
  have hH := ht.2.2.2.2.1
  have hpw : 2 ^ H ≤ 256 := Nat.pow_le_pow_right (n := 2) (by omega) hH
  have hc : coF b n H ≤ 2 ^ H := fb_ct_le _ _
  unfold fX2_parting
  have ef : fX2_fitting V (nI H) 0 = some (nI (coF b n H)) := by
    have := c_fitting ht 0 (fun _ => true) (fun s => by rw [Nat.and_zero]; exact ⟨fun _ => rfl, fun _ => rfl⟩) (by omega)
    simp only [Bool.true_and] at this
    exact this
  rw [ef, q_R, nI_1, q_lt]
  obtain ⟨r, e, rfl⟩ := it_forE (F := FV) (f := iX2_parting_L17 V) H (fun k s => s = (nI H, nI (coF b n H), nI (if k = 0 then coF b n H + 1 else (paS b n H k).1), (paS b n H k).2, nI k) ∧ (k ≠ 0 → ¬ coF b n H < 2)) (fun r => r = if coF b n H < 2 then -1 else (paS b n H H).2)
    (by
      rintro k s hk ⟨rfl, h2⟩
      unfold iX2_parting_L17 fX2_parting_L17
      simp only []
      rw [if_neg (nI_ge hk (by omega))]
      by_cases c2 : coF b n H < 2
      · right
        have k0 : k = 0 := by
          rcases Nat.eq_zero_or_pos k with h | h
          · exact h
          · exact absurd c2 (h2 (by omega))
        rw [if_pos (show nI (coF b n H) < 2 from nI_lt (b := 2) c2 (by omega)), if_pos c2, k0]
        exact ⟨_, rfl, rfl⟩
      · left
        have hin := in_le (b := b) (n := n) (H := H) (h := k)
        have e1 : fX2_fitting V (nI H) (nI (2 ^ k)) = some (nI (inF b n H k)) := c_fitting ht (2 ^ k) (fun s => s.testBit k) (fun s => and_bit s k) (by have := Nat.pow_le_pow_right (n := 2) (by omega) (show k ≤ 7 by omega); omega)
        have hp1 : k ≠ 0 → (paS b n H k).1 ≤ 256 := fun h => pa_1 (by omega) hH
        have hl : (if k = 0 then coF b n H + 1 else (paS b n H k).1) < 2 ^ 31 := by
          split
          · omega
          · next h => have := hp1 h; omega
        rw [if_neg (show ¬ nI (coF b n H) < 2 from nI_nlt (b := 2) (by omega) (by omega)), q_shl (by omega), e1, q_R, pk_sub hin, q_mx (by omega) (by omega), q_lt, nI_1]
        have eg : max (inF b n H k) (coF b n H - inF b n H k) = grF b n H k := rfl
        have hg : grF b n H k ≤ coF b n H := by unfold grF; omega
        rw [eg]
        have es : paS b n H (k + 1) = if grF b n H k < (paS b n H k).1 then (grF b n H k, nI k) else paS b n H k := rfl
        have same : (grF b n H k < (if k = 0 then coF b n H + 1 else (paS b n H k).1)) ↔ grF b n H k < (paS b n H k).1 := by
          by_cases k0 : k = 0
          · rw [if_pos k0, k0]
            show grF b n H 0 < coF b n H + 1 ↔ grF b n H 0 < 1000000
            rw [k0] at hg
            omega
          · rw [if_neg k0]
        by_cases c : grF b n H k < (paS b n H k).1
        · have c' := same.2 c
          rw [if_neg (nI_ge c' hl), q_lt, es, if_pos c]
          exact ⟨_, rfl, by rw [if_neg (show ¬ k + 1 = 0 by omega)], fun _ => c2⟩
        · have c' := fun e => c (same.1 e)
          have k0 : k ≠ 0 := by
            intro k0
            apply c
            rw [k0]
            show grF b n H 0 < 1000000
            rw [k0] at hg
            omega
          rw [if_pos (nI_le (by omega) (by omega)), q_lt, es, if_neg c]
          exact ⟨_, rfl, by rw [if_neg (show ¬ k + 1 = 0 by omega), if_neg k0], fun _ => c2⟩)
    (by
      rintro s ⟨rfl, h2⟩
      unfold iX2_parting_L17 fX2_parting_L17
      simp only []
      rw [if_pos (nI_le (Nat.le_refl _) (by omega))]
      refine ⟨_, rfl, ?_⟩
      by_cases c2 : coF b n H < 2
      · have k0 : H = 0 := by
          rcases Nat.eq_zero_or_pos H with h | h
          · exact h
          · exact absurd c2 (h2 (by omega))
        rw [if_pos c2, k0]; rfl
      · rw [if_neg c2]) (by have := FV_ge; omega) (s := (nI H, nI (coF b n H), nI (coF b n H + 1), -1, 0)) ⟨rfl, fun h => absurd rfl h⟩
  rw [e, q_R]
theorem m_ask34 (ht : tM V b n A L) : it_ iX10_ask_L34 FV (V, -1, 1000000, 0) = some ((if coF b n (aS A 0) < 2 then -1 else (paS b n (aS A 0) (aS A 0)).2), V) := by
  obtain ⟨hT, h1, hn, h3, hb, hy, hrk⟩ := ht
  have h8 := hT.2.1.1.1
  have hpw : 2 ^ aS A 0 ≤ 256 := Nat.pow_le_pow_right (n := 2) (by omega) h8
  have hp := Nat.two_pow_pos (aS A 0)
  have hc : coF b n (aS A 0) ≤ 2 ^ aS A 0 := fb_ct_le _ _
  have e := lq (f := iX10_ask_L34) (r := ((if coF b n (aS A 0) < 2 then -1 else (paS b n (aS A 0) (aS A 0)).2), V)) (fun k => if coF b n (aS A 0) < 2 then (1000000, -1) else paS b n (aS A 0) k) (fun a k => (V, a.2, nI a.1, nI k)) (aS A 0) (by omega)
    (by
      intro k hk
      generalize hq : (if coF b n (aS A 0) < 2 then ((1000000, -1) : Nat × Int32) else paS b n (aS A 0) k) = q
      unfold iX10_ask_L34 fX10_ask_L34
      simp only []
      rw [m_houses hT.1, q_R, if_neg (nI_ge hk (by omega))]
      have e2 := lq (f := iX10_ask_L51) (r := (V, q.2, nI q.1, nI k, nI (inF b n (aS A 0) k), nI (coF b n (aS A 0)))) (fun j => (fb_ct (fun s => s.testBit k && ftB b n s) j, fb_ct (ftB b n) j)) (fun a j => (V, q.2, nI q.1, nI k, nI a.1, nI a.2, nI j)) (2 ^ aS A 0) (by omega)
        (by
          intro j hj
          unfold iX10_ask_L51 fX10_ask_L51
          simp only []
          rw [m_allHouses hT.1 hT.2.1, q_R, if_neg (nI_nlt (by omega) (by omega)), m_fits h1 hn h3 hb hy h8 hrk (by omega), q_R, q_ifb, nI_1, nI_1, q_shr (by omega) (by omega), q_and1, q_mod2, nI_add, fb_ct_succ, fb_ct_succ]
          simp only [q_lt]
          cases ftB b n j
          · rw [if_neg (by decide)]
            simp
          · rw [if_pos rfl]
            cases j.testBit k <;> simp)
        (by
          unfold iX10_ask_L51 fX10_ask_L51
          simp only []
          rw [m_allHouses hT.1 hT.2.1, q_R, if_pos (nI_lt (by omega) (by omega))]
          rfl)
      have e2 : it_ iX10_ask_L51 FV (V, q.2, nI q.1, nI k, 0, 0, 0) = _ := e2
      rw [e2, q_R]
      simp only [dt6_]
      have hin := in_le (b := b) (n := n) (H := aS A 0) (h := k)
      rw [pk_sub hin, q_mx (by omega) (by omega), q_lt, nI_1, show max (inF b n (aS A 0) k) (coF b n (aS A 0) - inF b n (aS A 0) k) = grF b n (aS A 0) k from rfl]
      have hg : grF b n (aS A 0) k ≤ coF b n (aS A 0) := by unfold grF; omega
      by_cases c2 : coF b n (aS A 0) < 2
      · rw [if_pos c2] at hq
        rw [if_pos (show nI (coF b n (aS A 0)) < 2 from nI_lt (b := 2) c2 (by omega)), q_lt, if_pos c2, hq]
      · rw [if_neg c2] at hq
        subst hq
        have hl : (paS b n (aS A 0) k).1 < 2 ^ 31 := by
          rcases Nat.eq_zero_or_pos k with h | h
          · rw [h]; show 1000000 < _; omega
          · have := pa_1 (b := b) (n := n) h h8
            omega
        have es : paS b n (aS A 0) (k + 1) = if grF b n (aS A 0) k < (paS b n (aS A 0) k).1 then (grF b n (aS A 0) k, nI k) else paS b n (aS A 0) k := rfl
        rw [if_neg (show ¬ nI (coF b n (aS A 0)) < 2 from nI_nlt (b := 2) (by omega) (by omega)), if_neg c2, es]
        by_cases c : grF b n (aS A 0) k < (paS b n (aS A 0) k).1
        · rw [if_pos (nI_lt c hl), if_pos c, q_lt]
        · rw [if_neg (nI_nlt (by omega) (by omega)), if_neg c, q_lt])
    (by
      unfold iX10_ask_L34 fX10_ask_L34
      simp only []
      rw [m_houses hT.1, q_R, if_pos (nI_le (Nat.le_refl _) (by omega))]
      by_cases c2 : coF b n (aS A 0) < 2
      · rw [if_pos c2, if_pos c2]
      · rw [if_neg c2, if_neg c2])
  have e0 : (if coF b n (aS A 0) < 2 then ((1000000, -1) : Nat × Int32) else paS b n (aS A 0) 0) = (1000000, -1) := by split <;> rfl
  rw [e0] at e
  exact e
theorem op_ask {cd : String → Int32} (hI : INV V) (h1 : cd IAE = 1) : OpE (fun V => fX9_ask V) (fun V => fX10_ask V) cd V := by
  obtain ⟨g, hC, hM⟩ := hI
  have h8 := hC.2.1.1.1
  obtain ⟨c1, c2, c3, c4⟩ := hC.2.2.2.2.1
  have et := c_isTold c1 c2 c3 h8
  have em : ∀ V1, MIN V1 g → fX10_isTold (us V1) = some (bI (tdB (xb g) (xn g) (aS (xA g) 0))) := fun V1 h => by
    obtain ⟨d1, d2, d3, d4⟩ := h.2.2.2.2.1
    exact m_isTold h.tu (us_11.trans d1) d2 (by rw [us_n (by omega)]; exact d3) d4
  cases ht : tdB (xb g) (xn g) (aS (xA g) 0)
  · rw [ht] at et
    refine op_xg (g := g) (g' := tpG g 0 (xb g)) hM IAE ⟨va_up V 1 (upd (V 1) 1 0), ?_, hC.cut, va_n (by omega), fun j hj => va_n (by omega)⟩ (fun V1 hM1 => ⟨0, va_up (us V1) 22 (upd (us V1 22) 0 1), ?_, ?_, ?_, ?_⟩)
    · show fX9_ask V = _
      unfold fX9_ask
      rw [hC.1.1.1, et, q_R, if_pos (show bI false = 0 from rfl)]
      unfold fX9_ask_j37
      rw [q_lt, if_pos (show bI false = 0 from rfl)]
    · show fX10_ask V1 = _
      unfold fX10_ask
      rw [m_uses, q_R, em V1 hM1, ht, q_R, if_pos (show bI false = 0 from rfl)]
      unfold fX10_ask_j17
      rw [m_thr1, q_I, if_neg q_10]
    · exact hM1.use.m tc_m
    · intro j hj h22
      rw [va_n h22]; exact us_n h22
    · rw [va_s, pk_us, h1]
  · rw [ht] at et
    obtain ⟨t1, t2, t3⟩ := td_t ht
    have tc : tC V (xb g) (xn g) (aS (xA g) 0) := ⟨c1, t1, t2, c3, h8, t3⟩
    refine op_g (g := g) (g' := tpG g 0 (xb g)) hM (if coF (xb g) (xn g) (aS (xA g) 0) < 2 then -1 else (paS (xb g) (xn g) (aS (xA g) 0) (aS (xA g) 0)).2) ⟨va_up V 1 (upd (V 1) 1 0), ?_, hC.cut, va_n (by omega), fun j hj => va_n (by omega)⟩ (fun V1 hM1 => ⟨us V1, ?_, hM1.use, fun j _ h22 => us_n h22, us_0⟩)
    · show fX9_ask V = _
      unfold fX9_ask
      rw [hC.1.1.1, et, q_R, if_neg (show ¬ bI true = 0 by decide), c_parting tc, q_R]
      unfold fX9_ask_j37
      rw [q_lt, if_neg (show ¬ bI true = 0 by decide)]
    · obtain ⟨d1, d2, d3, d4⟩ := hM1.2.2.2.2.1
      have hT := hM1.tu
      have tm : tM (us V1) (xb g) (xn g) (xA g) (xL g) := ⟨hT, us_11.trans d1, t1, t2, by rw [us_n (by omega)]; exact d3, d4, t3⟩
      show fX10_ask V1 = _
      unfold fX10_ask
      rw [m_uses, q_R, em V1 hM1, ht, q_R, if_neg (show ¬ bI true = 0 by decide)]
      unfold fX10_ask_j17
      rw [m_thr0, q_I, if_pos rfl, m_ask34 tm, q_R]
end OP
