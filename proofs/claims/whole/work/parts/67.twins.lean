/-! ===== twins ===== -/
theorem q_shL : ∀ m, m < 64 → (1 : Int64) <<< ((nI m).toInt64 &&& 63) = lN (2 ^ m) := by decide +kernel
theorem bs_lor (f g : Nat → Bool) (n : Nat) : bs f n ||| bs g n = bs (fun k => f k || g k) n := by
  apply Nat.eq_of_testBit_eq
  intro k
  rw [Nat.testBit_or, bs_bit, bs_bit, bs_bit]
  cases decide (k < n) <;> simp
/-- pairs (a, b), b below a, of which d holds, as bits of 8 times the one and the other, as far as (a, b) -/
def PP (H : Nat) (d : Nat → Nat → Bool) (a b j : Nat) : Bool := decide (j % 8 < j / 8 ∧ j / 8 < H ∧ (j / 8 < a ∨ (j / 8 = a ∧ j % 8 < b))) && d (j / 8) (j % 8)
def PF (H : Nat) (d : Nat → Nat → Bool) (j : Nat) : Bool := decide (j % 8 < j / 8 ∧ j / 8 < H) && d (j / 8) (j % 8)
theorem PP_0 {H : Nat} {d : Nat → Nat → Bool} : bs (PP H d 0 0) 64 = 0 := (bs_0 _ _).2 (fun k _ => by unfold PP; rw [decide_eq_false (by omega)]; rfl)
theorem PP_b {H : Nat} {d : Nat → Nat → Bool} {a b : Nat} (ha : a < H) (hH : H ≤ 8) (hb : b < a) : bs (PP H d a (b + 1)) 64 = if d a b then bs (PP H d a b) 64 ||| 2 ^ (8 * a + b) else bs (PP H d a b) 64 := by
  have key : ∀ j, j ≠ 8 * a + b → PP H d a (b + 1) j = PP H d a b j := by
    intro j hj
    unfold PP
    congr 1
    apply decide_eq_decide.2
    constructor
    · intro h; omega
    · intro h; omega
  cases hd : d a b
  · rw [if_neg (by decide)]
    apply bs_cong
    intro j _
    by_cases e : j = 8 * a + b
    · unfold PP
      rw [e, show (8 * a + b) / 8 = a by omega, show (8 * a + b) % 8 = b by omega, hd]
      simp
    · exact key j e
  · rw [if_pos rfl, ← bs_set (show 8 * a + b < 64 by omega)]
    apply bs_cong
    intro j _
    by_cases e : j = 8 * a + b
    · rw [if_pos e]
      unfold PP
      rw [e, show (8 * a + b) / 8 = a by omega, show (8 * a + b) % 8 = b by omega, hd, decide_eq_true (by omega)]
      rfl
    · rw [if_neg e]; exact key j e
theorem PP_a {H : Nat} {d : Nat → Nat → Bool} {a : Nat} : bs (PP H d a a) 64 = bs (PP H d (a + 1) 0) 64 := bs_cong (fun j _ => by
  unfold PP
  congr 1
  apply decide_eq_decide.2
  constructor
  · intro h; omega
  · intro h; omega)
theorem PP_e {H : Nat} {d : Nat → Nat → Bool} : bs (PP H d H 0) 64 = bs (PF H d) 64 := bs_cong (fun j _ => by
  unfold PP PF
  congr 1
  apply decide_eq_decide.2
  constructor
  · intro h; omega
  · intro h; omega)
theorem ct_PF {H : Nat} {d : Nat → Nat → Bool} (hH : H ≤ 8) : fb_ct (PF H d) 64 = fb_sm (fun a => fb_ct (d a) a) H := by
  have h1 : ∀ k, k ≤ 8 → fb_ct (PF H d) (8 * k) = fb_sm (fun a => if a < H then fb_ct (d a) a else 0) k := by
    intro k
    induction k with
    | zero => intro _; rfl
    | succ k ih =>
      intro hk
      rw [show 8 * (k + 1) = 8 * k + 8 by omega, fb_ct_split, ih (by omega), fb_sm_succ]
      congr 1
      have e : ∀ j, j < 8 → PF H d (8 * k + j) = (decide (j < k ∧ k < H) && d k j) := by
        intro j hj
        unfold PF
        rw [show (8 * k + j) / 8 = k by omega, show (8 * k + j) % 8 = j by omega]
      rw [fb_ct_cong e]
      by_cases c : k < H
      · rw [if_pos c]
        have h8 : 8 = k + (8 - k) := by omega
        rw [h8, fb_ct_split]
        have z : fb_ct (fun j => decide (k + j < k ∧ k < H) && d k (k + j)) (8 - k) = 0 := fb_ct_zero.2 (fun j _ => by rw [decide_eq_false (by omega)]; rfl)
        rw [z, Nat.add_zero]
        exact fb_ct_cong (fun j hj => by rw [decide_eq_true (show j < k ∧ k < H from ⟨hj, c⟩)]; rfl)
      · rw [if_neg c]
        exact fb_ct_zero.2 (fun j _ => by rw [decide_eq_false (fun h => c h.2)]; rfl)
  have h2 := h1 8 (Nat.le_refl _)
  rw [show 64 = 8 * 8 from rfl, h2, show 8 = H + (8 - H) by omega, fb_sm_split]
  have z : fb_sm (fun k => if H + k < H then fb_ct (d (H + k)) (H + k) else 0) (8 - H) = 0 := by
    have : (fun k => if H + k < H then fb_ct (d (H + k)) (H + k) else 0) = fun _ => 0 := by
      funext k
      rw [if_neg (by omega)]
    rw [this, fb_sm_const, Nat.mul_zero]
  rw [z, Nat.add_zero]
  exact fb_sm_cong (fun k hk => if_pos hk)
theorem tri (n : Nat) : fb_sm (fun a => a) n * 2 = n * (n - 1) := by
  induction n with
  | zero => rfl
  | succ n ih =>
    rw [fb_sm_succ, Nat.add_mul, ih, Nat.add_sub_cancel]
    cases n with
    | zero => rfl
    | succ m =>
      rw [Nat.add_sub_cancel]
      have : (m + 1) * m + (m + 1) * 2 = (m + 1) * (m + 2) := by rw [← Nat.mul_add]
      rw [this, Nat.mul_comm]
theorem alike_eq {H : Nat} {d : Nat → Nat → Bool} : H * (H - 1) / 2 - fb_sm (fun a => fb_ct (d a) a) H = fb_sm (fun a => fb_ct (fun b => !d a b) a) H ∧ fb_sm (fun a => fb_ct (d a) a) H ≤ H * (H - 1) / 2 := by
  have h1 := fb_sm_add (fun a => fb_ct (d a) a) (fun a => fb_ct (fun b => !d a b) a) H
  have h2 : (fun a => fb_ct (d a) a + fb_ct (fun b => !d a b) a) = fun a => a := by
    funext a
    exact fb_ct_not (d a) a
  rw [h2] at h1
  have h3 := tri H
  omega
section OP
variable {V : VT} {i : Nat} {A : AT} {L : Fa → Bool}
def difT (L : Fa → Bool) (A : AT) (t a b : Nat) : Bool := decide (¬ plc L A a t = plc L A b t)
def difK (L : Fa → Bool) (A : AT) (k a b : Nat) : Bool := anyB (fun t => difT L A t a b) k
theorem c_parted {t H : Nat} (hH : H ≤ 8) (hv : ∀ h, h < H → V 75 h = nI (plc L A h t)) : fX5_pairsParted V (nI H) = some (lN (bs (PF H (difT L A t)) 64)) := by
  unfold fX5_pairsParted
  have e := lq (f := iX5_pairsParted_L5 V) (r := lN (bs (PF H (difT L A t)) 64)) (fun a => bs (PP H (difT L A t) a 0) 64) (fun x a => (nI H, lN x, nI a)) H (by omega)
    (by
      intro a ha
      unfold iX5_pairsParted_L5 fX5_pairsParted_L5
      simp only []
      rw [if_neg (nI_ge ha (by omega)), if_neg (nI_ge (show a < 8 by omega) (by omega))]
      have e2 := lq (f := iX5_pairsParted_L24 V) (r := (nI H, lN (bs (PP H (difT L A t) a a) 64), nI a)) (fun b => bs (PP H (difT L A t) a b) 64) (fun x b => (nI H, lN x, nI a, nI b)) a (by omega)
        (by
          intro b hb
          have p1 := plc24 (L := L) (A := A) (t := t) a
          have p2 := plc24 (L := L) (A := A) (t := t) b
          unfold iX5_pairsParted_L24 fX5_pairsParted_L24
          simp only []
          rw [if_neg (nI_ge hb (by omega)), q_rd (show a < 8 by omega) (by omega), q_rd (show b < 8 by omega) (by omega), nI_clamp (by omega), nI_clamp (by omega), hv a ha, hv b (by omega), nI_1, q_mulL, nI_add, q_shL _ (by omega), fb_orL, PP_b ha hH hb]
          by_cases c : plc L A a t = plc L A b t
          · rw [if_pos (by rw [c]), if_neg (show ¬ difT L A t a b = true from fun e => of_decide_eq_true e c), q_lt]
          · rw [if_neg (fun e => c ((nI_eq (by omega) (by omega)).1 e)), if_pos (show difT L A t a b = true from decide_eq_true c), q_lt, q_lt])
        (by
          unfold iX5_pairsParted_L24 fX5_pairsParted_L24
          simp only []
          rw [if_pos (nI_le (Nat.le_refl _) (by omega))])
      have e2 : it_ (iX5_pairsParted_L24 V) FV (nI H, lN (bs (PP H (difT L A t) a 0) 64), nI a, 0) = _ := e2
      rw [e2, q_R]
      simp only [dt3_]
      rw [nI_1, q_lt, PP_a])
    (by
      unfold iX5_pairsParted_L5 fX5_pairsParted_L5
      simp only []
      rw [if_pos (nI_le (Nat.le_refl _) (by omega)), PP_e])
  simp only [PP_0] at e
  have e : it_ (iX5_pairsParted_L5 V) FV (nI H, 0, 0) = _ := e
  rw [e, q_R]
theorem PF_or {H : Nat} {d e : Nat → Nat → Bool} : bs (PF H d) 64 ||| bs (PF H e) 64 = bs (PF H (fun a b => d a b || e a b)) 64 := by
  rw [bs_lor]
  apply bs_cong
  intro j _
  unfold PF
  cases decide (j % 8 < j / 8 ∧ j / 8 < H) <;> simp
theorem c_twins (hC : CT V i A L) : ∃ V', fX5_pairsAlike V i = some (nI (fb_sm (fun a => fb_ct (fun b => !difK L A 24 a b) a) (aS A 0)), V') ∧ Cq V V' := by
  have h8 := hC.2.1.1.1
  obtain ⟨h1, h2⟩ := alike_eq (H := aS A 0) (d := difK L A 24)
  unfold fX5_pairsAlike
  have ey : (V i 3 * (V i 3 - 1)) / 2 = nI (aS A 0 * (aS A 0 - 1) / 2) := by
    rw [hC.1.1.1]
    have : aS A 0 = 0 ∨ 0 < aS A 0 := by omega
    rcases this with h | h
    · rw [h]; decide
    · have hm : aS A 0 * (aS A 0 - 1) ≤ 8 * 8 := Nat.mul_le_mul h8 (by omega)
      rw [show nI (aS A 0) - 1 = nI (aS A 0 - 1) from pk_sub (b := 1) h, pk_mul]
      exact pk_div (d := 2) (by omega) (by omega) (by omega)
  rw [ey, q_lt]
  obtain ⟨V2, e2, hq2⟩ := lp (V := V) (f := iX5_pairsAlike_L20 i) (fun k => bs (PF (aS A 0) (difK L A k)) 64) (fun V' a k => (V', nI (aS A 0 * (aS A 0 - 1) / 2), lN a, nI k)) (fun V' a => (nI (fb_sm (fun a => fb_ct (fun b => !difK L A 24 a b) a) (aS A 0)), V')) (fun V' => Cq V V') 24 (by omega) Cq.rf
    (by
      intro k V' hk hq
      have hC' := hC.q hq
      obtain ⟨V3, e3, hq3, hv3⟩ := c_lookOut hC' hk
      unfold iX5_pairsAlike_L20 fX5_pairsAlike_L20
      simp only []
      rw [if_neg (show ¬ (24 : Int32) ≤ nI k from nI_ge (b := 24) hk (by omega)), e3, q_I, (hC'.q hq3).1.1.1, c_parted h8 hv3, q_R, fb_orL, PF_or, q_lt, nI_1, q_lt]
      exact ⟨V3, rfl, hq.tr hq3⟩)
    (by
      intro V' hq
      have hlt : bs (PF (aS A 0) (difK L A 24)) 64 < 2 ^ 64 := bs_lt _ 64
      have hct : fb_ct (bs (PF (aS A 0) (difK L A 24)) 64).testBit 64 = fb_sm (fun a => fb_ct (difK L A 24 a) a) (aS A 0) := by
        rw [← ct_PF h8]
        exact fb_ct_cong (fun j hj => by rw [bs_bit]; simp [hj])
      unfold iX5_pairsAlike_L20 fX5_pairsAlike_L20
      simp only []
      rw [if_pos (show (24 : Int32) ≤ nI 24 from nI_le (Nat.le_refl _) (by omega)), bcL hlt, q_R, hct, pk_sub h2, h1])
  have e0 : bs (PF (aS A 0) (difK L A 0)) 64 = 0 := (bs_0 _ _).2 (fun j _ => by
    unfold PF difK
    rw [show anyB (fun t => difT L A t (j / 8) (j % 8)) 0 = false from rfl, Bool.and_false])
  simp only [e0] at e2
  have e2 : it_ (iX5_pairsAlike_L20 i) FV (V, nI (aS A 0 * (aS A 0 - 1) / 2), 0, 0) = _ := e2
  rw [e2, q_R]
  exact ⟨V2, rfl, hq2⟩
/-! ===== the model's twins ===== -/
def Mw (V V' : VT) : Prop := (∀ j, j ≠ 22 → j ≠ 83 → j ≠ 86 → j ≠ 87 → V' j = V j) ∧ ∀ k, k < 18 ∨ 24 < k → V' 22 k = V 22 k
theorem Mw.rf {V : VT} : Mw V V := ⟨fun _ _ _ _ _ => rfl, fun _ _ => rfl⟩
theorem Mw.tr {V V1 V2 : VT} (h1 : Mw V V1) (h2 : Mw V1 V2) : Mw V V2 := ⟨fun j a b c d => (h2.1 j a b c d).trans (h1.1 j a b c d), fun k hk => (h2.2 k hk).trans (h1.2 k hk)⟩
theorem Mw.u {V : VT} {f : Nat → Int32} : Mw V (va_up V 87 f) := ⟨fun q _ _ _ d => va_n d, fun k _ => by rw [va_n (by omega)]⟩
theorem Mw.q {V V' : VT} (h : Mw V V') : Mq V V' := ⟨fun j a b => h.1 j a (by omega) (by omega) (by omega), h.2⟩
theorem MT.w2 {V V' : VT} (h : MT V A L) (ht : Mw V V') : MT V' A L := h.w (ht.1 76 (by omega) (by omega) (by omega) (by omega))
theorem nb_0 : vp_nar .boolean (0 : Int32) = 0 := by decide
theorem nb_or {x y : Bool} : vp_nar .boolean (bI x ||| bI y) = bI (x || y) := by cases x <;> cases y <;> decide
theorem m_twins (hT : MT V A L) : ∃ V', (ob_R (it_ (iX10_twins_L7) FV (V, (0 : Int32))) fun x7 => (lt_ x7 fun V8 => ob_R (it_ (iX10_twins_L28) FV (V8, (0 : Int32))) fun x38 => (lt_ x38 fun V39 => ob_R (it_ (iX10_twins_L112) FV (V39, (0 : Int32), (0 : Int32))) fun x57 => some x57))) = some (nI (fb_sm (fun a => fb_ct (fun b => !difK L A 24 a b) a) (aS A 0)), V') ∧ Mw V V' := by
  have h8 := hT.2.1.1.1
  obtain ⟨V8, e8, g1, g2⟩ := lk (V := V) (f := iX10_twins_L7) (fun _ => ()) (fun V' _ k => (V', nI k)) (fun V' _ => V') (fun k V' => Mw V V' ∧ ∀ j, j < k → V' 87 j = 0) 64 (by omega) ⟨Mw.rf, fun j hj => absurd hj (Nat.not_lt_zero _)⟩
    (by
      rintro k V' hk ⟨g1, g2⟩
      unfold iX10_twins_L7 fX10_twins_L7
      simp only []
      rw [if_neg (show ¬ (64 : Int32) ≤ nI k from nI_ge (b := 64) hk (by omega)), q_rd hk (by omega), nI_clamp (by omega), nb_0, q_lt, nI_1, q_lt]
      refine ⟨_, rfl, g1.tr Mw.u, fun j hj => ?_⟩
      rw [va_s]
      by_cases e : j = k
      · rw [e, pk_us]
      · rw [pk_un e]; exact g2 j (by omega))
    (by
      rintro V' -
      unfold iX10_twins_L7 fX10_twins_L7
      simp only []
      rw [if_pos (show (64 : Int32) ≤ nI 64 from nI_le (Nat.le_refl _) (by omega))])
  have e8 : it_ iX10_twins_L7 FV (V, 0) = _ := e8
  rw [e8, q_R, q_lt]
  obtain ⟨V9, e9, f1, f2⟩ := lk (V := V8) (f := iX10_twins_L28) (fun _ => ()) (fun V' _ k => (V', nI k)) (fun V' _ => V') (fun k V' => Mw V V' ∧ ∀ a b, a < aS A 0 → b < a → V' 87 (8 * a + b) = bI (difK L A k a b)) 24 (by omega) ⟨g1, fun a b ha hb => g2 _ (by omega)⟩
    (by
      rintro t V' ht ⟨f1, f2⟩
      obtain ⟨V10, e10, m10, v10⟩ := m_laysEyes (hT.w2 f1) ht
      have m10' : Mw V' V10 := ⟨fun j a b c _ => m10.1 j a b c, m10.2⟩
      have hT10 := (hT.w2 f1).w2 m10'
      have e87 : V10 87 = V' 87 := m10.1 87 (by omega) (by omega) (by omega)
      unfold iX10_twins_L28 fX10_twins_L28
      simp only []
      rw [if_neg (show ¬ (24 : Int32) ≤ nI t from nI_ge (b := 24) ht (by omega)), e10, q_R]
      obtain ⟨V11, e11, k1, k2, k3⟩ := lk (V := V10) (f := iX10_twins_L41) (fun _ => ()) (fun V' _ a => (V', nI t, nI a)) (fun V' _ => (V', nI t)) (fun a V2 => (∀ q, q ≠ 87 → V2 q = V10 q) ∧ (∀ h b, h < a → b < h → V2 87 (8 * h + b) = bI (difK L A (t + 1) h b)) ∧ ∀ h b, a ≤ h → h < aS A 0 → b < h → V2 87 (8 * h + b) = bI (difK L A t h b)) (aS A 0) (by omega) ⟨fun _ _ => rfl, fun h b hh => absurd hh (Nat.not_lt_zero _), fun h b _ hh hb => by rw [e87]; exact f2 h b hh hb⟩
        (by
          rintro a V2 ha ⟨k1, k2, k3⟩
          unfold iX10_twins_L41 fX10_twins_L41
          simp only []
          rw [m_houses (hT10.w (k1 76 (by omega))).1, q_R, if_neg (nI_ge ha (by omega))]
          obtain ⟨V12, e12, r1, r2, r3, r4⟩ := lk (V := V2) (f := iX10_twins_L51) (fun _ => ()) (fun V' _ b => (V', nI t, nI a, nI b)) (fun V' _ => (V', nI t, nI a)) (fun b V3 => (∀ q, q ≠ 87 → V3 q = V10 q) ∧ (∀ o, o < b → V3 87 (8 * a + o) = bI (difK L A (t + 1) a o)) ∧ (∀ o, b ≤ o → o < a → V3 87 (8 * a + o) = bI (difK L A t a o)) ∧ ∀ h o, h ≠ a → h < aS A 0 → o < h → V3 87 (8 * h + o) = V2 87 (8 * h + o)) a (by omega) ⟨k1, fun o ho => absurd ho (Nat.not_lt_zero _), fun o _ ho => k3 a o (Nat.le_refl _) ha ho, fun _ _ _ _ _ => rfl⟩
            (by
              rintro b V3 hb ⟨r1, r2, r3, r4⟩
              have p1 := plc24 (L := L) (A := A) (t := t) a
              have p2 := plc24 (L := L) (A := A) (t := t) b
              have ek : difK L A (t + 1) a b = (difK L A t a b || difT L A t a b) := rfl
              unfold iX10_twins_L51 fX10_twins_L51
              simp only []
              rw [if_neg (nI_ge hb (by omega)), q_mulL, nI_add, nI_1, q_rd (show 8 * a + b < 64 by omega) (by omega), q_rd (show a < 8 by omega) (by omega), q_rd (show b < 8 by omega) (by omega), nI_clamp (by omega), nI_clamp (by omega), nI_clamp (by omega), r1 86 (by omega), v10 a ha, v10 b (by omega), r3 b (Nat.le_refl _) hb]
              have fin : ∀ x : Int32, x = bI (difK L A (t + 1) a b) → (∀ q, q ≠ 87 → va_up V3 87 (upd (V3 87) (8 * a + b) x) q = V10 q) ∧ (∀ o, o < b + 1 → va_up V3 87 (upd (V3 87) (8 * a + b) x) 87 (8 * a + o) = bI (difK L A (t + 1) a o)) ∧ (∀ o, b + 1 ≤ o → o < a → va_up V3 87 (upd (V3 87) (8 * a + b) x) 87 (8 * a + o) = bI (difK L A t a o)) ∧ ∀ h o, h ≠ a → h < aS A 0 → o < h → va_up V3 87 (upd (V3 87) (8 * a + b) x) 87 (8 * h + o) = V2 87 (8 * h + o) := by
                intro x hx
                refine ⟨fun q hq => by rw [va_n hq]; exact r1 q hq, fun o ho => ?_, fun o h1 h2 => ?_, fun h o h1 h2 h3 => ?_⟩
                · rw [va_s]
                  by_cases e : o = b
                  · rw [e, pk_us]; exact hx
                  · rw [pk_un (by omega)]; exact r2 o (by omega)
                · rw [va_s, pk_un (by omega)]; exact r3 o (by omega) h2
                · rw [va_s, pk_un (by omega)]; exact r4 h o h1 h2 h3
              by_cases c : plc L A a t = plc L A b t
              · rw [if_pos (by rw [c]), q_rd (show 8 * a + b < 64 by omega) (by omega), show vp_nar .boolean (bI (difK L A t a b) ||| 0) = bI (difK L A t a b || false) from nb_or (y := false), q_lt, q_lt]
                exact ⟨_, rfl, fin _ (by rw [ek, show difT L A t a b = false from decide_eq_false (fun h => h c)])⟩
              · rw [if_neg (fun e => c ((nI_eq (by omega) (by omega)).1 e)), q_rd (show 8 * a + b < 64 by omega) (by omega), show vp_nar .boolean (bI (difK L A t a b) ||| 1) = bI (difK L A t a b || true) from nb_or (y := true), q_lt, q_lt]
                exact ⟨_, rfl, fin _ (by rw [ek, show difT L A t a b = true from decide_eq_true c])⟩)
            (by
              rintro V3 -
              unfold iX10_twins_L51 fX10_twins_L51
              simp only []
              rw [if_pos (nI_le (Nat.le_refl _) (by omega))])
          have e12 : it_ iX10_twins_L51 FV (V2, nI t, nI a, 0) = _ := e12
          rw [e12, q_R]
          simp only [dt3_]
          rw [nI_1, q_lt]
          refine ⟨V12, rfl, r1, fun h b hh hb => ?_, fun h b h1 h2 h3 => ?_⟩
          · by_cases e : h = a
            · rw [e]; exact r2 b (by omega)
            · rw [r4 h b e (by omega) hb]; exact k2 h b (by omega) hb
          · rw [r4 h b (by omega) h2 h3]; exact k3 h b (by omega) h2 h3)
        (by
          rintro V2 ⟨k1, -⟩
          unfold iX10_twins_L41 fX10_twins_L41
          simp only []
          rw [m_houses (hT10.w (k1 76 (by omega))).1, q_R, if_pos (nI_le (Nat.le_refl _) (by omega))])
      have e11 : it_ iX10_twins_L41 FV (V10, nI t, 0) = _ := e11
      rw [e11, q_R]
      simp only [dt2_]
      rw [nI_1, q_lt]
      exact ⟨V11, rfl, (f1.tr m10').tr ⟨fun j _ _ _ d => k1 j d, fun k _ => by rw [k1 22 (by omega)]⟩, k2⟩)
    (by
      rintro V' -
      unfold iX10_twins_L28 fX10_twins_L28
      simp only []
      rw [if_pos (show (24 : Int32) ≤ nI 24 from nI_le (Nat.le_refl _) (by omega))])
  have e9 : it_ iX10_twins_L28 FV (V8, 0) = _ := e9
  rw [e9, q_R, q_lt]
  have hT9 := hT.w2 f1
  have e := lq (f := iX10_twins_L112) (r := (nI (fb_sm (fun a => fb_ct (fun b => !difK L A 24 a b) a) (aS A 0)), V9)) (fun a => fb_sm (fun a => fb_ct (fun b => !difK L A 24 a b) a) a) (fun x a => (V9, nI x, nI a)) (aS A 0) (by omega)
    (by
      intro a ha
      unfold iX10_twins_L112 fX10_twins_L112
      simp only []
      rw [m_houses hT9.1, q_R, if_neg (nI_ge ha (by omega))]
      have e2 := lq (f := iX10_twins_L122) (r := (V9, nI (fb_sm (fun a => fb_ct (fun b => !difK L A 24 a b) a) a + fb_ct (fun b => !difK L A 24 a b) a), nI a)) (fun b => fb_sm (fun a => fb_ct (fun b => !difK L A 24 a b) a) a + fb_ct (fun b => !difK L A 24 a b) b) (fun x b => (V9, nI x, nI a, nI b)) a (by omega)
        (by
          intro b hb
          unfold iX10_twins_L122 fX10_twins_L122
          simp only []
          rw [if_neg (nI_ge hb (by omega)), q_mulL, nI_add, q_rd (show 8 * a + b < 64 by omega) (by omega), nI_clamp (by omega), f2 a b ha hb, q_ifb, nI_1, nI_1, add0, fb_ct_succ]
          simp only [q_lt]
          cases difK L A 24 a b
          · rw [if_neg (by decide)]; rfl
          · rw [if_pos rfl]; rfl)
        (by
          unfold iX10_twins_L122 fX10_twins_L122
          simp only []
          rw [if_pos (nI_le (Nat.le_refl _) (by omega))])
      have e2 : it_ iX10_twins_L122 FV (V9, nI (fb_sm (fun a => fb_ct (fun b => !difK L A 24 a b) a) a), nI a, 0) = _ := e2
      rw [e2, q_R]
      simp only [dt3_]
      rw [nI_1, q_lt]
      rfl)
    (by
      unfold iX10_twins_L112 fX10_twins_L112
      simp only []
      rw [m_houses hT9.1, q_R, if_pos (nI_le (Nat.le_refl _) (by omega))])
  have e : it_ iX10_twins_L112 FV (V9, 0, 0) = _ := e
  rw [e, q_R]
  exact ⟨V9, rfl, f1⟩
theorem op_twins (hI : INV V) : OpI (fun V => fX9_twins V) (fun V => fX10_twins V) V := by
  obtain ⟨g, hC, hM⟩ := hI
  refine op_i hC hM (nI (fb_sm (fun a => fb_ct (fun b => !difK (xL g) (xA g) 24 a b) a) (aS (xA g) 0))) ?_ (fun V1 hM1 => ?_)
  · obtain ⟨V2, e2, hq2⟩ := c_twins hC.t
    refine ⟨V2, ?_, hq2.c⟩
    show fX9_twins V = _
    unfold fX9_twins
    rw [e2, q_I]
  · obtain ⟨V2, e2, hq2⟩ := m_twins hM1.t0
    refine ⟨V2, ?_, t0_m.tr hq2.q.m⟩
    show fX10_twins V1 = _
    unfold fX10_twins
    rw [q_lt, t0_e]
    exact e2
end OP
