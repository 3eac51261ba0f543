/-! ===== the views of all houses ===== -/
def orN (f : Nat → Nat) : Nat → Nat
  | 0 => 0
  | n + 1 => orN f n ||| f n
/-- what the houses of a set see together -/
def vwS (f : Nat → Nat) (s : Nat) : Nat → Nat
  | 0 => 0
  | n + 1 => vwS f s n ||| (if s.testBit n then f n else 0)
theorem vwS_full {f : Nat → Nat} {m : Nat} : ∀ n, n ≤ m → vwS f (2 ^ m - 1) n = orN f n
  | 0, _ => rfl
  | n + 1, h => by
    show vwS f (2 ^ m - 1) n ||| (if (2 ^ m - 1).testBit n then f n else 0) = orN f n ||| f n
    rw [vwS_full n (by omega), Nat.testBit_two_pow_sub_one, decide_eq_true (show n < m by omega), if_pos rfl]
theorem vwS_hi {f : Nat → Nat} {s m : Nat} (hs : s < 2 ^ m) : ∀ n, m ≤ n → vwS f s n = vwS f s m
  | 0, h => by rw [show m = 0 by omega]
  | n + 1, h => by
    by_cases e : m = n + 1
    · rw [e]
    · show vwS f s n ||| (if s.testBit n then f n else 0) = _
      have : s.testBit n = false := Nat.testBit_lt_two_pow (Nat.lt_of_lt_of_le hs (Nat.pow_le_pow_right (by omega) (by omega)))
      rw [this, if_neg (by decide), Nat.or_zero]
      exact vwS_hi hs n (by omega)
theorem orN_lt {f : Nat → Nat} (h : ∀ k, f k < 2 ^ 24) : ∀ n, orN f n < 2 ^ 24
  | 0 => by show (0 : Nat) < _; omega
  | n + 1 => Nat.or_lt_two_pow (orN_lt h n) (h n)
theorem vwS_lt {f : Nat → Nat} {s : Nat} (h : ∀ k, f k < 2 ^ 24) : ∀ n, vwS f s n < 2 ^ 24
  | 0 => by show (0 : Nat) < _; omega
  | n + 1 => by
    refine Nat.or_lt_two_pow (vwS_lt h n) ?_
    split
    · exact h n
    · omega
section OP
variable {V : VT} {i : Nat} {A : AT} {L : Fa → Bool}
theorem plc24 {t : Nat} : ∀ k, plc L A k t < 2 ^ 24 := fun _ => bs_lt _ 24
theorem c_lookOut (hC : CT V i A L) {t : Nat} (ht : t < 24) : ∃ V', fX5_lookOut V i (nI t) = some (nI (orN (fun h => plc L A h t) (aS A 0)), V') ∧ Cq V V' ∧ ∀ h, h < aS A 0 → V' 75 h = nI (plc L A h t) := by
  have h8 := hC.2.1.1.1
  unfold fX5_lookOut
  obtain ⟨V', e, g1, g2⟩ := lk (V := V) (f := iX5_lookOut_L6 i) (fun k => orN (fun h => plc L A h t) k) (fun V' a k => (V', nI t, nI a, nI k)) (fun V' a => (nI a, V')) (fun k V' => Cq V V' ∧ ∀ h, h < k → V' 75 h = nI (plc L A h t)) (aS A 0) (by omega) ⟨Cq.rf, fun h hh => absurd hh (Nat.not_lt_zero _)⟩
    (by
      rintro k V' hk ⟨g1, g2⟩
      have hC' := hC.q g1
      obtain ⟨V2, e2, hy2⟩ := c_place hC' hk ht
      unfold iX5_lookOut_L6 fX5_lookOut_L6
      simp only []
      rw [hC'.1.1.1, if_neg (nI_ge hk (by omega)), if_neg (nI_ge (show k < 8 by omega) (by omega)), e2, q_I, q_rd (show k < 8 by omega) (by omega), nI_clamp (by omega), q_lt, q_rd (show k < 8 by omega) (by omega), va_s, pk_us, q_or, q_lt, nI_1, q_lt]
      refine ⟨_, rfl, (g1.tr hy2.q).tr (Cq.up (by omega)), fun h hh => ?_⟩
      rw [va_s]
      by_cases e : h = k
      · rw [e, pk_us]
      · rw [pk_un e, hy2.1 75 (by omega)]; exact g2 h (by omega))
    (by
      rintro V' ⟨g1, g2⟩
      unfold iX5_lookOut_L6 fX5_lookOut_L6
      simp only []
      rw [(hC.q g1).1.1.1, if_pos (nI_le (Nat.le_refl _) (by omega))])
  have e : it_ (iX5_lookOut_L6 i) FV (V, nI t, 0, 0) = _ := e
  rw [e, q_R]
  exact ⟨V', rfl, g1, g2⟩
theorem m_laysEyes (hC : MT V A L) {t : Nat} (ht : t < 24) : ∃ V', fX10_laysEyes V (nI t) = some V' ∧ ((∀ j, j ≠ 22 → j ≠ 83 → j ≠ 86 → V' j = V j) ∧ ∀ k, k < 18 ∨ 24 < k → V' 22 k = V 22 k) ∧ ∀ h, h < aS A 0 → V' 86 h = nI (plc L A h t) := by
  have h8 := hC.2.1.1.1
  have hw : ∀ V' : VT, ((∀ j, j ≠ 22 → j ≠ 83 → j ≠ 86 → V' j = V j) ∧ ∀ k, k < 18 ∨ 24 < k → V' 22 k = V 22 k) → MT V' A L := fun V' h => hC.w (h.1 76 (by omega) (by omega) (by omega))
  unfold fX10_laysEyes
  obtain ⟨V', e, g1, g2⟩ := lk (V := V) (f := iX10_laysEyes_L2) (fun _ => ()) (fun V' _ k => (V', nI t, nI k)) (fun V' _ => V') (fun k V' => ((∀ j, j ≠ 22 → j ≠ 83 → j ≠ 86 → V' j = V j) ∧ ∀ k, k < 18 ∨ 24 < k → V' 22 k = V 22 k) ∧ ∀ h, h < k → V' 86 h = nI (plc L A h t)) (aS A 0) (by omega) ⟨⟨fun _ _ _ _ => rfl, fun _ _ => rfl⟩, fun h hh => absurd hh (Nat.not_lt_zero _)⟩
    (by
      rintro k V' hk ⟨g1, g2⟩
      have hC' := hw V' g1
      unfold iX10_laysEyes_L2 fX10_laysEyes_L2
      simp only []
      rw [m_houses hC'.1, q_R, if_neg (nI_ge hk (by omega)), q_rd (show k < 8 by omega) (by omega), nI_clamp (by omega), q_lt]
      obtain ⟨V2, e2, f1, f2, f3⟩ := lk (V := va_up V' 86 (upd (V' 86) k 0)) (f := iX10_laysEyes_L19) (fun _ => ()) (fun V2 _ p => (V2, nI t, nI k, nI p)) (fun V2 _ => (V2, nI t, nI k)) (fun p V2 => ((∀ j, j ≠ 22 → j ≠ 83 → j ≠ 86 → V2 j = V j) ∧ ∀ k, k < 18 ∨ 24 < k → V2 22 k = V 22 k) ∧ (∀ h, h < k → V2 86 h = nI (plc L A h t)) ∧ V2 86 k = nI (bs (fun p => L (fc A k p t)) p)) 24 (by omega) ⟨⟨fun j a b c => by rw [va_n c]; exact g1.1 j a b c, fun j hj => by rw [va_n (by omega)]; exact g1.2 j hj⟩, fun h hh => by rw [va_s, pk_un (by omega)]; exact g2 h hh, by rw [va_s, pk_us]; rfl⟩
        (by
          rintro p V2 hp ⟨f1, f2, f3⟩
          have hC2 := hw V2 f1
          obtain ⟨V3, e3, hy3, -⟩ := hC2.see (fog := aS A 5) hk hp ht
          have e3 : fX10_doesSee V2 (nI k) (nI p) (nI t) (nI (aS A 5)) = some (bI (L (fc A k p t)), V3) := e3
          have fr : (∀ j, j ≠ 22 → j ≠ 83 → j ≠ 86 → V3 j = V j) ∧ ∀ k, k < 18 ∨ 24 < k → V3 22 k = V 22 k := ⟨fun j a b c => (hy3.1 j a b).trans (f1.1 j a b c), fun k hk => (hy3.2 k hk).trans (f1.2 k hk)⟩
          have e86 : V3 86 = V2 86 := hy3.1 86 (by omega) (by omega)
          unfold iX10_laysEyes_L19 fX10_laysEyes_L19
          simp only []
          rw [if_neg (show ¬ (24 : Int32) ≤ nI p from nI_ge (b := 24) hp (by omega)), q_rd (show k < 8 by omega) (by omega), q_rdl (by omega) (by omega), q_cl (by omega), show V2 76 (OfNat.ofNat 5) = _ from hC2.1.1 5 (by omega), e3, q_I, q_ifb, q_rd (show k < 8 by omega) (by omega), nI_clamp (by omega), f3, q_shl (by omega), or0]
          have fin : ∀ x : Int32, x = nI (bs (fun p => L (fc A k p t)) (p + 1)) → ((∀ j, j ≠ 22 → j ≠ 83 → j ≠ 86 → va_up V3 86 (upd (V3 86) k x) j = V j) ∧ ∀ q, q < 18 ∨ 24 < q → va_up V3 86 (upd (V3 86) k x) 22 q = V 22 q) ∧ (∀ h, h < k → va_up V3 86 (upd (V3 86) k x) 86 h = nI (plc L A h t)) ∧ va_up V3 86 (upd (V3 86) k x) 86 k = nI (bs (fun p => L (fc A k p t)) (p + 1)) := by
            intro x hx
            refine ⟨⟨fun j a b c => by rw [va_n c]; exact fr.1 j a b c, fun q hq => by rw [va_n (by omega)]; exact fr.2 q hq⟩, fun h hh => ?_, ?_⟩
            · rw [va_s, pk_un (by omega), e86]; exact f2 h hh
            · rw [va_s, pk_us]; exact hx
          cases hl : L (fc A k p t)
          · rw [if_neg (by decide), q_lt, nI_1, q_lt, q_rd (show k < 8 by omega) (by omega)]
            exact ⟨_, rfl, fin _ (by rw [bs_sf (f := fun p => L (fc A k p t)) hl])⟩
          · rw [if_pos rfl, bs_st (f := fun p => L (fc A k p t)) hl, q_lt, nI_1, q_lt]
            exact ⟨_, rfl, fin _ rfl⟩)
        (by
          rintro V2 -
          unfold iX10_laysEyes_L19 fX10_laysEyes_L19
          simp only []
          rw [if_pos (show (24 : Int32) ≤ nI 24 from nI_le (Nat.le_refl _) (by omega))])
      have e2 : it_ iX10_laysEyes_L19 FV (va_up V' 86 (upd (V' 86) k 0), nI t, nI k, 0) = _ := e2
      rw [e2, q_R]
      simp only [dt3_]
      rw [nI_1, q_lt]
      refine ⟨V2, rfl, f1, fun h hh => ?_⟩
      by_cases e : h = k
      · rw [e]; exact f3
      · exact f2 h (by omega))
    (by
      rintro V' ⟨g1, g2⟩
      unfold iX10_laysEyes_L2 fX10_laysEyes_L2
      simp only []
      rw [m_houses (hw V' g1).1, q_R, if_pos (nI_le (Nat.le_refl _) (by omega))])
  have e : it_ iX10_laysEyes_L2 FV (V, nI t, 0) = _ := e
  rw [e, q_R]
  exact ⟨V', rfl, g1, g2⟩
theorem mq_eyes {V V' : VT} (h : (∀ j, j ≠ 22 → j ≠ 83 → j ≠ 86 → V' j = V j) ∧ ∀ k, k < 18 ∨ 24 < k → V' 22 k = V 22 k) : Mq V V' := ⟨fun j a b => h.1 j a (by omega) (by omega), h.2⟩
/-! ===== alone ===== -/
def onM (f : Nat → Nat) : Nat → Nat × Nat
  | 0 => (0, 0)
  | n + 1 => ((onM f n).1 ||| f n, (onM f n).2 ||| ((onM f n).1 &&& f n))
def alN (f : Nat → Nat) (n : Nat) : Nat := (onM f n).1 &&& ((onM f n).2 ^^^ 4294967295)
theorem c_alone (hC : CT V i A L) {t : Nat} (ht : t < 24) : ∃ V', fX5_aloneBits V i (nI t) = some (nI (alN (fun h => plc L A h t) (aS A 0)), V') ∧ Ly V V' := by
  have h8 := hC.2.1.1.1
  unfold fX5_aloneBits
  obtain ⟨V', e, hR⟩ := lp (f := iX5_aloneBits_L8 i) (fun k => onM (fun h => plc L A h t) k) (fun V' a k => (V', nI t, nI a.1, nI a.2, nI k)) (fun V' a => (nI (a.1 &&& (a.2 ^^^ 4294967295)), V')) (fun V' => Ly V V') (aS A 0) (by omega) Ly.rf
    (by
      intro k V' hk hR
      have hC' := hC.ly hR
      obtain ⟨V2, e2, hy2⟩ := c_place hC' hk ht
      unfold iX5_aloneBits_L8 fX5_aloneBits_L8
      simp only []
      rw [hC'.1.1.1, if_neg (nI_ge hk (by omega)), e2, q_I, fa_and, q_or, q_lt, q_or, q_lt, nI_1, q_lt]
      exact ⟨V2, rfl, hR.tr hy2⟩)
    (by
      intro V' hR
      unfold iX5_aloneBits_L8 fX5_aloneBits_L8
      simp only []
      rw [(hC.ly hR).1.1.1, if_pos (nI_le (Nat.le_refl _) (by omega)), an_not])
  have e : it_ (iX5_aloneBits_L8 i) FV (V, nI t, 0, 0, 0) = _ := e
  rw [e, q_R]
  exact ⟨V', rfl, hR⟩
theorem op_alone {cd : String → Int32} (hI : INV V) (h1 : cd IOOB = 1) (x1 x2 : Int32) : OpE (fun V => fX9_alone V x1 x2) (fun V => fX10_alone V x1 x2) cd V := by
  obtain ⟨g, hC, hM⟩ := hI
  have h8 := hC.2.1.1.1
  by_cases b1 : ix x1 24 = true
  · obtain ⟨t, ht, rfl⟩ := ix_t (by omega) b1
    have p10 : ∀ V1, MT (t0 V1) (xA g) (xL g) → ∃ V8, fX10_laysEyes (t0 V1) (nI t) = some V8 ∧ Mq (t0 V1) V8 ∧ (∀ h, h < aS (xA g) 0 → V8 86 h = nI (plc (xL g) (xA g) h t)) ∧ fX10_alone_j30 (t0 V1) (nI t) x2 = (if x2 = (-1 : Int32) then (some (nI (alN (fun h => plc (xL g) (xA g) h t) (aS (xA g) 0) &&& (onM (fun h => plc (xL g) (xA g) h t) (aS (xA g) 0)).1), V8)) else (rd_ x2 8 (some ((nI (alN (fun h => plc (xL g) (xA g) h t) (aS (xA g) 0)) &&& (V8 86 x2.toNatClampNeg)), V8)))) := by
      intro V1 hT
      obtain ⟨V8, e8, f8, g8⟩ := m_laysEyes hT ht
      have hT8 := hT.q (mq_eyes f8)
      refine ⟨V8, e8, mq_eyes f8, g8, ?_⟩
      unfold fX10_alone_j30 fX10_alone_j31
      rw [m_thr0, q_I, if_pos rfl, e8, q_R]
      have e := lq (f := iX10_alone_L53) (r := (V8, x2, nI (onM (fun h => plc (xL g) (xA g) h t) (aS (xA g) 0)).1, nI (onM (fun h => plc (xL g) (xA g) h t) (aS (xA g) 0)).2)) (fun k => onM (fun h => plc (xL g) (xA g) h t) k) (fun a k => (V8, x2, nI a.1, nI a.2, nI k)) (aS (xA g) 0) (by omega)
        (by
          intro k hk
          unfold iX10_alone_L53 fX10_alone_L53
          simp only []
          rw [m_houses hT8.1, q_R, if_neg (nI_ge hk (by omega)), q_rd (show k < 8 by omega) (by omega), nI_clamp (by omega), g8 k hk, fa_and, q_or, q_lt, q_rd (show k < 8 by omega) (by omega), q_or, q_lt, nI_1, q_lt]
          rfl)
        (by
          unfold iX10_alone_L53 fX10_alone_L53
          simp only []
          rw [m_houses hT8.1, q_R, if_pos (nI_le (Nat.le_refl _) (by omega))])
      have e : it_ iX10_alone_L53 FV (V8, x2, 0, 0, 0) = _ := e
      rw [e, q_R]
      simp only [dt4_]
      rw [an_not, fa_and]
      rfl
    by_cases b2 : x2 = -1
    · refine op_q hC hM (nI (alN (fun h => plc (xL g) (xA g) h t) (aS (xA g) 0))) ?_ (fun V1 hM1 => ?_)
      · obtain ⟨V2, e2, hy2⟩ := c_alone hC.t ht
        refine ⟨V2, ?_, hy2.c⟩
        show fX9_alone V _ _ = _
        unfold fX9_alone
        rw [n_hour, b1]
        simp only [if_true, q_N1]
        rw [if_pos b2, e2, q_I]
      · have hT := hM1.t0
        obtain ⟨V8, e8, hq8, g8, ej⟩ := p10 V1 hT
        refine m_ans ⟨V8, ?_, hq8⟩
        show fX10_alone V1 _ _ = _
        unfold fX10_alone
        rw [q_lt, t0_e, m_noHour, b1, q_R, if_pos (show bI (!true) = 0 from rfl), if_pos b2, ej, if_pos b2]
        have : alN (fun h => plc (xL g) (xA g) h t) (aS (xA g) 0) &&& (onM (fun h => plc (xL g) (xA g) h t) (aS (xA g) 0)).1 = alN (fun h => plc (xL g) (xA g) h t) (aS (xA g) 0) := by
          unfold alN
          rw [Nat.and_comm, ← Nat.and_assoc, Nat.and_self]
        rw [this]
    · by_cases b3 : ix x2 (aS (xA g) 0) = true
      · obtain ⟨h, hh, rfl⟩ := ix_t (by omega) b3
        refine op_q hC hM (nI (alN (fun h => plc (xL g) (xA g) h t) (aS (xA g) 0) &&& plc (xL g) (xA g) h t)) ?_ (fun V1 hM1 => ?_)
        · obtain ⟨V2, e2, hy2⟩ := c_alone hC.t ht
          obtain ⟨V3, e3, hy3⟩ := c_place (hC.t.ly hy2) hh ht
          refine ⟨V3, ?_, hy2.c.tr hy3.c⟩
          show fX9_alone V _ _ = _
          unfold fX9_alone
          rw [n_hour, b1, n_house hC.1, b3]
          simp only [if_true, q_N1]
          rw [if_neg b2, e2, q_I, e3, q_I, fa_and]
        · have hT := hM1.t0
          obtain ⟨V8, e8, hq8, g8, ej⟩ := p10 V1 hT
          refine m_ans ⟨V8, ?_, hq8⟩
          show fX10_alone V1 _ _ = _
          unfold fX10_alone
          rw [q_lt, t0_e, m_noHour, b1, q_R, if_pos (show bI (!true) = 0 from rfl), if_neg b2, m_noHouse hT.1 hT.2.1, b3, q_R, if_pos (show bI (!true) = 0 from rfl), ej, if_neg b2, q_rd (show h < 8 by omega) (by omega), nI_clamp (by omega), g8 h hh, fa_and]
      · refine op_x hC hM IOOB ?_ (m_thr ⟨0, ?_⟩)
        · show fX9_alone V _ _ = _
          unfold fX9_alone
          rw [n_hour, b1, n_house hC.1, nf b3]
          simp only [if_true, q_N1]
          rw [if_neg b2]; rfl
        · have hT := hM.t0
          show fX10_alone V _ _ = _
          unfold fX10_alone
          rw [q_lt, t0_e, m_noHour, b1, q_R, if_pos (show bI (!true) = 0 from rfl), if_neg b2, m_noHouse hT.1 hT.2.1, nf b3, q_R, if_neg (show ¬ bI (!false) = 0 by decide)]
          unfold fX10_alone_j26 fX10_alone_j31
          rw [m_thr1, q_I, if_neg q_10, h1]
  · refine op_x hC hM IOOB ?_ (m_thr ⟨0, ?_⟩)
    · show fX9_alone V _ _ = _
      unfold fX9_alone
      rw [n_hour, nf b1]; rfl
    · have hT := hM.t0
      show fX10_alone V _ _ = _
      unfold fX10_alone
      rw [q_lt, t0_e, m_noHour, nf b1, q_R, if_neg (show ¬ bI (!false) = 0 by decide)]
      unfold fX10_alone_j26 fX10_alone_j31
      rw [m_thr1, q_I, if_neg q_10, h1]
/-! ===== eyes ===== -/
theorem c_viewOf {f : Nat → Nat} {n s : Nat} (hn : n ≤ 8) (hs : s < 2 ^ n) (hv : ∀ h, h < n → V 75 h = nI (f h)) : fX5_viewOf V (nI s) = some (nI (vwS f s n)) := by
  have hs8 : s < 256 := Nat.lt_of_lt_of_le hs (Nat.pow_le_pow_right (n := 2) (by omega) hn)
  unfold fX5_viewOf
  have e := lq (f := iX5_viewOf_L4 V) (r := nI (vwS f s n)) (fun k => vwS f s k) (fun a k => (nI s, nI a, nI k)) 8 (by omega)
    (by
      intro k hk
      unfold iX5_viewOf_L4 fX5_viewOf_L4
      simp only []
      rw [if_neg (nI_ge hk (by omega))]
      have es : vwS f s (k + 1) = vwS f s k ||| (if s.testBit k then f k else 0) := rfl
      by_cases c : s.testBit k = true
      · have hkn : k < n := by
          rcases Nat.lt_or_ge k n with h | h
          · exact h
          · have := Nat.testBit_lt_two_pow (Nat.lt_of_lt_of_le hs (Nat.pow_le_pow_right (n := 2) (by omega) h))
            rw [c] at this; cases this
        rw [if_pos ((q_bit (by omega) (by omega)).2 c), q_rd hk (by omega), nI_clamp (by omega), hv k hkn, q_or, q_lt, nI_1, q_lt, es, if_pos c]
      · rw [if_neg (fun e => c ((q_bit (by omega) (by omega)).1 e)), nI_1, q_lt, es, if_neg c, Nat.or_zero])
    (by
      unfold iX5_viewOf_L4 fX5_viewOf_L4
      simp only []
      rw [if_pos (nI_le (Nat.le_refl _) (by omega)), vwS_hi hs 8 hn])
  have e : it_ (iX5_viewOf_L4 V) FV (nI s, 0, 0) = _ := e
  rw [e, q_R]
theorem m_eyesOf (hC : MT V A L) {f : Nat → Nat} {s : Nat} (hs : s < 256) (hv : ∀ h, h < aS A 0 → V 86 h = nI (f h)) : fX10_eyesOf V (nI s) = some (nI (vwS f s (aS A 0))) := by
  have h8 := hC.2.1.1.1
  unfold fX10_eyesOf
  have e := lq (f := iX10_eyesOf_L4 V) (r := nI (vwS f s (aS A 0))) (fun k => vwS f s k) (fun a k => (nI s, nI a, nI k)) (aS A 0) (by omega)
    (by
      intro k hk
      unfold iX10_eyesOf_L4 fX10_eyesOf_L4
      simp only []
      rw [m_houses hC.1, q_R, if_neg (nI_ge hk (by omega)), m_has (by omega) (by omega), q_R, q_ifb]
      have es : vwS f s (k + 1) = vwS f s k ||| (if s.testBit k then f k else 0) := rfl
      by_cases c : s.testBit k = true
      · rw [if_pos c, q_rd (show k < 8 by omega) (by omega), nI_clamp (by omega), hv k hk, q_or, q_lt, nI_1, q_lt, es, if_pos c]
      · rw [if_neg c, or0, q_lt, nI_1, q_lt, es, if_neg c, Nat.or_zero])
    (by
      unfold iX10_eyesOf_L4 fX10_eyesOf_L4
      simp only []
      rw [m_houses hC.1, q_R, if_pos (nI_le (Nat.le_refl _) (by omega))])
  have e : it_ (iX10_eyesOf_L4 V) FV (nI s, 0, 0) = _ := e
  rw [e, q_R]
/-- the best set: sees all, of the fewest, the least -/
def bstS (P : Nat → Prop) (n b : Nat) : Prop := P b ∧ b < 2 ^ n ∧ ∀ s, s < 2 ^ n → P s → pc8 b < pc8 s ∨ (pc8 b = pc8 s ∧ b ≤ s)
theorem bstS_one {P : Nat → Prop} {n a b : Nat} (ha : bstS P n a) (hb : bstS P n b) : a = b := by
  have h1 := ha.2.2 b hb.2.1 hb.1
  have h2 := hb.2.2 a ha.2.1 ha.1
  omega
theorem pc8_full {n k : Nat} (hn : n ≤ 8) (hk : k < 2 ^ n) (h : pc8 (2 ^ n - 1) ≤ pc8 k) : k = 2 ^ n - 1 := by
  have e : ∀ x, x < 2 ^ n → pc8 x = fb_ct x.testBit n := by
    intro x hx
    unfold pc8
    rw [show 8 = n + (8 - n) by omega, fb_ct_hi hx]
  have hp := Nat.two_pow_pos n
  have f1 : pc8 (2 ^ n - 1) = n := by
    rw [e _ (by omega)]
    exact fb_ct_all.2 (fun j hj => by rw [Nat.testBit_two_pow_sub_one]; exact decide_eq_true hj)
  rw [f1, e k hk] at h
  have h2 := fb_ct_le k.testBit n
  have h3 := fb_ct_all.1 (show fb_ct k.testBit n = n by omega)
  rw [← bs_of hk]
  exact (bs_all _ _).2 h3
theorem c_eyes (hC : CT V i A L) {f : Nat → Nat} {al : Nat} (hf : ∀ k, f k < 2 ^ 24) (hal : al < 2 ^ 24) (hfull : vwS f (2 ^ aS A 0 - 1) (aS A 0) = al) (hv : ∀ h, h < aS A 0 → V 75 h = nI (f h)) : ∃ b, it_ (iX5_fewestEyes_L18 i) FV (V, nI al, nI (2 ^ aS A 0 - 1), 0) = some (nI b, V) ∧ bstS (fun s => vwS f s (aS A 0) = al) (aS A 0) b := by
  have h8 := hC.2.1.1.1
  have hp := Nat.two_pow_pos (aS A 0)
  have hpw : 2 ^ aS A 0 ≤ 256 := Nat.pow_le_pow_right (n := 2) (by omega) h8
  obtain ⟨r, e, b, rfl, hb⟩ := it_for (F := FV) (f := iX5_fewestEyes_L18 i) (2 ^ aS A 0) (fun k s => ∃ b, s = (V, nI al, nI b, nI k) ∧ vwS f b (aS A 0) = al ∧ b < 2 ^ aS A 0 ∧ (b < k ∨ b = 2 ^ aS A 0 - 1) ∧ ∀ s, s < k → vwS f s (aS A 0) = al → pc8 b < pc8 s ∨ (pc8 b = pc8 s ∧ b ≤ s)) (fun r => ∃ b, r = (nI b, V) ∧ bstS (fun s => vwS f s (aS A 0) = al) (aS A 0) b)
    (by
      rintro k s hk ⟨b, rfl, b1, b2, b3, b4⟩
      have ea := c_allHouses hC.1 hC.2.1
      have q1 := pc8_le k
      have q2 := pc8_le b
      unfold iX5_fewestEyes_L18 fX5_fewestEyes_L18
      simp only []
      rw [ea, q_R, if_neg (nI_nlt (by omega) (by omega)), bc_e, q_R, bc_e, q_R, bc_8 (by omega), bc_8 (by omega), c_viewOf h8 hk hv, q_R]
      have keep : (vwS f k (aS A 0) = al → pc8 b ≤ pc8 k) → ∃ t, (lt_ (nI k + 1) fun y => some (.inl (V, nI al, nI b, y))) = some (.inl t : (VT × Int32 × Int32 × Int32) ⊕ (Int32 × VT)) ∧ ∃ b, t = (V, nI al, nI b, nI (k + 1)) ∧ vwS f b (aS A 0) = al ∧ b < 2 ^ aS A 0 ∧ (b < k + 1 ∨ b = 2 ^ aS A 0 - 1) ∧ ∀ s, s < k + 1 → vwS f s (aS A 0) = al → pc8 b < pc8 s ∨ (pc8 b = pc8 s ∧ b ≤ s) := by
        intro hc
        rw [nI_1, q_lt]
        refine ⟨_, rfl, b, rfl, b1, b2, by omega, fun s hs hP => ?_⟩
        by_cases e : s = k
        · subst e
          have h1 := hc hP
          rcases b3 with h | h
          · omega
          · by_cases e2 : pc8 b = pc8 s
            · have := pc8_full h8 hk (by rw [← h]; omega)
              right
              omega
            · left; omega
        · exact b4 s (by omega) hP
      by_cases c1 : pc8 b ≤ pc8 k
      · rw [if_pos (nI_le c1 (by omega))]
        exact keep (fun _ => c1)
      · rw [if_neg (nI_ge (by omega) (by omega))]
        have hvl := vwS_lt (s := k) hf (aS A 0)
        by_cases c2 : vwS f k (aS A 0) = al
        · rw [if_pos (by rw [c2]), nI_1, q_lt]
          refine ⟨_, rfl, k, rfl, c2, hk, by omega, fun s hs hP => ?_⟩
          by_cases e : s = k
          · subst e; right; omega
          · have := b4 s (by omega) hP
            omega
        · rw [if_neg (fun e => c2 ((nI_eq (by omega) (by omega)).1 e))]
          exact keep (fun h => absurd h c2))
    (by
      rintro s ⟨b, rfl, b1, b2, b3, b4⟩
      have ea := c_allHouses hC.1 hC.2.1
      unfold iX5_fewestEyes_L18 fX5_fewestEyes_L18
      simp only []
      rw [ea, q_R, if_pos (nI_lt (by omega) (by omega))]
      exact ⟨_, rfl, b, rfl, b1, b2, b4⟩) (by have := FV_ge; omega) (s := (V, nI al, nI (2 ^ aS A 0 - 1), 0)) ⟨2 ^ aS A 0 - 1, rfl, hfull, by omega, Or.inr rfl, fun s hs => absurd hs (Nat.not_lt_zero _)⟩
  exact ⟨b, e, hb⟩
theorem m_eyes (hC : MT V A L) {f : Nat → Nat} {al : Nat} (hf : ∀ k, f k < 2 ^ 24) (hal : al < 2 ^ 24) (hfull : vwS f (2 ^ aS A 0 - 1) (aS A 0) = al) (hv : ∀ h, h < aS A 0 → V 86 h = nI (f h)) : ∃ b, it_ iX10_eyes_L41 FV (V, nI al, nI (2 ^ aS A 0 - 1), nI (2 ^ aS A 0 - 1)) = some (nI b, V) ∧ bstS (fun s => vwS f s (aS A 0) = al) (aS A 0) b := by
  have h8 := hC.2.1.1.1
  have hp := Nat.two_pow_pos (aS A 0)
  have hpw : 2 ^ aS A 0 ≤ 256 := Nat.pow_le_pow_right (n := 2) (by omega) h8
  obtain ⟨r, e, b, rfl, hb⟩ := it_for (F := FV) (f := iX10_eyes_L41) (2 ^ aS A 0) (fun k s => ∃ b, s = (V, nI al, nI b, nI (2 ^ aS A 0 - k) - 1) ∧ vwS f b (aS A 0) = al ∧ b < 2 ^ aS A 0 ∧ ∀ s, 2 ^ aS A 0 - k ≤ s → s < 2 ^ aS A 0 → vwS f s (aS A 0) = al → pc8 b < pc8 s ∨ (pc8 b = pc8 s ∧ b ≤ s)) (fun r => ∃ b, r = (nI b, V) ∧ bstS (fun s => vwS f s (aS A 0) = al) (aS A 0) b)
    (by
      rintro k s hk ⟨b, rfl, b1, b2, b4⟩
      obtain ⟨m, hm⟩ : ∃ m, m = 2 ^ aS A 0 - k - 1 := ⟨_, rfl⟩
      have em : nI m + (-1) = nI (2 ^ aS A 0 - (k + 1)) - 1 := by
        rw [show 2 ^ aS A 0 - (k + 1) = m by omega]
        exact (Int32.sub_eq_add_neg _ _).symm
      have q1 := pc8_le m
      have q2 := pc8_le b
      unfold iX10_eyes_L41 fX10_eyes_L41
      simp only []
      rw [show nI (2 ^ aS A 0 - k) - 1 = nI m by rw [show nI (2 ^ aS A 0 - k) - 1 = nI (2 ^ aS A 0 - k - 1) from pk_sub (b := 1) (by omega), ← hm], if_neg (nI_pos (by omega)), bc_e, q_R, bc_e, q_R, bc_8 (by omega), bc_8 (by omega), m_eyesOf hC (by omega) hv, q_R, em]
      by_cases c1 : pc8 b < pc8 m
      · rw [if_pos (nI_lt c1 (by omega)), q_lt]
        refine ⟨_, rfl, b, rfl, b1, b2, fun s h1 h2 hP => ?_⟩
        by_cases e : s = m
        · rw [e]; exact Or.inl c1
        · exact b4 s (by omega) h2 hP
      · rw [if_neg (nI_nlt (by omega) (by omega))]
        have hvl := vwS_lt (s := m) hf (aS A 0)
        by_cases c2 : vwS f m (aS A 0) = al
        · rw [if_pos (by rw [c2]), q_lt]
          refine ⟨_, rfl, m, rfl, c2, by omega, fun s h1 h2 hP => ?_⟩
          by_cases e : s = m
          · rw [e]; right; omega
          · have := b4 s (by omega) h2 hP
            omega
        · rw [if_neg (fun e => c2 ((nI_eq (by omega) (by omega)).1 e)), q_lt]
          refine ⟨_, rfl, b, rfl, b1, b2, fun s h1 h2 hP => ?_⟩
          by_cases e : s = m
          · rw [e] at hP; exact absurd hP c2
          · exact b4 s (by omega) h2 hP)
    (by
      rintro s ⟨b, rfl, b1, b2, b4⟩
      unfold iX10_eyes_L41 fX10_eyes_L41
      simp only []
      rw [Nat.sub_self, if_pos (show nI 0 - 1 < 0 by decide)]
      exact ⟨_, rfl, b, rfl, b1, b2, fun s hs hP => b4 s (by omega) hs hP⟩) (by have := FV_ge; omega) (s := (V, nI al, nI (2 ^ aS A 0 - 1), nI (2 ^ aS A 0 - 0) - 1)) ⟨2 ^ aS A 0 - 1, rfl, hfull, by omega, fun s h1 h2 => by omega⟩
  rw [Nat.sub_zero, show nI (2 ^ aS A 0) - 1 = nI (2 ^ aS A 0 - 1) from pk_sub (b := 1) hp] at e
  exact ⟨b, e, hb⟩
theorem op_eyes {cd : String → Int32} (hI : INV V) (h1 : cd IOOB = 1) (x1 : Int32) : OpE (fun V => fX9_eyes V x1) (fun V => fX10_eyes V x1) cd V := by
  obtain ⟨g, hC, hM⟩ := hI
  have h8 := hC.2.1.1.1
  have hpw : 2 ^ aS (xA g) 0 ≤ 256 := Nat.pow_le_pow_right (n := 2) (by omega) h8
  by_cases b1 : ix x1 24 = true
  · obtain ⟨t, ht, rfl⟩ := ix_t (by omega) b1
    have hal := orN_lt (f := fun h => plc (xL g) (xA g) h t) plc24 (aS (xA g) 0)
    have hfull : vwS (fun h => plc (xL g) (xA g) h t) (2 ^ aS (xA g) 0 - 1) (aS (xA g) 0) = orN (fun h => plc (xL g) (xA g) h t) (aS (xA g) 0) := vwS_full _ (Nat.le_refl _)
    obtain ⟨V3, e3, hq3, hv3⟩ := c_lookOut hC.t ht
    have hC3 := hC.t.q hq3
    obtain ⟨b, eb, hb⟩ := c_eyes hC3 plc24 hal hfull hv3
    refine op_q hC hM (nI b) ⟨V3, ?_, hq3.c⟩ (fun V1 hM1 => ?_)
    · show fX9_eyes V _ = _
      unfold fX9_eyes fX5_fewestEyes
      rw [n_hour, b1]
      simp only [if_true, q_N1]
      rw [e3, q_I, c_allHouses hC3.1 hC3.2.1, q_R, eb, q_R, q_I]
    · have hT := hM1.t0
      obtain ⟨V8, e8, f8, g8⟩ := m_laysEyes hT ht
      have hT8 := hT.q (mq_eyes f8)
      obtain ⟨b', eb', hb'⟩ := m_eyes hT8 plc24 hal hfull g8
      rw [bstS_one hb' hb] at eb'
      refine m_ans ⟨V8, ?_, mq_eyes f8⟩
      show fX10_eyes V1 _ = _
      unfold fX10_eyes
      rw [q_lt, t0_e, m_noHour, b1, q_R, show bI (!true) = 0 from rfl, m_thr0, q_I, if_pos rfl, e8, q_R, m_allHouses hT8.1 hT8.2.1, q_R, m_eyesOf hT8 (by omega) g8, q_R, hfull, q_R, eb', q_R]
  · refine op_x hC hM IOOB ?_ (m_thr ⟨0, ?_⟩)
    · show fX9_eyes V _ = _
      unfold fX9_eyes
      rw [n_hour, nf b1]; rfl
    · have hT := hM.t0
      show fX10_eyes V _ = _
      unfold fX10_eyes
      rw [q_lt, t0_e, m_noHour, nf b1, q_R, show bI (!false) = 1 from rfl, m_thr1, q_I, if_neg q_10, h1]
end OP
