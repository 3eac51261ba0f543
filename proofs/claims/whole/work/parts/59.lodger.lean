/-! ===== lodger ===== -/
def lodA (A : AT) (h : Nat) : AT := (up1 A.1 0 (aS A 0 + 1), (fun h' q => if h' = aS A 0 then aH A h q else aH A h' q), A.2.2)
theorem lod_S {A : AT} {h q : Nat} (hq : q ≠ 0) : aS (lodA A h) q = aS A q := by
  show up1 A.1 0 (aS A 0 + 1) q = A.1 q
  unfold up1
  rw [if_neg hq]
theorem lod_0 {A : AT} {h : Nat} : aS (lodA A h) 0 = aS A 0 + 1 := by
  show up1 A.1 0 (aS A 0 + 1) 0 = _
  unfold up1
  rw [if_pos rfl]
theorem lod_H {A : AT} {h h' q : Nat} : aH (lodA A h) h' q = if h' = aS A 0 then aH A h q else aH A h' q := rfl
theorem lod_D {A : AT} {h : Nat} : aD (lodA A h) = aD A := rfl
theorem lod_L {A : AT} {h : Nat} : aL (lodA A h) = aL A := rfl
theorem lod_so {A : AT} {h : Nat} : so (lodA A h) = so A := rfl
theorem lod_aw {A : AT} {h : Nat} : bs (aw (lodA A h)) (aS A 0 + 1) = bs (aw A) (aS A 0) ||| (if aw A h then 2 ^ aS A 0 else 0) := by
  rw [bs_s]
  have e1 : bs (aw (lodA A h)) (aS A 0) = bs (aw A) (aS A 0) := bs_cong (fun k hk => by
    unfold aw
    rw [lod_H, if_neg (by omega)])
  have e2 : aw (lodA A h) (aS A 0) = aw A h := by
    unfold aw
    rw [lod_H, if_pos rfl]
  rw [e1, e2]
theorem WA.lod {A : AT} (hW : WA A) {h : Nat} (hh : h < aS A 0) (h8 : aS A 0 < 8) : WA (lodA A h) := by
  obtain ⟨⟨a0, a1, a2, a3, a4, a5, a6, a7, a8⟩, b, c, d⟩ := hW
  refine ⟨⟨?_, ?_, ?_, ?_, ?_, ?_, ?_, ?_, ?_⟩, ?_, ?_, ?_⟩
  · rw [lod_0]; omega
  · rw [lod_S (by omega)]; exact a1
  · rw [lod_S (by omega)]; exact a2
  · rw [lod_S (by omega)]; exact a3
  · rw [lod_S (by omega)]; exact a4
  · rw [lod_S (by omega)]; exact a5
  · rw [lod_S (by omega)]; exact a6
  · rw [lod_S (by omega), lod_S (by omega), lod_D]; exact a7
  · rw [lod_S (by omega), lod_S (by omega)]; exact a8
  · intro h' hh'
    rw [lod_0] at hh'
    simp only [lod_H]
    by_cases e : h' = aS A 0
    · simp only [if_pos e]; exact b h hh
    · simp only [if_neg e]; exact b h' (by omega)
  · rw [lod_S (by omega), lod_D]; exact c
  · rw [lod_S (by omega), lod_L]; exact d
section OP
variable {V : VT} {i : Nat} {A : AT} {L : Fa → Bool}
theorem c_ofRaw {h k : Nat} (hh : h < 8) (hk : k < 7) : fX6_ofHouse V i (nI h) (nI k) = some (V (18 + 3 * i + 0) (7 * h + k)) := by
  unfold fX6_ofHouse
  rw [q_mul, nI_add, q_lt, if_neg (nI_pos (by omega)), if_neg (nI_ge (by omega) (by omega)), q_rd (by omega) (by omega), nI_clamp (by omega), show h * 7 + k = 7 * h + k by omega]
theorem c_setRaw {h k : Nat} {v : Int32} (hh : h < 8) (hk : k < 7) : fX6_setHouse V i (nI h) (nI k) v = some (va_up V (18 + 3 * i + 0) (upd (V (18 + 3 * i + 0)) (7 * h + k) v)) := by
  unfold fX6_setHouse
  rw [q_mul, nI_add, q_lt, if_neg (nI_pos (by omega)), if_neg (nI_ge (by omega) (by omega)), q_rd (by omega) (by omega), nI_clamp (by omega), show h * 7 + k = 7 * h + k by omega, q_lt]
theorem c_lodger (hR : RS V i A) (hW : WA A) (hi : i < 17) {h : Nat} (hh : h < aS A 0) (h8 : aS A 0 < 8) : ∃ V', fX6_addLodger V i (nI h) = some (nI (aS A 0), V') ∧ RS V' i (lodA A h) ∧ Cd i V V' := by
  unfold fX6_addLodger
  rw [hR.1.1, q_lt]
  obtain ⟨V12, e12, f1, f2⟩ := lk (V := V) (f := iX6_addLodger_L7 i) (fun _ => ()) (fun V' _ k => (V', nI h, nI (aS A 0), nI k)) (fun V' _ => (V', nI h, nI (aS A 0))) (fun k V' => (∀ q, q ≠ 18 + 3 * i + 0 → V' q = V q) ∧ ∀ q, V' (18 + 3 * i + 0) q = if 7 * aS A 0 ≤ q ∧ q < 7 * aS A 0 + k then V (18 + 3 * i + 0) (q - 7 * aS A 0 + 7 * h) else V (18 + 3 * i + 0) q) 7 (by omega) ⟨fun _ _ => rfl, fun q => by rw [if_neg (by omega)]⟩
    (by
      rintro k V' hk ⟨f1, f2⟩
      unfold iX6_addLodger_L7 fX6_addLodger_L7
      simp only []
      rw [if_neg (show ¬ (7 : Int32) ≤ nI k from nI_ge (b := 7) hk (by omega)), c_ofRaw (by omega) hk, q_R, c_setRaw (by omega) hk, q_R, q_lt, nI_1]
      refine ⟨_, rfl, fun q hq => by rw [va_n hq]; exact f1 q hq, fun q => ?_⟩
      rw [va_s]
      by_cases e : q = 7 * aS A 0 + k
      · rw [e, pk_us, if_pos (by omega), f2, if_neg (by omega)]
        exact congrArg _ (by omega)
      · rw [pk_un e, f2]
        by_cases c : 7 * aS A 0 ≤ q ∧ q < 7 * aS A 0 + k
        · rw [if_pos c, if_pos (by omega)]
        · rw [if_neg c, if_neg (by omega)])
    (by
      rintro V' -
      unfold iX6_addLodger_L7 fX6_addLodger_L7
      simp only []
      rw [if_pos (show (7 : Int32) ≤ nI 7 from nI_le (Nat.le_refl _) (by omega))])
  have e12 : it_ (iX6_addLodger_L7 i) FV (V, nI h, nI (aS A 0), 0) = _ := e12
  rw [e12, q_R]
  simp only [dt3_]
  have ei := f1 i (by omega)
  have hR12 : RS V12 i A := by
    refine ⟨by rw [ei]; exact hR.1, fun h' k' hh' hk' => ?_, ?_, ?_, ?_⟩
    · rw [f2, if_neg (by omega)]; exact hR.2.1 h' k' hh' hk'
    · rw [f1 _ (by omega)]; exact hR.2.2.1
    · rw [f1 _ (by omega)]; exact hR.2.2.2.1
    · rw [f1 _ (by omega)]; exact hR.2.2.2.2
  rw [c_isAway hR12 hW hh, q_R, q_ifb, hR12.1.2.2.2.1, q_shl (by omega), q_or]
  have fin : ∀ f : Nat → Int32, f 3 = nI (aS A 0 + 1) → f 6 = nI (bs (aw A) (aS A 0) ||| (if aw A h then 2 ^ aS A 0 else 0)) → (∀ k, k ≠ 3 → k ≠ 6 → f k = V12 i k) → RS (va_up V12 i f) i (lodA A h) ∧ Cd i V (va_up V12 i f) := by
    intro f a1 a2 a3
    refine ⟨⟨⟨?_, ?_, ?_, ?_, ?_, ?_, ?_, ?_, ?_, ?_⟩, ?_, ?_, ?_, ?_⟩, (Cd.of hi (Or.inr (Or.inl rfl)) f1).tr (Cd.u hi (Or.inl rfl))⟩
    · rw [va_s, lod_0]; exact a1
    · rw [va_s, lod_S (by omega), a3 4 (by omega) (by omega)]; exact hR12.1.2.1
    · rw [va_s, lod_S (by omega), a3 5 (by omega) (by omega)]; exact hR12.1.2.2.1
    · rw [va_s, lod_0, lod_aw]; exact a2
    · rw [va_s, lod_S (by omega), lod_so, a3 7 (by omega) (by omega)]; exact hR12.1.2.2.2.2.1
    · rw [va_s, lod_S (by omega), a3 8 (by omega) (by omega)]; exact hR12.1.2.2.2.2.2.1
    · rw [va_s, lod_S (by omega), a3 9 (by omega) (by omega)]; exact hR12.1.2.2.2.2.2.2.1
    · rw [va_s, lod_S (by omega), a3 10 (by omega) (by omega)]; exact hR12.1.2.2.2.2.2.2.2.1
    · rw [va_s, a3 11 (by omega) (by omega)]; exact hR12.1.2.2.2.2.2.2.2.2.1
    · rw [va_s, lod_S (by omega), a3 12 (by omega) (by omega)]; exact hR12.1.2.2.2.2.2.2.2.2.2
    · intro h' k' hh' hk'
      rw [lod_0] at hh'
      rw [va_n (by omega), lod_H]
      by_cases e : h' = aS A 0
      · rw [if_pos e, f2, if_pos (by omega), show 7 * h' + k' - 7 * aS A 0 + 7 * h = 7 * h + k' by omega]
        exact hR.2.1 h k' hh hk'
      · rw [if_neg e]; exact hR12.2.1 h' k' (by omega) hk'
    · intro d k' hd
      rw [lod_S (by omega)] at hd
      rw [va_n (by omega)]; exact hR12.2.2.1 d k' hd
    · intro d hd
      rw [lod_S (by omega)] at hd
      rw [va_n (by omega)]; exact hR12.2.2.2.1 d hd
    · intro j hj
      rw [lod_S (by omega)] at hj
      rw [va_n (by omega), lod_S (by omega)]; exact hR12.2.2.2.2 j hj
  cases ha : aw A h
  · rw [if_neg (by decide), hR12.1.1, nI_1, q_lt]
    obtain ⟨r1, r2⟩ := fin (upd (V12 i) 3 (nI (aS A 0 + 1))) (by rw [pk_us]) (by rw [pk_un (by omega), ha, if_neg (by decide), Nat.or_zero]; exact hR12.1.2.2.2.1) (fun k a b => pk_un a)
    exact ⟨_, rfl, r1, r2⟩
  · rw [if_pos rfl, q_lt, va_s, pk_un (by omega), hR12.1.1, nI_1, va_uu, q_lt]
    obtain ⟨r1, r2⟩ := fin (upd (upd (V12 i) 6 (nI (bs (aw A) (aS A 0) ||| 2 ^ aS A 0))) 3 (nI (aS A 0 + 1))) (by rw [pk_us]) (by rw [pk_un (by omega), pk_us, ha, if_pos rfl]) (fun k a b => by rw [pk_un a, pk_un b])
    exact ⟨_, rfl, r1, r2⟩
theorem m_lodger (hT : MT V A L) {h : Nat} (hh : h < aS A 0) (h8 : aS A 0 < 8) : ∃ V', it_ iX10_lodger_L53 FV (V, nI h, nI (aS A 0), 0) = some (nI (aS A 0), V') ∧ RM (V' 76) (lodA A h) ∧ Md V V' := by
  obtain ⟨hM, hW, -⟩ := hT
  have h1 := hW.1.2.1
  have h60 := WA_l hW
  obtain ⟨r, e, V', rfl, h2, h3⟩ := it_for (F := FV) (f := iX10_lodger_L53) 8 (fun k s => ∃ V', s = (V', nI h, nI (aS A 0), nI k) ∧ (∀ q, q ≠ 76 → V' q = V q) ∧ ∀ q, V' 76 q = if 10 + 8 * aS A 0 ≤ q ∧ q < 10 + 8 * aS A 0 + k then V 76 (q - 8 * aS A 0 + 8 * h) else V 76 q) (fun r => ∃ V', r = (nI (aS A 0), V') ∧ RM (V' 76) (lodA A h) ∧ Md V V')
    (by
      rintro k s hk ⟨V', rfl, f1, f2⟩
      have er : fX10_of V' (nI h) (nI k) = some (V' 76 (10 + 8 * h + k)) := by
        unfold fX10_of
        rw [m_at, q_R, q_rd (by omega) (by omega), nI_clamp (by omega)]
      unfold iX10_lodger_L53 fX10_lodger_L53
      simp only []
      rw [if_neg (show ¬ (8 : Int32) ≤ nI k from nI_ge (b := 8) hk (by omega)), m_at, q_R, er, q_R, q_rd (by omega) (by omega), nI_clamp (by omega), q_lt, nI_1, q_lt]
      refine ⟨_, rfl, _, rfl, fun q hq => by rw [va_n hq]; exact f1 q hq, fun q => ?_⟩
      rw [va_s]
      by_cases e : q = 10 + 8 * aS A 0 + k
      · rw [e, pk_us, if_pos (by omega), f2, if_neg (by omega)]
        exact congrArg _ (by omega)
      · rw [pk_un e, f2]
        by_cases c : 10 + 8 * aS A 0 ≤ q ∧ q < 10 + 8 * aS A 0 + k
        · rw [if_pos c, if_pos (by omega)]
        · rw [if_neg c, if_neg (by omega)])
    (by
      rintro s ⟨V', rfl, f1, f2⟩
      have e0 : V' 76 0 = nI (aS A 0) := by rw [f2, if_neg (by omega)]; exact hM.1 0 (by omega)
      unfold iX10_lodger_L53 fX10_lodger_L53
      simp only []
      rw [if_pos (show (8 : Int32) ≤ nI 8 from nI_le (Nat.le_refl _) (by omega)), q_rdl (by omega) (by omega), q_rdl (by omega) (by omega), q_cl (by omega), show V' 76 (OfNat.ofNat 0) = _ from e0, nI_1, q_lt]
      have g1 : ∀ q, q ≠ 0 → upd (V' 76) 0 (nI (aS A 0 + 1)) q = V' 76 q := fun q hq => pk_un hq
      have g0 : upd (V' 76) 0 (nI (aS A 0 + 1)) 0 = nI (aS A 0 + 1) := pk_us
      have hu : (fun q => V' 76 q) = V' 76 := rfl
      refine ⟨_, rfl, va_up V' 76 (upd (V' 76) 0 (nI (aS A 0 + 1))), rfl, ?_, ?_⟩
      · rw [va_s]
        refine ⟨fun q hq => ?_, ?_, fun h' k' hh' hk' => ?_, fun d k' hd hk' c => ?_, fun d hd => ?_, fun j k' hj hk' => ?_⟩
        · by_cases q0 : q = 0
          · rw [q0, g0, lod_0]
          · rw [g1 q q0, lod_S q0, f2, if_neg (by omega)]; exact hM.1 q hq
        · rw [g1 9 (by omega), f2, if_neg (by omega)]; exact hM.2.1
        · rw [lod_0] at hh'
          rw [g1 _ (by omega), f2, lod_H]
          by_cases e : h' = aS A 0
          · rw [if_pos (by omega), if_pos e, show 10 + 8 * h' + k' - 8 * aS A 0 + 8 * h = 10 + 8 * h + k' by omega]
            exact hM.2.2.1 h k' hh hk'
          · rw [if_neg (by omega), if_neg e]; exact hM.2.2.1 h' k' (by omega) hk'
        · rw [lod_S (by omega)] at hd
          rw [g1 _ (by omega), f2, if_neg (by omega), lod_D]; exact hM.2.2.2.1 d k' hd hk' c
        · rw [lod_S (by omega)] at hd
          rw [g1 _ (by omega), f2, if_neg (by omega), lod_D]; exact hM.2.2.2.2.1 d hd
        · rw [lod_S (by omega)] at hj
          rw [g1 _ (by omega), f2, if_neg (by omega), lod_L]; exact hM.2.2.2.2.2 j k' hj hk'
      · refine ⟨fun j _ b _ => by rw [va_n b]; exact f1 j b, fun k hk => ?_, fun k _ => by rw [va_n (by omega), f1 22 (by omega)]⟩
        rw [va_s, g1 k (by omega), f2, if_neg (by omega)]) (by have := FV_ge; omega) (s := (V, nI h, nI (aS A 0), 0)) ⟨V, rfl, fun _ _ => rfl, fun q => by rw [if_neg (by omega)]⟩
  exact ⟨V', e, h2, h3⟩
theorem op_lodger {cd : String → Int32} (hI : INV V) (h1 : cd IOOB = 1) (h2 : cd UOE = 2) (x1 : Int32) : OpE (fun V => fX9_lodger V x1) (fun V => fX10_lodger V x1) cd V := by
  obtain ⟨g, hC, hM⟩ := hI
  have h8 := hC.2.1.1.1
  by_cases b1 : ix x1 (aS (xA g) 0) = true
  · obtain ⟨h, hh, rfl⟩ := ix_t (by omega) b1
    by_cases b3 : aS (xA g) 0 < 8
    · refine op_a hC hM (nI (aS (xA g) 0)) (lodA (xA g) h) (hC.2.1.lod hh b3) (lod_S (by omega)) ?_ ?_
      · intro V1 e1 hC1
        obtain ⟨V2, e2, hR2, hd2⟩ := c_lodger hC1.1 hC1.2.1 (by omega) hh b3
        refine ⟨V2, ?_, hR2, hd2⟩
        show fX9_lodger V _ = _
        unfold fX9_lodger
        rw [n_house hC.1, b1]
        simp only [if_true, q_N1]
        rw [hC.1.1.1, if_pos (show nI (aS (xA g) 0) < 8 from nI_lt (b := 8) b3 (by omega)), e1, q_R, e2, q_I]
      · intro V1 V2 hT e2 hT2
        obtain ⟨V3, e3, hR3, hd3⟩ := m_lodger hT2 hh b3
        refine ⟨V3, ?_, hR3, hd3⟩
        show fX10_lodger V1 _ = _
        unfold fX10_lodger
        rw [q_lt, t0_e, m_noHouse hT.1 hT.2.1, b1, q_R, show bI (!true) = 0 from rfl, m_thr0, q_I, if_pos rfl, m_houses hT.1, q_R, if_neg (show ¬ nI (aS (xA g) 0) = 8 from fun e => by have := (nI_eq (b := 8) (by omega) (by omega)).1 e; omega)]
        unfold fX10_lodger_j33
        rw [m_thr0, q_I, if_pos rfl, e2, q_R, m_houses hT2.1, q_R, e3, q_R]
    · refine op_x hC hM UOE ?_ (m_thr ⟨0, ?_⟩)
      · show fX9_lodger V _ = _
        unfold fX9_lodger
        rw [n_house hC.1, b1]
        simp only [if_true, q_N1]
        rw [hC.1.1.1, if_neg (show ¬ nI (aS (xA g) 0) < 8 from nI_nlt (b := 8) (by omega) (by omega))]
      · have hT := hM.t0
        show fX10_lodger V _ = _
        unfold fX10_lodger
        rw [q_lt, t0_e, m_noHouse hT.1 hT.2.1, b1, q_R, show bI (!true) = 0 from rfl, m_thr0, q_I, if_pos rfl, m_houses hT.1, q_R, if_pos (show nI (aS (xA g) 0) = 8 by rw [show aS (xA g) 0 = 8 by omega]; rfl)]
        unfold fX10_lodger_j33
        rw [m_thr1, q_I, if_neg q_10, h2]
  · refine op_x hC hM IOOB ?_ (m_thr ⟨0, ?_⟩)
    · show fX9_lodger V _ = _
      unfold fX9_lodger
      rw [n_house hC.1, nf b1]; rfl
    · have hT := hM.t0
      show fX10_lodger V _ = _
      unfold fX10_lodger
      rw [q_lt, t0_e, m_noHouse hT.1 hT.2.1, nf b1, q_R, show bI (!false) = 1 from rfl, m_thr1, q_I, if_neg q_10, h1]
/-! ===== away ===== -/
theorem pH_self {h k : Nat} : pH A h k (aH A h k) = A := by
  have : up2 A.2.1 h k (aH A h k) = A.2.1 := by
    funext i j
    unfold up2
    split
    · next c => rw [c.1, c.2]; rfl
    · rfl
  unfold pH
  rw [this]
theorem aw_7 {h v : Nat} : aw (pH A h 7 v) = fun q => if q = h then decide (v = 1) else aw A q := by
  funext q
  unfold aw
  rw [aH_p]
  by_cases e : q = h <;> simp [e]
theorem RS.awy {h v : Nat} (hR : RS V i A) (hi : i < 17) (hh : h < aS A 0) (hv : decide (v = 1) = !aw A h) : RS (va_up V i (upd (V i) 6 (nI (bs (aw A) (aS A 0) ^^^ 2 ^ h)))) i (pH A h 7 v) := by
  have e : ∀ k, k ≠ 6 → va_up V i (upd (V i) 6 (nI (bs (aw A) (aS A 0) ^^^ 2 ^ h))) i k = V i k := fun k hk => by rw [va_s, pk_un hk]
  refine ⟨⟨(e 3 (by omega)).trans hR.1.1, (e 4 (by omega)).trans hR.1.2.1, (e 5 (by omega)).trans hR.1.2.2.1, ?_, (e 7 (by omega)).trans hR.1.2.2.2.2.1, (e 8 (by omega)).trans hR.1.2.2.2.2.2.1, (e 9 (by omega)).trans hR.1.2.2.2.2.2.2.1, (e 10 (by omega)).trans hR.1.2.2.2.2.2.2.2.1, (e 11 (by omega)).trans hR.1.2.2.2.2.2.2.2.2.1, (e 12 (by omega)).trans hR.1.2.2.2.2.2.2.2.2.2⟩, ?_, ?_, ?_, ?_⟩
  · rw [va_s, pk_us, aw_7]
    congr 1
    apply Nat.eq_of_testBit_eq
    intro k
    show _ = (bs (fun q => if q = h then decide (v = 1) else aw A q) (aS A 0)).testBit k
    rw [bs_bit, fb_bit_flip, bs_bit]
    by_cases c : k = h
    · subst c
      rw [if_pos rfl, hv]
      simp [hh]
    · simp [c]
  · intro h' k' hh' hk'
    rw [va_n (by omega), aH_p, if_neg (by omega)]; exact hR.2.1 h' k' hh' hk'
  · intro d k hd hk hk2; rw [va_n (by omega)]; exact hR.2.2.1 d k hd hk hk2
  · intro d hd; rw [va_n (by omega)]; exact hR.2.2.2.1 d hd
  · intro k hk; rw [va_n (by omega)]; exact hR.2.2.2.2 k hk
theorem op_away {cd : String → Int32} (hI : INV V) (h1 : cd IOOB = 1) (x1 : Int32) (is : Bool) : OpE (fun V => fX9_away V x1 (bI is)) (fun V => fX10_away V x1 (bI is)) cd V := by
  obtain ⟨g, hC, hM⟩ := hI
  have h8 := hC.2.1.1.1
  by_cases b1 : ix x1 (aS (xA g) 0) = true
  · obtain ⟨h, hh, rfl⟩ := ix_t (by omega) b1
    have hb := hC.2.1.2.1 h hh
    have h7 : aH (xA g) h 7 = if aw (xA g) h then 1 else 0 := by
      unfold aw
      by_cases c : aH (xA g) h 7 = 1
      · rw [if_pos (decide_eq_true c)]; exact c
      · rw [if_neg (fun e => c (of_decide_eq_true e))]; omega
    refine op_a hC hM (bI (aw (xA g) h != is)) (pH (xA g) h 7 (if is then 1 else 0)) (hC.2.1.hq (by omega) (by omega) (by omega) (by omega) (by omega) (fun _ => by split <;> omega)) rfl ?_ ?_
    · intro V1 e1 hC1
      have ha := c_isAway hC1.1 hC1.2.1 hh
      have p9 : fX9_away V (nI h) (bI is) = (if bI (aw (xA g) h) = bI is then (zo_ (0 : Int32) (some (.inr (0 : Int32), V1))) else (lt_ (va_up V1 2 (upd (V1 2) 6 ((V1 2 6) ^^^ ((1 : Int32) <<< (nI h &&& 31))))) fun V7 => zo_ (1 : Int32) (some (.inr (1 : Int32), V7)))) := by
        unfold fX9_away
        rw [n_house hC.1, b1]
        simp only [if_true, q_N1]
        rw [e1, q_R, ha, q_R]
      by_cases c : aw (xA g) h = is
      · refine ⟨V1, ?_, ?_, Cd.rf⟩
        · show fX9_away V _ _ = _
          rw [p9, if_pos (by rw [c]), q_zo0, c]
          simp [bI]
        · rw [← c, ← h7, pH_self]; exact hC1.1
      · have hv : decide ((if is then 1 else 0) = 1) = !aw (xA g) h := by
          revert c
          cases aw (xA g) h <;> cases is <;> simp
        refine ⟨va_up V1 2 (upd (V1 2) 6 (nI (bs (aw (xA g)) (aS (xA g) 0) ^^^ 2 ^ h))), ?_, hC1.1.awy (by omega) hh hv, Cd.u (by omega) (Or.inl rfl)⟩
        show fX9_away V _ _ = _
        rw [p9, if_neg (fun e => c (bI_inj.1 e)), hC1.1.1.2.2.2.1, q_shl (by omega), fb_xorI, q_lt, q_zo1]
        have : (aw (xA g) h != is) = true := by
          revert c
          cases aw (xA g) h <;> cases is <;> simp
        rw [this]; rfl
    · intro V1 V2 hT e2 hT2
      obtain ⟨hR, hd⟩ := m_putH (v := if is then 1 else 0) hT2 hh (k := 7) (by omega)
      have e7 : fX10_of V2 (nI h) 7 = some (nI (aH (xA g) h 7)) := m_of hT2.1 hT2.2.1 hh (k := 7) (by omega)
      refine ⟨_, ?_, hR, hd⟩
      show fX10_away V1 _ _ = _
      unfold fX10_away
      rw [q_lt, t0_e, m_noHouse hT.1 hT.2.1, b1, q_R, show bI (!true) = 0 from rfl, m_thr0, q_I, if_pos rfl, e2, q_R, e7, q_R, h7]
      have ea : (if nI (if aw (xA g) h = true then 1 else 0) = 1 then fX10_away_j40 V2 (nI h) (bI is) 1 else fX10_away_j40 V2 (nI h) (bI is) 0) = fX10_away_j40 V2 (nI h) (bI is) (bI (aw (xA g) h)) := by
        cases aw (xA g) h
        · rw [if_neg (by decide)]; rfl
        · rw [if_pos (by decide)]; rfl
      rw [ea]
      unfold fX10_away_j40
      rw [show fX10_at V2 (nI h) 7 = some (nI (10 + 8 * h + 7)) from m_at (k := 7), q_R]
      have eb : (if bI is = 0 then fX10_away_j60 V2 (bI is) (bI (aw (xA g) h)) 0 (nI (10 + 8 * h + 7)) else fX10_away_j60 V2 (bI is) (bI (aw (xA g) h)) 1 (nI (10 + 8 * h + 7))) = fX10_away_j60 V2 (bI is) (bI (aw (xA g) h)) (nI (if is then 1 else 0)) (nI (10 + 8 * h + 7)) := by
        cases is
        · rw [if_pos (by decide)]; rfl
        · rw [if_neg (by decide)]; rfl
      rw [eb]
      unfold fX10_away_j60
      rw [q_rd (by omega) (by omega), nI_clamp (by omega), q_lt, q_zo0, q_zo1]
      by_cases c : aw (xA g) h = is
      · rw [if_pos (by rw [c]), c]
        simp [bI]
      · rw [if_neg (fun e => c (bI_inj.1 e))]
        have : (aw (xA g) h != is) = true := by
          revert c
          cases aw (xA g) h <;> cases is <;> simp
        rw [this]; rfl
  · refine op_x hC hM IOOB ?_ (m_thr ⟨0, ?_⟩)
    · show fX9_away V _ _ = _
      unfold fX9_away
      rw [n_house hC.1, nf b1]; rfl
    · have hT := hM.t0
      show fX10_away V _ _ = _
      unfold fX10_away
      rw [q_lt, t0_e, m_noHouse hT.1 hT.2.1, nf b1, q_R, show bI (!false) = 1 from rfl, m_thr1, q_I, if_neg q_10, q_zo0, h1]
end OP
