/-! ===== what is so is asked anew ===== -/
def askP (A : AT) (d : Nat) : Bool := decide (0 < aS A 0) && decide (aD A d 4 &&& (2 ^ aS A 0 - 1) = 2 ^ aS A 0 - 1) && fre A d
def ask1 (A : AT) (d : Nat) : AT := if askP A d = true then pD A d 5 1 else A
def askN (A : AT) : Nat → AT
  | 0 => A
  | n + 1 => ask1 (askN A n) n
theorem ask1_S {A : AT} {d : Nat} : aS (ask1 A d) = aS A := by unfold ask1; split <;> rfl
theorem askN_S {A : AT} : ∀ {n : Nat}, aS (askN A n) = aS A
  | 0 => rfl
  | n + 1 => ask1_S.trans askN_S
theorem WA.dq {A : AT} (hW : WA A) {d k v : Nat} (hk : k = 3 ∨ k = 5) (h3 : k = 3 → v < 256) (h5 : k = 5 → v ≤ 1) : WA (pD A d k v) := by
  obtain ⟨⟨a0, a1, a2, a3, a4, a5, a6, a7, a8⟩, b, c, e⟩ := hW
  refine ⟨⟨a0, a1, a2, a3, a4, a5, a6, ?_, a8⟩, b, fun d' hd' => ?_, e⟩
  · have ef : (fun d' => pc8 (aD (pD A d k v) d' 4)) = fun d' => pc8 (aD A d' 4) := by
      funext d'
      rw [aD_p, if_neg (by omega)]
    rw [ef]; exact a7
  · obtain ⟨c0, c1, c2, c3, c4, c5⟩ := c d' hd'
    refine ⟨?_, ?_, ?_, ?_, ?_, ?_⟩ <;> (simp only [aD_p]; (repeat' split) <;> omega)
theorem WA.ask {A : AT} (hW : WA A) (d : Nat) : WA (ask1 A d) := by
  unfold ask1
  split
  · exact hW.dq (Or.inr rfl) (by omega) (by omega)
  · exact hW
theorem WA.askN {A : AT} (hW : WA A) : ∀ n, WA (askN A n)
  | 0 => hW
  | n + 1 => (hW.askN n).ask n
theorem so_5 {A : AT} {d : Nat} : so (pD A d 5 1) = fun q => if q = d then true else so A q := by
  funext q
  unfold so
  rw [aD_p]
  by_cases e : q = d <;> simp [e]
theorem bs_set {f : Nat → Bool} {n d : Nat} (hd : d < n) : bs (fun q => if q = d then true else f q) n = bs f n ||| 2 ^ d := by
  apply Nat.eq_of_testBit_eq
  intro k
  rw [bs_bit, fb_bit_set, bs_bit]
  by_cases e : k = d
  · subst e; simp [hd]
  · simp [e]
theorem RS.sob {V : VT} {i : Nat} {A : AT} (hR : RS V i A) (hi : i < 17) {d : Nat} (hd : d < aS A 1) : RS (va_up V i (upd (V i) 7 (nI (bs (so A) (aS A 1) ||| 2 ^ d)))) i (pD A d 5 1) := by
  have e : ∀ k, k ≠ 7 → va_up V i (upd (V i) 7 (nI (bs (so A) (aS A 1) ||| 2 ^ d))) i k = V i k := fun k hk => by rw [va_s, pk_un hk]
  refine ⟨⟨(e 3 (by omega)).trans hR.1.1, (e 4 (by omega)).trans hR.1.2.1, (e 5 (by omega)).trans hR.1.2.2.1, (e 6 (by omega)).trans hR.1.2.2.2.1, ?_, (e 8 (by omega)).trans hR.1.2.2.2.2.2.1, (e 9 (by omega)).trans hR.1.2.2.2.2.2.2.1, (e 10 (by omega)).trans hR.1.2.2.2.2.2.2.2.1, (e 11 (by omega)).trans hR.1.2.2.2.2.2.2.2.2.1, (e 12 (by omega)).trans hR.1.2.2.2.2.2.2.2.2.2⟩, ?_, ?_, ?_, ?_⟩
  · rw [va_s, pk_us, so_5]
    congr 1
    exact (bs_set hd).symm
  · intro h k hh hk; rw [va_n (by omega)]; exact hR.2.1 h k hh hk
  · intro d' k hd' hk hk2; rw [va_n (by omega), aD_p, if_neg (by omega)]; exact hR.2.2.1 d' k hd' hk hk2
  · intro d' hd'; rw [va_n (by omega), aD_p, if_neg (by omega)]; exact hR.2.2.2.1 d' hd'
  · intro k hk; rw [va_n (by omega)]; exact hR.2.2.2.2 k hk
theorem pw_le {n : Nat} (h : n ≤ 8) : 2 ^ n - 1 < 256 := by
  have := Nat.pow_le_pow_right (n := 2) (by omega) h
  omega
section OP
variable {V : VT} {i : Nat} {A : AT} {L : Fa → Bool}
theorem c_askAnew (hR : RS V i A) (hW : WA A) (hi : i < 17) : ∃ V', fX6_askAnew V i = some V' ∧ RS V' i (askN A (aS A 1)) ∧ Cd i V V' := by
  have h0 := hW.1.1
  have h1 := hW.1.2.1
  unfold fX6_askAnew
  obtain ⟨V', e, hR', hd⟩ := lk (V := V) (f := iX6_askAnew_L2 i) (fun _ => ()) (fun V' _ k => (V', nI k)) (fun V' _ => V') (fun k V' => RS V' i (askN A k) ∧ Cd i V V') (aS A 1) (by omega) ⟨hR, Cd.rf⟩
    (by
      rintro k V' hk ⟨hR, hy⟩
      have hW' := hW.askN k
      have hk' : k < aS (askN A k) 1 := by rw [askN_S]; exact hk
      have hs : aS (askN A k) = aS A := askN_S
      unfold iX6_askAnew_L2 fX6_askAnew_L2
      simp only []
      rw [hR.1.2.1, hR.1.1, hs, if_neg (nI_ge hk (by omega))]
      have keep : askP (askN A k) k = false → ∃ V2, (lt_ (nI k + (1 : Int32)) fun y1 => some (.inl (V', y1))) = some (.inl (V2, nI (k + 1)) : (VT × Int32) ⊕ VT) ∧ RS V2 i (askN A (k + 1)) ∧ Cd i V V2 := by
        intro hp
        refine ⟨V', by rw [q_lt, nI_1], ?_, hy⟩
        show RS V' i (ask1 (askN A k) k)
        unfold ask1
        rw [if_neg (by rw [hp]; decide)]
        exact hR
      by_cases c0 : aS A 0 = 0
      · rw [c0, if_pos (show nI 0 ≤ 0 by decide)]
        unfold fX6_askAnew_j39_2 fX6_askAnew_j40_2
        rw [if_pos rfl]
        exact keep (by unfold askP; rw [hs, c0]; rfl)
      · rw [if_neg (nI_nle (by omega) (by omega))]
        have e4 : fX6_ofDeed V' i (nI k) 4 = some (nI (aD (askN A k) k 4)) := c_ofDeed hR hW' hk' (k := 4) (by omega) (by omega)
        have ea := c_allHouses hR hW'
        rw [hs] at ea
        have hp := pw_le h0
        have h4 := (hW'.2.2.1 k hk').2.2.2.2.1
        rw [e4, q_R, ea, q_R, q_R, fa_and]
        by_cases c1 : aD (askN A k) k 4 &&& (2 ^ aS A 0 - 1) = 2 ^ aS A 0 - 1
        · rw [c1, if_pos rfl]
          unfold fX6_askAnew_j40_2
          rw [if_neg q_10, c_isFree hR hW' hk', q_R, q_ifb]
          cases hf : fre (askN A k) k
          · rw [if_neg (by decide)]
            exact keep (by unfold askP; rw [hf]; simp)
          · rw [if_pos rfl, hR.1.2.2.2.2.1, q_shl (by omega), q_or, q_lt, q_lt, nI_1]
            refine ⟨_, rfl, ?_, hy.tr (Cd.u hi (Or.inl rfl))⟩
            show RS _ i (ask1 (askN A k) k)
            unfold ask1
            rw [if_pos (by unfold askP; rw [hf, hs]; simp [c1]; omega)]
            exact hR.sob hi hk'
        · rw [if_neg (fun e => c1 ((nI_eq (Nat.lt_of_le_of_lt Nat.and_le_right (by omega)) (by omega)).1 e))]
          unfold fX6_askAnew_j39_2 fX6_askAnew_j40_2
          rw [if_pos rfl]
          exact keep (by unfold askP; rw [hs, decide_eq_false c1]; simp))
    (by
      rintro V' ⟨hR, hy⟩
      unfold iX6_askAnew_L2 fX6_askAnew_L2
      simp only []
      rw [hR.1.2.1, askN_S, if_pos (nI_le (Nat.le_refl _) (by omega))])
  have e : it_ (iX6_askAnew_L2 i) FV (V, 0) = _ := e
  rw [e, q_R]
  exact ⟨V', rfl, hR', hd⟩
theorem m_asks (hT : MT V A L) : ∃ V', fX10_asks V = some V' ∧ RM (V' 76) (askN A (aS A 1)) ∧ Md V V' := by
  obtain ⟨hM, hW, -⟩ := hT
  have h0 := hW.1.1
  have h1 := hW.1.2.1
  unfold fX10_asks
  obtain ⟨V', e, hR', hd⟩ := lk (V := V) (f := iX10_asks_L2) (fun _ => ()) (fun V' _ k => (V', nI k)) (fun V' _ => V') (fun k V' => RM (V' 76) (askN A k) ∧ Md V V') (aS A 1) (by omega) ⟨hM, Md.rf⟩
    (by
      rintro k V' hk ⟨hR, hy⟩
      have hW' := hW.askN k
      have hk' : k < aS (askN A k) 1 := by rw [askN_S]; exact hk
      have hs : aS (askN A k) = aS A := askN_S
      unfold iX10_asks_L2 fX10_asks_L2
      simp only []
      rw [m_deeds hR, q_R, m_houses hR, hs, if_neg (nI_ge hk (by omega)), q_R]
      have keep : askP (askN A k) k = false → ∃ V2, (lt_ (nI k + (1 : Int32)) fun y1 => some (.inl (V', y1))) = some (.inl (V2, nI (k + 1)) : (VT × Int32) ⊕ VT) ∧ RM (V2 76) (askN A (k + 1)) ∧ Md V V2 := by
        intro hp
        refine ⟨V', by rw [q_lt, nI_1], ?_, hy⟩
        show RM (V' 76) (ask1 (askN A k) k)
        unfold ask1
        rw [if_neg (by rw [hp]; decide)]
        exact hR
      by_cases c0 : aS A 0 = 0
      · rw [c0, if_pos (show nI 0 ≤ 0 by decide)]
        exact keep (by unfold askP; rw [hs, c0]; rfl)
      · rw [if_neg (nI_nle (by omega) (by omega))]
        have e4 : fX10_ofDeed V' (nI k) 4 = some (nI (aD (askN A k) k 4)) := m_ofDeed hR hW' hk' (k := 4) (by omega) (by omega)
        have ea := m_allHouses hR hW'
        rw [hs] at ea
        have hp := pw_le h0
        have h4 := (hW'.2.2.1 k hk').2.2.2.2.1
        rw [e4, q_R, ea, q_R, q_R, fa_and]
        by_cases c1 : aD (askN A k) k 4 &&& (2 ^ aS A 0 - 1) = 2 ^ aS A 0 - 1
        · rw [c1, if_pos rfl, m_isFree hR hW' hk', q_R, q_ifb]
          cases hf : fre (askN A k) k
          · rw [if_neg (by decide)]
            exact keep (by unfold askP; rw [hf]; simp)
          · rw [if_pos rfl, show fX10_deedAt V' (nI k) 5 = some (nI (74 + 6 * k + 5)) from m_dat (k := 5), q_R, q_rd (by omega) (by omega), nI_clamp (by omega), q_lt, q_lt, nI_1]
            refine ⟨_, rfl, ?_, hy.tr (Md.u (by omega))⟩
            show RM _ (ask1 (askN A k) k)
            unfold ask1
            rw [if_pos (by unfold askP; rw [hf, hs]; simp [c1]; omega), va_s]
            exact hR.d hW' (k := 5) (v := 1) (by omega) (by omega)
        · rw [if_neg (fun e => c1 ((nI_eq (Nat.lt_of_le_of_lt Nat.and_le_right (by omega)) (by omega)).1 e))]
          exact keep (by unfold askP; rw [hs, decide_eq_false c1]; simp))
    (by
      rintro V' ⟨hR, hy⟩
      unfold iX10_asks_L2 fX10_asks_L2
      simp only []
      rw [m_deeds hR, q_R, askN_S, if_pos (nI_le (Nat.le_refl _) (by omega))])
  have e : it_ iX10_asks_L2 FV (V, 0) = _ := e
  rw [e, q_R]
  exact ⟨V', rfl, hR', hd⟩
/-! ===== say ===== -/
theorem op_say {cd : String → Int32} (hI : INV V) (h1 : cd IOOB = 1) (h2 : cd ISE = 2) (x1 x2 : Int32) : OpE (fun V => fX9_say V x1 x2) (fun V => fX10_say V x1 x2) cd V := by
  obtain ⟨g, hC, hM⟩ := hI
  have h8 := hC.2.1.1.1
  have h10 := hC.2.1.1.2.1
  by_cases b1 : ix x1 (aS (xA g) 0) = true
  · by_cases b2 : ix x2 (aS (xA g) 1) = true
    · obtain ⟨h, hh, rfl⟩ := ix_t (by omega) b1
      obtain ⟨d, hd, rfl⟩ := ix_t (by omega) b2
      have hb := hC.2.1.2.1 h hh
      have hdd := hC.2.1.2.2.1 d hd
      have ca := c_isAway hC.1 hC.2.1 hh
      have cs := c_hasSeen hC.1 hC.2.1 hh hd
      have cw := c_hasSaid hC.1 hC.2.1 hh hd
      have m7 : ∀ V1, MT V1 (xA g) (xL g) → fX10_of V1 (nI h) 7 = some (nI (aH (xA g) h 7)) := fun V1 hT => m_of hT.1 hT.2.1 hh (k := 7) (by omega)
      have m3 : ∀ V1, MT V1 (xA g) (xL g) → fX10_ofDeed V1 (nI d) 3 = some (nI (aD (xA g) d 3)) := fun V1 hT => m_ofDeed hT.1 hT.2.1 hd (k := 3) (by omega) (by omega)
      have m4 : ∀ V1, MT V1 (xA g) (xL g) → fX10_ofDeed V1 (nI d) 4 = some (nI (aD (xA g) d 4)) := fun V1 hT => m_ofDeed hT.1 hT.2.1 hd (k := 4) (by omega) (by omega)
      have hs3 : ∀ V1 : VT, fX10_has V1 (nI (aD (xA g) d 3)) (nI h) = some (bI ((aD (xA g) d 3).testBit h)) := fun V1 => m_has (by omega) (by omega)
      have hs4 : ∀ V1 : VT, fX10_has V1 (nI (aD (xA g) d 4)) (nI h) = some (bI ((aD (xA g) d 4).testBit h)) := fun V1 => m_has (by omega) (by omega)
      have ga : ∀ V1 : VT, MT (t0 V1) (xA g) (xL g) → fX10_say V1 (nI h) (nI d) = if (aH (xA g) h 7 = 1 ∨ (aD (xA g) d 3).testBit h = false ∨ (aD (xA g) d 4).testBit h = true) then fX10_say_j77 (t0 V1) (nI h) (nI d) 1 else fX10_say_j77 (t0 V1) (nI h) (nI d) 0 := by
        intro V1 hT
        unfold fX10_say
        rw [q_lt, t0_e, m_noHouse hT.1 hT.2.1, b1, q_R, show bI (!true) = 0 from rfl, if_pos rfl, m_noDeed hT.1 hT.2.1, b2, q_R, show bI (!true) = 0 from rfl, if_pos rfl]
        unfold fX10_say_j27 fX10_say_j72
        rw [m_thr0, q_I, if_pos rfl, m7 _ hT, q_R, m3 _ hT, q_R, hs3, q_R, m4 _ hT, q_R, hs4, q_R, q_ifb, q_ifb]
        by_cases a1 : aH (xA g) h 7 = 1
        · rw [a1, if_pos (show nI 1 = 1 from rfl), if_pos (Or.inl rfl)]
        · rw [if_neg (show ¬ nI (aH (xA g) h 7) = 1 from fun e => a1 ((nI_eq (b := 1) (by omega) (by omega)).1 e))]
          cases hb3 : (aD (xA g) d 3).testBit h
          · rw [if_neg (by decide), if_pos (Or.inr (Or.inl rfl))]
          · rw [if_pos rfl]
            cases hb4 : (aD (xA g) d 4).testBit h
            · rw [if_neg (by decide), if_neg (by simp [a1])]
            · rw [if_pos rfl, if_pos (Or.inr (Or.inr rfl))]
      by_cases bad : aH (xA g) h 7 = 1 ∨ (aD (xA g) d 3).testBit h = false ∨ (aD (xA g) d 4).testBit h = true
      · refine op_x hC hM ISE ?_ (m_thr ⟨0, ?_⟩)
        · show fX9_say V _ _ = _
          unfold fX9_say fX9_say_j45
          rw [n_house hC.1, b1, n_deed hC.1, b2]
          simp only [if_true, q_N1]
          rw [ca, q_R, q_ifb, cs, q_R, q_ifb, cw, q_R, q_ifb]
          unfold aw
          rcases bad with a | a | a
          · rw [if_pos (by rw [a]; rfl)]
          · rw [a, if_neg (show ¬ false = true by decide)]
            split <;> rfl
          · rw [a, if_pos (show true = true from rfl)]
            split
            · rfl
            · split <;> rfl
        · show fX10_say V _ _ = _
          rw [ga V hM.t0, if_pos bad]
          unfold fX10_say_j77
          rw [m_thr1, q_I, if_neg q_10, q_zo0, h2]
      · have n1 : aw (xA g) h = false := decide_eq_false (fun e => bad (Or.inl e))
        have n3 : (aD (xA g) d 3).testBit h = true := by cases e : (aD (xA g) d 3).testBit h; exact absurd (Or.inr (Or.inl e)) bad; rfl
        have n4 : (aD (xA g) d 4).testBit h = false := by cases e : (aD (xA g) d 4).testBit h; rfl; exact absurd (Or.inr (Or.inr e)) bad
        have hW1 : WA (sayA (xA g) h d) := hC.2.1.say hh hd n4
        have hS1 : aS (sayA (xA g) h d) 1 = aS (xA g) 1 := sayA_S (by omega) (by omega)
        have hW2 := hW1.askN (aS (sayA (xA g) h d) 1)
        refine op_a hC hM (bI (so (askN (sayA (xA g) h d) (aS (sayA (xA g) h d) 1)) d)) (askN (sayA (xA g) h d) (aS (sayA (xA g) h d) 1)) hW2 (by rw [askN_S]; exact sayA_S (by omega) (by omega)) ?_ ?_
        · intro V1 e1 hC1
          obtain ⟨V3, e3, hR3, hd3⟩ := c_addWord hC1.1 hC1.2.1 (by omega) hh hd
          obtain ⟨V4, e4, hR4, hd4⟩ := c_askAnew hR3 hW1 (by omega)
          refine ⟨V4, ?_, hR4, hd3.tr hd4⟩
          show fX9_say V _ _ = _
          unfold fX9_say
          rw [n_house hC.1, b1, n_deed hC.1, b2]
          simp only [if_true, q_N1]
          rw [ca, q_R, q_ifb, n1, if_neg (by decide), cs, q_R, q_ifb, n3, if_pos rfl, cw, q_R, q_ifb, n4, if_neg (by decide), e1, q_R, e3, q_R, e4, q_R, c_isSo hR4 hW2 (by rw [askN_S, hS1]; exact hd), q_R, q_zo]
        · intro V1 V2 hT e2 hT2
          obtain ⟨V3, e3, hR3, hd3⟩ := m_says hT2 hh hd
          have hT3 := hT2.d hd3 hR3 hW1 (sayA_S (by omega) (by omega))
          obtain ⟨V4, e4, hR4, hd4⟩ := m_asks hT3
          refine ⟨V4, ?_, hR4, hd3.tr hd4⟩
          show fX10_say V1 _ _ = _
          rw [ga V1 hT, if_neg bad]
          unfold fX10_say_j77
          rw [m_thr0, q_I, if_pos rfl, e2, q_R, e3, q_R, e4, q_R, m_isSo hR4 hW2 (by rw [askN_S, hS1]; exact hd), q_R, q_zo]
    · refine op_x hC hM IOOB ?_ (m_thr ⟨0, ?_⟩)
      · show fX9_say V _ _ = _
        unfold fX9_say
        rw [n_house hC.1, b1, n_deed hC.1, nf b2]; rfl
      · have hT := hM.t0
        show fX10_say V _ _ = _
        unfold fX10_say
        rw [q_lt, t0_e, m_noHouse hT.1 hT.2.1, b1, q_R, show bI (!true) = 0 from rfl, if_pos rfl, m_noDeed hT.1 hT.2.1, nf b2, q_R, show bI (!false) = 1 from rfl, if_neg q_10]
        unfold fX10_say_j22 fX10_say_j27
        rw [m_thr1, q_I, if_neg q_10, q_zo0, h1]
  · refine op_x hC hM IOOB ?_ (m_thr ⟨0, ?_⟩)
    · show fX9_say V _ _ = _
      unfold fX9_say
      rw [n_house hC.1, nf b1]; rfl
    · have hT := hM.t0
      show fX10_say V _ _ = _
      unfold fX10_say
      rw [q_lt, t0_e, m_noHouse hT.1 hT.2.1, nf b1, q_R, show bI (!false) = 1 from rfl, if_neg q_10]
      unfold fX10_say_j22 fX10_say_j27
      rw [m_thr1, q_I, if_neg q_10, q_zo0, h1]
end OP
