/-! ===== many days ===== -/
def itN (f : AT → AT) : Nat → AT → AT
  | 0, A => A
  | n + 1, A => f (itN f n A)
theorem WA.calm {L : Fa → Bool} {f : Nat} {A : AT} (hW : WA A) (hf : f ≤ 9) : WA (calmD L f A) := (hW.fog hf).dya
theorem WA.draw {L : Fa → Bool} {A : AT} (hW : WA A) : WA (drawD L A) := by
  have h6 := hW.1.2.2.2.2.2.2.1
  exact ((hW.seed (nxZ (aZ A))).fog (f := min (dwN (nxZ (aZ A))) (aS A 6)) (by omega)).dya
theorem calm_S {L : Fa → Bool} {f : Nat} {A : AT} {q : Nat} (h4 : q ≠ 4) (h5 : q ≠ 5) (h7 : q ≠ 7) (h8 : q ≠ 8) : aS (calmD L f A) q = aS A q := by
  unfold calmD
  rw [dyA_S h4 h7 h8, aS_p, if_neg h5]
theorem draw_S {L : Fa → Bool} {A : AT} {q : Nat} (h4 : q ≠ 4) (h5 : q ≠ 5) (h7 : q ≠ 7) (h8 : q ≠ 8) : aS (drawD L A) q = aS A q := by
  unfold drawD
  rw [dyA_S h4 h7 h8, aS_p, if_neg h5, pZ_S]
theorem WA.calms {L : Fa → Bool} {f : Nat} {A : AT} (hW : WA A) (hf : f ≤ 9) : ∀ n, WA (itN (calmD L f) n A)
  | 0 => hW
  | n + 1 => (hW.calms hf n).calm hf
theorem WA.draws {L : Fa → Bool} {A : AT} (hW : WA A) : ∀ n, WA (itN (drawD L) n A)
  | 0 => hW
  | n + 1 => (hW.draws n).draw
theorem calms_S {L : Fa → Bool} {f : Nat} {A : AT} {q : Nat} (h4 : q ≠ 4) (h5 : q ≠ 5) (h7 : q ≠ 7) (h8 : q ≠ 8) : ∀ {n : Nat}, aS (itN (calmD L f) n A) q = aS A q
  | 0 => rfl
  | n + 1 => (calm_S h4 h5 h7 h8).trans (calms_S h4 h5 h7 h8)
theorem draws_S {L : Fa → Bool} {A : AT} {q : Nat} (h4 : q ≠ 4) (h5 : q ≠ 5) (h7 : q ≠ 7) (h8 : q ≠ 8) : ∀ {n : Nat}, aS (itN (drawD L) n A) q = aS A q
  | 0 => rfl
  | n + 1 => (draw_S h4 h5 h7 h8).trans (draws_S h4 h5 h7 h8)
/-! words grow -/
theorem spkN_7 {A : AT} {h : Nat} : ∀ {n : Nat}, aS A 7 ≤ aS (spkN A h n) 7
  | 0 => Nat.le_refl _
  | n + 1 => by
    have ih : aS A 7 ≤ aS (spkN A h n) 7 := spkN_7
    show aS A 7 ≤ aS (spk1 (spkN A h n) h n) 7
    unfold spk1
    split
    · rw [sayA_7]; omega
    · exact ih
theorem dyH_7 {dr : Bool} {A : AT} : ∀ {n : Nat}, aS A 7 ≤ aS (dyH dr A n) 7
  | 0 => Nat.le_refl _
  | n + 1 => by
    have ih : aS A 7 ≤ aS (dyH dr A n) 7 := dyH_7
    unfold dyH
    split
    · exact ih
    · split
      · split
        · rw [pZ_S]; exact ih
        · refine Nat.le_trans ?_ spkN_7
          rw [pZ_S]; exact ih
      · exact Nat.le_trans ih spkN_7
theorem dyA_7 {L : Fa → Bool} {dr : Bool} {A : AT} : aS A 7 ≤ aS (dyA L dr A) 7 := by
  unfold dyA dyE
  rw [aS_p, if_neg (by omega), askN_S]
  have : aS (freN L A (aS A 1)) 7 = aS A 7 := by rw [freN_S]
  rw [← this]
  exact dyH_7
theorem draws_7 {L : Fa → Bool} {A : AT} : ∀ {n : Nat}, aS A 7 ≤ aS (itN (drawD L) n A) 7
  | 0 => Nat.le_refl _
  | n + 1 => by
    have ih : aS A 7 ≤ aS (itN (drawD L) n A) 7 := draws_7
    refine Nat.le_trans ih ?_
    show aS (itN (drawD L) n A) 7 ≤ aS (drawD L (itN (drawD L) n A)) 7
    unfold drawD
    refine Nat.le_trans ?_ dyA_7
    rw [aS_p, if_neg (by omega), pZ_S]
    exact Nat.le_refl _
/-! what is so stays so -/
theorem ask1_so {A : AT} {d k : Nat} (h : so A k = true) : so (ask1 A d) k = true := by
  unfold ask1
  split
  · rw [so_5]
    show (if k = d then true else so A k) = true
    split
    · rfl
    · exact h
  · exact h
theorem askN_so {A : AT} {k : Nat} (h : so A k = true) : ∀ n, so (askN A n) k = true
  | 0 => h
  | n + 1 => ask1_so (askN_so h n)
theorem free1_so {L : Fa → Bool} {A : AT} {d : Nat} : so (free1 L A d) = so A := by
  unfold free1
  split
  · exact so_D (by omega)
  · rfl
theorem freN_so {L : Fa → Bool} {A : AT} : ∀ {n : Nat}, so (freN L A n) = so A
  | 0 => rfl
  | n + 1 => free1_so.trans freN_so
theorem spk1_so {A : AT} {h d : Nat} : so (spk1 A h d) = so A := by
  unfold spk1
  split
  · exact sayA_so
  · rfl
theorem spkN_so {A : AT} {h : Nat} : ∀ {n : Nat}, so (spkN A h n) = so A
  | 0 => rfl
  | n + 1 => spk1_so.trans spkN_so
theorem pZ_so {A : AT} {z : Int32} : so (pZ A z) = so A := rfl
theorem dyH_so {dr : Bool} {A : AT} : ∀ {n : Nat}, so (dyH dr A n) = so A
  | 0 => rfl
  | n + 1 => by
    have ih : so (dyH dr A n) = so A := dyH_so
    unfold dyH
    split
    · exact ih
    · split
      · split
        · rw [pZ_so]; exact ih
        · rw [spkN_so, pZ_so]; exact ih
      · rw [spkN_so]; exact ih
theorem calm_so {L : Fa → Bool} {f : Nat} {A : AT} {k : Nat} (h : so A k = true) : so (calmD L f A) k = true := by
  unfold calmD dyA dyE
  show so (askN _ _) k = true
  refine askN_so ?_ _
  rw [dyH_so, freN_so]
  exact h
theorem calms_so {L : Fa → Bool} {f : Nat} {A : AT} {k m : Nat} : ∀ {n : Nat}, m ≤ n → so (itN (calmD L f) m A) k = true → so (itN (calmD L f) n A) k = true
  | 0, h, e => by rw [show m = 0 by omega] at e; exact e
  | n + 1, h, e => by
    by_cases c : m = n + 1
    · rw [c] at e; exact e
    · exact calm_so (calms_so (by omega) e)
/-! ===== the model's keeping and bringing back ===== -/
section OP
variable {V : VT} {i : Nat} {A : AT} {L : Fa → Bool}
theorem m_keepsAll : fX10_keepsAll V = some (va_up V 79 (fa_fill (V 76) (V 79) 314)) := by
  unfold fX10_keepsAll
  have e := lq (f := iX10_keepsAll_L2) (r := va_up V 79 (fa_fill (V 76) (V 79) 314)) (fun k => va_up V 79 (fa_fill (V 76) (V 79) k)) (fun a k => (a, nI k)) 314 (by omega)
    (by
      intro k hk
      unfold iX10_keepsAll_L2 fX10_keepsAll_L2
      simp only []
      rw [if_neg (show ¬ (314 : Int32) ≤ nI k from nI_ge (b := 314) hk (by omega)), q_rd (by omega) (by omega), q_rd (by omega) (by omega), nI_clamp (by omega), va_s, va_n (show (76 : Nat) ≠ 79 by omega), va_uu, q_lt, q_lt, nI_1, fa_fill_succ])
    (by
      unfold iX10_keepsAll_L2 fX10_keepsAll_L2
      simp only []
      rw [if_pos (show (314 : Int32) ≤ nI 314 from nI_le (Nat.le_refl _) (by omega))])
  simp only [fa_fill_0, va_self] at e
  have e : it_ iX10_keepsAll_L2 FV (V, 0) = _ := e
  rw [e, q_R]
theorem m_bringsBack : fX10_bringsBack V = some (va_up V 76 (fa_fill (V 79) (V 76) 314)) := by
  unfold fX10_bringsBack
  have e := lq (f := iX10_bringsBack_L2) (r := va_up V 76 (fa_fill (V 79) (V 76) 314)) (fun k => va_up V 76 (fa_fill (V 79) (V 76) k)) (fun a k => (a, nI k)) 314 (by omega)
    (by
      intro k hk
      unfold iX10_bringsBack_L2 fX10_bringsBack_L2
      simp only []
      rw [if_neg (show ¬ (314 : Int32) ≤ nI k from nI_ge (b := 314) hk (by omega)), q_rd (by omega) (by omega), q_rd (by omega) (by omega), nI_clamp (by omega), va_s, va_n (show (79 : Nat) ≠ 76 by omega), va_uu, q_lt, q_lt, nI_1, fa_fill_succ])
    (by
      unfold iX10_bringsBack_L2 fX10_bringsBack_L2
      simp only []
      rw [if_pos (show (314 : Int32) ≤ nI 314 from nI_le (Nat.le_refl _) (by omega))])
  simp only [fa_fill_0, va_self] at e
  have e : it_ iX10_bringsBack_L2 FV (V, 0) = _ := e
  rw [e, q_R]
/-- what a trial of the model's leaves changed -/
def Mk (V V' : VT) : Prop := (∀ j, j ≠ 22 → j ≠ 79 → j ≠ 83 → V' j = V j) ∧ ∀ k, k < 18 ∨ 24 < k → V' 22 k = V 22 k
theorem Mk.rf {V : VT} : Mk V V := ⟨fun _ _ _ _ => rfl, fun _ _ => rfl⟩
theorem Mk.tr {V V1 V2 : VT} (h1 : Mk V V1) (h2 : Mk V1 V2) : Mk V V2 := ⟨fun j a b c => (h2.1 j a b c).trans (h1.1 j a b c), fun k hk => (h2.2 k hk).trans (h1.2 k hk)⟩
theorem Mk.m {V V' : VT} (h : Mk V V') : Ms V V' := ⟨fun j a _ _ b c => h.1 j a b (by omega), fun k _ => by rw [h.1 76 (by omega) (by omega) (by omega)], h.2 6 (by omega), h.2 7 (by omega), h.2 9 (by omega), h.2 14 (by omega)⟩
theorem MT.k {V V' : VT} (h : MT V A L) (hk : Mk V V') : MT V' A L := h.w (hk.1 76 (by omega) (by omega) (by omega))
theorem m_ansk {o : Option (Int32 × VT)} {V : VT} {x : Int32} (h : ∃ V2, o = some (x, V2) ∧ Mk (t0 V) V2) : ∃ V2, o = some (x, V2) ∧ Ms V V2 ∧ V2 22 0 = 0 := by
  obtain ⟨V2, e, hq⟩ := h
  exact ⟨V2, e, t0_m.tr hq.m, (hq.2 0 (by omega)).trans t0_0⟩
/-- the trial's keep: the world is kept beside -/
def Kp (V V1 : VT) : Prop := (∀ k, k < 314 → V1 79 k = V 76 k) ∧ (∀ j, j ≠ 22 → j ≠ 76 → j ≠ 79 → j ≠ 83 → V1 j = V j) ∧ (∀ k, 314 ≤ k → V1 76 k = V 76 k) ∧ ∀ k, k < 18 ∨ 24 < k → V1 22 k = V 22 k
theorem Kp.d {V V1 V2 : VT} (h : Kp V V1) (hd : Md V1 V2) : Kp V V2 := ⟨fun k hk => by rw [hd.1 79 (by omega) (by omega) (by omega)]; exact h.1 k hk, fun j a b c d => (hd.1 j a b d).trans (h.2.1 j a b c d), fun k hk => (hd.2.1 k hk).trans (h.2.2.1 k hk), fun k hk => (hd.2.2 k hk).trans (h.2.2.2 k hk)⟩
theorem kp_keep (hT : MT V A L) : ∃ V1, fX10_keepsAll V = some V1 ∧ Kp V V1 ∧ MT V1 A L := by
  refine ⟨_, m_keepsAll, ⟨fun k hk => by rw [va_s, fa_fill_in hk], fun j _ _ c _ => va_n c, fun k _ => by rw [va_n (by omega)], fun k _ => by rw [va_n (by omega)]⟩, hT.w (va_n (by omega))⟩
theorem kp_back {V1 : VT} (h : Kp V V1) (hT : MT V A L) : ∃ V2, fX10_bringsBack V1 = some V2 ∧ Kp V V2 ∧ Mk V V2 ∧ MT V2 A L := by
  have e76 : va_up V1 76 (fa_fill (V1 79) (V1 76) 314) 76 = V 76 := by
    rw [va_s]
    funext k
    by_cases hk : k < 314
    · rw [fa_fill_in hk]; exact h.1 k hk
    · rw [fa_fill_out (by omega)]; exact h.2.2.1 k (by omega)
  refine ⟨_, m_bringsBack, ⟨fun k hk => by rw [va_n (by omega)]; exact h.1 k hk, fun j a b c d => by rw [va_n b]; exact h.2.1 j a b c d, fun k _ => by rw [e76], fun k hk => by rw [va_n (by omega)]; exact h.2.2.2 k hk⟩, ⟨fun j a b c => ?_, fun k hk => by rw [va_n (by omega)]; exact h.2.2.2 k hk⟩, hT.w e76⟩
  by_cases ej : j = 76
  · rw [ej]; exact e76
  · rw [va_n ej]; exact h.2.1 j a ej b c
theorem m_soOnes (hT : MT V A L) : fX10_soOnes V = some (nI (bs (so A) (aS A 1))) := by
  have h1 := hT.2.1.1.2.1
  unfold fX10_soOnes
  have e := lq (f := iX10_soOnes_L4 V) (r := nI (bs (so A) (aS A 1))) (fun k => bs (so A) k) (fun a k => (nI a, nI k)) (aS A 1) (by omega)
    (by
      intro k hk
      unfold iX10_soOnes_L4 fX10_soOnes_L4
      simp only []
      rw [m_deeds hT.1, q_R, if_neg (nI_ge hk (by omega)), m_isSo hT.1 hT.2.1 hk, q_R, q_ifb]
      cases hs : so A k
      · rw [if_neg (by decide), bs_sf hs, q_lit, q_or, Nat.or_zero, q_lt, nI_1, q_lt]
      · rw [if_pos rfl, q_shl (by omega), bs_st hs, q_lt, nI_1, q_lt])
    (by
      unfold iX10_soOnes_L4 fX10_soOnes_L4
      simp only []
      rw [m_deeds hT.1, q_R, if_pos (nI_le (Nat.le_refl _) (by omega))])
  have e : it_ (iX10_soOnes_L4 V) FV (0, 0) = _ := e
  rw [e, q_R]
theorem Cd.cs {V V' : VT} (h : Cd 3 V V') : Cs V V' := ⟨fun j a b c d e f g h' i k l => h.1 j ⟨b, e, f, g⟩ c, by rw [h.1 1 ⟨by omega, by omega, by omega, by omega⟩ (by omega)], h.2⟩
theorem CT.two {V V' : VT} (h : CT V 2 A L) (hs : Cs V V') : CT V' 2 A L := ⟨h.1.w (hs.e (by omega)) (hs.e (by omega)) (hs.e (by omega)) (hs.e (by omega)), h.2.1, by rw [hs.2.2 2 (by omega), hs.2.2 1 (by omega), hs.e (j := 69) (by omega)]; exact h.2.2.1, by omega⟩
/-! ===== numbers that begin at 1 ===== -/
def ix1 (x : Int32) (n : Nat) : Bool := decide (¬ x < 1 ∧ x < nI (n + 1))
theorem ix1_t {x : Int32} {n : Nat} (hn : n < 2 ^ 30) (h : ix1 x n = true) : ∃ j, 1 ≤ j ∧ j ≤ n ∧ x = nI j := by
  have h := of_decide_eq_true h
  have h0 : ¬ x < 0 := by
    rw [fa_lt] at h ⊢
    have e1 : (1 : Int32).toInt = 1 := by decide
    have e0 : (0 : Int32).toInt = 0 := by decide
    omega
  obtain ⟨j, hj, rfl⟩ := nI_of h0
  have h2 := (nI_ltI hj (by omega)).1 h.2
  have h1 : ¬ j < 1 := fun e => h.1 (nI_lt (b := 1) e (by omega))
  exact ⟨j, by omega, by omega, rfl⟩
theorem n_num1 {V : VT} (x : Int32) {n : Nat} (hn : n < 2 ^ 30) : fX9_needNumber V x 1 (nI n) = some (if ix1 x n then .inr () else .inl "java/lang/IllegalArgumentException") := by
  unfold fX9_needNumber fX9_needNumber_j10 ix1
  by_cases h1 : x < 1
  · simp [h1]
  · by_cases h2 : x ≤ nI n
    · have h3 := (q_le1 hn).1 h2
      simp [h1, h2, h3]
    · have h3 : ¬ x < nI (n + 1) := fun h => h2 ((q_le1 hn).2 h)
      simp [h1, h2, h3]
theorem m_ix11 {V : VT} (x : Int32) {n : Nat} (hn : n < 2 ^ 30) : fX10_in V x 1 (nI n) = some (bI (ix1 x n)) := by
  unfold fX10_in ix1
  by_cases h1 : x < 1
  · simp [h1, q_zo0, bI]
  · by_cases h2 : nI n < x
    · have h3 : ¬ x < nI (n + 1) := fun h => by
        have := (q_le1 hn).2 h
        rw [fa_le] at this
        rw [fa_lt] at h2
        omega
      rw [if_neg h1, if_pos h2, q_zo0]; simp [h1, h3, bI]
    · have h3 : x < nI (n + 1) := (q_le1 hn).1 (fa_of_nlt h2)
      rw [if_neg h1, if_neg h2, q_zo1]; simp [h1, h3, bI]
/-! ===== days ===== -/
theorem op_days {cd : String → Int32} (hI : INV V) (h1 : cd IAE = 1) (x1 : Int32) : OpE (fun V => fX9_days V x1) (fun V => fX10_days V x1) cd V := by
  obtain ⟨g, hC, hM⟩ := hI
  by_cases b1 : ix1 x1 60 = true
  · obtain ⟨n, hn1, hn, rfl⟩ := ix1_t (by omega) b1
    refine op_a hC hM (nI (aS (itN (drawD (xL g)) n (xA g)) 7) - nI (aS (xA g) 7)) (itN (drawD (xL g)) n (xA g)) (hC.2.1.draws n) (draws_S (by omega) (by omega) (by omega) (by omega)) ?_ ?_
    · intro V1 e1 hC1
      obtain ⟨V2, e2, hC2, hd2⟩ := lk (V := V1) (f := iX9_days_L28) (fun _ => ()) (fun V' _ k => (V', nI n, nI (aS (xA g) 7), nI k)) (fun V' _ => (.inr (nI (aS (itN (drawD (xL g)) n (xA g)) 7) - nI (aS (xA g) 7)), V')) (fun k V' => CT V' 2 (itN (drawD (xL g)) k (xA g)) (xL g) ∧ Cd 2 V1 V') n (by omega) ⟨hC1, Cd.rf⟩
        (by
          rintro k V' hk ⟨hC', hy⟩
          unfold iX9_days_L28 fX9_days_L28
          simp only []
          rw [if_neg (nI_ge hk (by omega))]
          obtain ⟨V3, e3, hC3, hy3⟩ := c_pass hC'
          rw [e3, q_R, q_lt, nI_1]
          exact ⟨V3, rfl, hC3, hy.tr hy3⟩)
        (by
          rintro V' ⟨hC', hy⟩
          unfold iX9_days_L28 fX9_days_L28
          simp only []
          rw [if_pos (nI_le (Nat.le_refl _) (by omega)), hC'.1.1.2.2.2.2.2.2.2.2.2])
      have e2 : it_ iX9_days_L28 FV (V1, nI n, nI (aS (xA g) 7), 0) = _ := e2
      refine ⟨V2, ?_, hC2.1, hd2⟩
      show fX9_days V _ = _
      unfold fX9_days
      rw [show (60 : Int32) = nI 60 from rfl, n_num1 _ (by omega), b1]
      simp only [if_true, q_N1]
      rw [e1, q_R, hC1.1.1.2.2.2.2.2.2.2.2.2, q_lt, e2, q_R]
    · intro V1 V2 hT e2 hT2
      obtain ⟨V3, e3, hC3, hd3⟩ := lk (V := V2) (f := iX10_days_L44) (fun _ => ()) (fun V' _ k => (V', nI n, nI (aS (xA g) 7), nI k)) (fun V' _ => (nI (aS (itN (drawD (xL g)) n (xA g)) 7) - nI (aS (xA g) 7), V')) (fun k V' => MT V' (itN (drawD (xL g)) k (xA g)) (xL g) ∧ Md V2 V') n (by omega) ⟨hT2, Md.rf⟩
        (by
          rintro k V' hk ⟨hC', hy⟩
          unfold iX10_days_L44 fX10_days_L44
          simp only []
          rw [if_neg (nI_ge hk (by omega))]
          obtain ⟨V3, e3, hC3, hy3⟩ := m_drawnDay hC'
          rw [e3, q_R, q_lt, nI_1]
          exact ⟨V3, rfl, hC3, hy.tr hy3⟩)
        (by
          rintro V' ⟨hC', hy⟩
          unfold iX10_days_L44 fX10_days_L44
          simp only []
          rw [if_pos (nI_le (Nat.le_refl _) (by omega)), q_rdl (by omega) (by omega), q_cl (by omega), hC'.1.1 7 (by omega)])
      have e3 : it_ iX10_days_L44 FV (V2, nI n, nI (aS (xA g) 7), 0) = _ := e3
      refine ⟨V3, ?_, hC3.1, hd3⟩
      show fX10_days V1 _ = _
      unfold fX10_days
      rw [q_lt, t0_e, show (60 : Int32) = nI 60 from rfl, m_ix11 _ (by omega), b1, q_R, if_neg (show ¬ bI true = 0 by decide)]
      unfold fX10_days_j21
      rw [m_thr0, q_I, if_pos rfl, e2, q_R, q_rdl (by omega) (by omega), q_cl (by omega), hT2.1.1 7 (by omega), q_lt, e3, q_R]
  · refine op_x hC hM IAE ?_ (m_thr ⟨0, ?_⟩)
    · show fX9_days V _ = _
      unfold fX9_days
      rw [show (60 : Int32) = nI 60 from rfl, n_num1 _ (by omega), nf b1]; rfl
    · show fX10_days V _ = _
      unfold fX10_days
      rw [q_lt, t0_e, show (60 : Int32) = nI 60 from rfl, m_ix11 _ (by omega), nf b1, q_R, if_pos (show bI false = 0 from rfl)]
      unfold fX10_days_j21
      rw [m_thr1, q_I, if_neg q_10, h1]
/-! ===== ahead ===== -/
theorem op_ahead {cd : String → Int32} (hI : INV V) (h1 : cd IAE = 1) (x1 x2 : Int32) : OpE (fun V => fX9_ahead V x1 x2) (fun V => fX10_ahead V x1 x2) cd V := by
  obtain ⟨g, hC, hM⟩ := hI
  by_cases b1 : ix x1 41 = true
  · by_cases b2 : ix x2 10 = true
    · obtain ⟨n, hn, rfl⟩ := ix_t (by omega) b1
      obtain ⟨f, hf, rfl⟩ := ix_t (by omega) b2
      have hS1 : aS (itN (calmD (xL g) f) n (xA g)) 1 = aS (xA g) 1 := calms_S (by omega) (by omega) (by omega) (by omega)
      refine op_q hC hM (nI (bs (so (itN (calmD (xL g) f) n (xA g))) (aS (xA g) 1))) ?_ ?_
      · obtain ⟨V6, e6, hC6, -, hs6⟩ := c_spare hC.t
        obtain ⟨V2, e2, hC2, hd2⟩ := lk (V := V6) (f := iX9_ahead_L27) (fun _ => ()) (fun V' _ k => (V', nI n, nI f, nI k)) (fun V' _ => (.inr (nI (bs (so (itN (calmD (xL g) f) n (xA g))) (aS (xA g) 1))), V')) (fun k V' => CT V' 3 (itN (calmD (xL g) f) k (xA g)) (xL g) ∧ Cd 3 V6 V') n (by omega) ⟨hC6, Cd.rf⟩
          (by
            rintro k V' hk ⟨hC', hy⟩
            unfold iX9_ahead_L27 fX9_ahead_L27
            simp only []
            rw [if_neg (nI_ge hk (by omega))]
            obtain ⟨V3, e3, hC3, hy3⟩ := c_passTold hC' (f := f) (by omega)
            rw [e3, q_R, q_lt, nI_1]
            exact ⟨V3, rfl, hC3, hy.tr hy3⟩)
          (by
            rintro V' ⟨hC', hy⟩
            unfold iX9_ahead_L27 fX9_ahead_L27
            simp only []
            rw [if_pos (nI_le (Nat.le_refl _) (by omega)), hC'.1.1.2.2.2.2.1, hS1])
        have e2 : it_ iX9_ahead_L27 FV (V6, nI n, nI f, 0) = _ := e2
        refine ⟨V2, ?_, hs6.tr hd2.cs⟩
        show fX9_ahead V _ _ = _
        unfold fX9_ahead
        rw [show (40 : Int32) = nI 40 from rfl, n_num _ (by omega), b1, show (9 : Int32) = nI 9 from rfl, n_num _ (by omega), b2]
        simp only [if_true, q_N1]
        rw [e6, q_R, e2, q_R]
      · intro V1 hM1
        have hT := hM1.t0
        apply m_ansk
        obtain ⟨V8, e8, hk8, hT8⟩ := kp_keep hT
        obtain ⟨r, e2, V2, rfl, hd2⟩ := it_for (F := FV) (f := iX10_ahead_L43) n (fun k s => ∃ V', s = (V', nI n, nI f, nI k) ∧ MT V' (itN (calmD (xL g) f) k (xA g)) (xL g) ∧ Kp (t0 V1) V') (fun r => ∃ V2, r = (nI (bs (so (itN (calmD (xL g) f) n (xA g))) (aS (xA g) 1)), V2) ∧ Mk (t0 V1) V2)
          (by
            rintro k s hk ⟨V', rfl, hC', hy⟩
            unfold iX10_ahead_L43 fX10_ahead_L43
            simp only []
            rw [if_neg (nI_ge hk (by omega))]
            obtain ⟨V3, e3, hC3, hy3⟩ := m_calmDay hC' (f := f) (by omega)
            rw [e3, q_R, q_lt, nI_1]
            exact ⟨_, rfl, V3, rfl, hC3, hy.d hy3⟩)
          (by
            rintro s ⟨V', rfl, hC', hy⟩
            obtain ⟨V3, e3, -, hm3, -⟩ := kp_back hy hT
            have hso := m_soOnes hC'
            rw [hS1] at hso
            unfold iX10_ahead_L43 fX10_ahead_L43
            simp only []
            rw [if_pos (nI_le (Nat.le_refl _) (by omega)), hso, q_R, e3, q_R]
            exact ⟨_, rfl, V3, rfl, hm3⟩) (by have := FV_ge; omega) (s := (V8, nI n, nI f, 0)) ⟨V8, rfl, hT8, hk8⟩
        refine ⟨V2, ?_, hd2⟩
        show fX10_ahead V1 _ _ = _
        unfold fX10_ahead
        rw [q_lt, t0_e, show (40 : Int32) = nI 40 from rfl, m_ix1 _ (by omega), b1, q_R, if_neg (show ¬ bI true = 0 by decide), m_noFog, b2, q_R, if_pos (show bI (!true) = 0 from rfl)]
        unfold fX10_ahead_j28
        rw [m_thr0, q_I, if_pos rfl, e8, q_R, e2, q_R]
    · refine op_x hC hM IAE ?_ (m_thr ⟨0, ?_⟩)
      · show fX9_ahead V _ _ = _
        unfold fX9_ahead
        rw [show (40 : Int32) = nI 40 from rfl, n_num _ (by omega), b1, show (9 : Int32) = nI 9 from rfl, n_num _ (by omega), nf b2]; rfl
      · show fX10_ahead V _ _ = _
        unfold fX10_ahead
        rw [q_lt, t0_e, show (40 : Int32) = nI 40 from rfl, m_ix1 _ (by omega), b1, q_R, if_neg (show ¬ bI true = 0 by decide), m_noFog, nf b2, q_R, if_neg (show ¬ bI (!false) = 0 by decide)]
        unfold fX10_ahead_j23 fX10_ahead_j28
        rw [m_thr1, q_I, if_neg q_10, h1]
  · refine op_x hC hM IAE ?_ (m_thr ⟨0, ?_⟩)
    · show fX9_ahead V _ _ = _
      unfold fX9_ahead
      rw [show (40 : Int32) = nI 40 from rfl, n_num _ (by omega), nf b1]; rfl
    · show fX10_ahead V _ _ = _
      unfold fX10_ahead
      rw [q_lt, t0_e, show (40 : Int32) = nI 40 from rfl, m_ix1 _ (by omega), nf b1, q_R, if_pos (show bI false = 0 from rfl)]
      unfold fX10_ahead_j23 fX10_ahead_j28
      rw [m_thr1, q_I, if_neg q_10, h1]
end OP
