/-! ===== acts of one house: mirror, up, spite ===== -/
abbrev ISE : String := "java/lang/IllegalStateException"
abbrev IAE : String := "java/lang/IllegalArgumentException"
abbrev UOE : String := "java/lang/UnsupportedOperationException"
abbrev NSE : String := "java/util/NoSuchElementException"
theorem m_at {V : VT} {h k : Nat} : fX10_at V (nI h) (nI k) = some (nI (10 + 8 * h + k)) := by
  unfold fX10_at
  rw [q_mulL, q_addL, nI_add]
theorem m_dat {V : VT} {h k : Nat} : fX10_deedAt V (nI h) (nI k) = some (nI (74 + 6 * h + k)) := by
  unfold fX10_deedAt
  rw [q_mulL, q_addL, nI_add]
theorem m_ix1 {V : VT} (x : Int32) {n : Nat} (hn : n + 1 < 2 ^ 30) : fX10_in V x 0 (nI n) = some (bI (ix x (n + 1))) := by
  have h := m_ix (V := V) x hn
  rw [nI_pred] at h
  exact h
/-- the model's put of a number of a house -/
theorem m_putH {V : VT} {A : AT} {L : Fa → Bool} (hT : MT V A L) {h k v : Nat} (hh : h < aS A 0) (hk : k < 8) : RM (va_up V 76 (upd (V 76) (10 + 8 * h + k) (nI v)) 76) (pH A h k v) ∧ Md V (va_up V 76 (upd (V 76) (10 + 8 * h + k) (nI v))) := by
  have h8 := hT.2.1.1.1
  exact ⟨by rw [va_s]; exact hT.1.h hT.2.1 (by omega) hk, Md.u (by omega)⟩
section OP
variable {V : VT} {cd : String → Int32}
theorem op_mirror (hI : INV V) (h1 : cd IOOB = 1) (h2 : cd ISE = 2) (x1 : Int32) : OpE (fun V => fX9_mirror V x1) (fun V => fX10_mirror V x1) cd V := by
  obtain ⟨g, hC, hM⟩ := hI
  have h8 := hC.2.1.1.1
  by_cases b1 : ix x1 (aS (xA g) 0) = true
  · obtain ⟨h, hh, rfl⟩ := ix_t (by omega) b1
    have hb := hC.2.1.2.1 h hh
    have e6 : fX6_ofHouse V 2 (nI h) 6 = some (nI (aH (xA g) h 6)) := c_ofHouse hC.1 hC.2.1 hh (k := 6) (by omega)
    have m6 : ∀ V1, MT V1 (xA g) (xL g) → fX10_of V1 (nI h) 6 = some (nI (aH (xA g) h 6)) := fun V1 hT => m_of hT.1 hT.2.1 hh (k := 6) (by omega)
    by_cases b3 : aH (xA g) h 6 < 3
    · refine op_a hC hM (nI (aH (xA g) h 6 + 1)) (pH (xA g) h 6 (aH (xA g) h 6 + 1)) (hC.2.1.hq (by omega) (by omega) (by omega) (by omega) (by omega) (by omega)) rfl ?_ ?_
      · intro V1 e1 hC1
        obtain ⟨V8, e8, hR8, hq8⟩ := c_setHouse (v := aH (xA g) h 6 + 1) hC1.1 hC1.2.1 (by omega) hh (k := 6) (by omega)
        have e8 : fX6_setHouse V1 2 (nI h) 6 (nI (aH (xA g) h 6 + 1)) = some V8 := e8
        refine ⟨V8, ?_, hR8, Cd.of (by omega) (Or.inr (Or.inl rfl)) hq8⟩
        show fX9_mirror V _ = _
        unfold fX9_mirror
        rw [n_house hC.1, b1]
        simp only [if_true, q_N1]
        rw [e6, q_R, if_pos (show nI (aH (xA g) h 6) < 3 from nI_lt (b := 3) b3 (by omega)), e1, q_R, nI_1, e8, q_R]
      · intro V1 V2 hT e2 hT2
        obtain ⟨hR, hd⟩ := m_putH (v := aH (xA g) h 6 + 1) hT2 hh (k := 6) (by omega)
        refine ⟨_, ?_, hR, hd⟩
        have hT3 := hT2.d hd hR (hC.2.1.hq (by omega) (by omega) (by omega) (by omega) (by omega) (by omega)) rfl
        have e20 : fX10_of (va_up V2 76 (upd (V2 76) (10 + 8 * h + 6) (nI (aH (xA g) h 6 + 1)))) (nI h) 6 = some (nI (aH (xA g) h 6 + 1)) := by
          have := m_of hT3.1 hT3.2.1 hh (k := 6) (by omega)
          rw [aH_p, if_pos ⟨rfl, rfl⟩] at this
          exact this
        show fX10_mirror V1 _ = _
        unfold fX10_mirror
        rw [q_lt, t0_e, m_noHouse hT.1 hT.2.1, b1, q_R, show bI (!true) = 0 from rfl, m_thr0, q_I, if_pos rfl, m6 _ hT, q_R, if_neg (show ¬ nI (aH (xA g) h 6) = 3 from fun e => by have := (nI_eq (b := 3) (by omega) (by omega)).1 e; omega)]
        unfold fX10_mirror_j35
        rw [m_thr0, q_I, if_pos rfl, e2, q_R, show fX10_at V2 (nI h) 6 = some (nI (10 + 8 * h + 6)) from m_at (k := 6), q_R, q_rd (by omega) (by omega), q_rd (by omega) (by omega), nI_clamp (by omega), hT2.1.2.2.1 h 6 hh (by omega), nI_1, q_lt, e20, q_R]
    · refine op_x hC hM ISE ?_ (m_thr ⟨0, ?_⟩)
      · show fX9_mirror V _ = _
        unfold fX9_mirror
        rw [n_house hC.1, b1]
        simp only [if_true, q_N1]
        rw [e6, q_R, if_neg (show ¬ nI (aH (xA g) h 6) < 3 from nI_nlt (b := 3) (by omega) (by omega))]
      · have hT := hM.t0
        show fX10_mirror V _ = _
        unfold fX10_mirror
        rw [q_lt, t0_e, m_noHouse hT.1 hT.2.1, b1, q_R, show bI (!true) = 0 from rfl, m_thr0, q_I, if_pos rfl, m6 _ hT, q_R, if_pos (show nI (aH (xA g) h 6) = 3 by rw [show aH (xA g) h 6 = 3 by omega]; rfl)]
        unfold fX10_mirror_j35
        rw [m_thr1, q_I, if_neg q_10, h2]
  · refine op_x hC hM IOOB ?_ (m_thr ⟨0, ?_⟩)
    · show fX9_mirror V _ = _
      unfold fX9_mirror
      rw [n_house hC.1, nf b1]; rfl
    · have hT := hM.t0
      show fX10_mirror V _ = _
      unfold fX10_mirror
      rw [q_lt, t0_e, m_noHouse hT.1 hT.2.1, nf b1, q_R, show bI (!false) = 1 from rfl, m_thr1, q_I, if_neg q_10, h1]
theorem op_spite (hI : INV V) (h1 : cd IOOB = 1) (h2 : cd IAE = 2) (x1 x2 : Int32) : OpE (fun V => fX9_spite V x1 x2) (fun V => fX10_spite V x1 x2) cd V := by
  obtain ⟨g, hC, hM⟩ := hI
  have h8 := hC.2.1.1.1
  by_cases b1 : ix x1 (aS (xA g) 0) = true
  · obtain ⟨h, hh, rfl⟩ := ix_t (by omega) b1
    have hb := hC.2.1.2.1 h hh
    have m5 : ∀ V1, MT V1 (xA g) (xL g) → fX10_of V1 (nI h) 5 = some (nI (aH (xA g) h 5)) := fun V1 hT => m_of hT.1 hT.2.1 hh (k := 5) (by omega)
    by_cases b2 : ix x2 10 = true
    · obtain ⟨n, hn, rfl⟩ := ix_t (by omega) b2
      refine op_a hC hM (nI (aH (xA g) h 5)) (pH (xA g) h 5 n) (hC.2.1.hq (by omega) (by omega) (by omega) (by omega) (by omega) (by omega)) rfl ?_ ?_
      · intro V1 e1 hC1
        have e5 : fX6_ofHouse V1 2 (nI h) 5 = some (nI (aH (xA g) h 5)) := c_ofHouse hC1.1 hC1.2.1 hh (k := 5) (by omega)
        obtain ⟨V8, e8, hR8, hq8⟩ := c_setHouse (v := n) hC1.1 hC1.2.1 (by omega) hh (k := 5) (by omega)
        have e8 : fX6_setHouse V1 2 (nI h) 5 (nI n) = some V8 := e8
        refine ⟨V8, ?_, hR8, Cd.of (by omega) (Or.inr (Or.inl rfl)) hq8⟩
        show fX9_spite V _ _ = _
        unfold fX9_spite
        rw [n_house hC.1, b1, show (9 : Int32) = nI 9 from rfl, n_num _ (by omega), b2]
        simp only [if_true, q_N1]
        rw [e1, q_R, e5, q_R, e8, q_R]
      · intro V1 V2 hT e2 hT2
        obtain ⟨hR, hd⟩ := m_putH (v := n) hT2 hh (k := 5) (by omega)
        refine ⟨_, ?_, hR, hd⟩
        show fX10_spite V1 _ _ = _
        unfold fX10_spite
        rw [q_lt, t0_e, m_noHouse hT.1 hT.2.1, b1, q_R, show bI (!true) = 0 from rfl, m_thr0, q_I, if_pos rfl, show (9 : Int32) = nI 9 from rfl, m_ix1 _ (by omega), b2, q_R, if_neg (show ¬ bI true = 0 by decide)]
        unfold fX10_spite_j34
        rw [m_thr0, q_I, if_pos rfl, e2, q_R, m5 _ hT2, q_R, show fX10_at V2 (nI h) 5 = some (nI (10 + 8 * h + 5)) from m_at (k := 5), q_R, q_rd (by omega) (by omega), nI_clamp (by omega), q_lt]
    · refine op_x hC hM IAE ?_ (m_thr ⟨0, ?_⟩)
      · show fX9_spite V _ _ = _
        unfold fX9_spite
        rw [n_house hC.1, b1, show (9 : Int32) = nI 9 from rfl, n_num _ (by omega), nf b2]; rfl
      · have hT := hM.t0
        show fX10_spite V _ _ = _
        unfold fX10_spite
        rw [q_lt, t0_e, m_noHouse hT.1 hT.2.1, b1, q_R, show bI (!true) = 0 from rfl, m_thr0, q_I, if_pos rfl, show (9 : Int32) = nI 9 from rfl, m_ix1 _ (by omega), nf b2, q_R, if_pos (show bI false = 0 from rfl)]
        unfold fX10_spite_j34
        rw [m_thr1, q_I, if_neg q_10, h2]
  · refine op_x hC hM IOOB ?_ (m_thr ⟨0, ?_⟩)
    · show fX9_spite V _ _ = _
      unfold fX9_spite
      rw [n_house hC.1, nf b1]; rfl
    · have hT := hM.t0
      show fX10_spite V _ _ = _
      unfold fX10_spite
      rw [q_lt, t0_e, m_noHouse hT.1 hT.2.1, nf b1, q_R, show bI (!false) = 1 from rfl, m_thr1, q_I, if_neg q_10, h1]
theorem op_up (hI : INV V) (h1 : cd IOOB = 1) (h2 : cd IAE = 2) (x1 x2 x3 : Int32) : OpE (fun V => fX9_up V x1 x2 x3) (fun V => fX10_up V x1 x2 x3) cd V := by
  obtain ⟨g, hC, hM⟩ := hI
  have h8 := hC.2.1.1.1
  by_cases b1 : ix x1 (aS (xA g) 0) = true
  · obtain ⟨h, hh, rfl⟩ := ix_t (by omega) b1
    have hb := hC.2.1.2.1 h hh
    have m4 : ∀ V1, MT V1 (xA g) (xL g) → fX10_of V1 (nI h) 4 = some (nI (aH (xA g) h 4)) := fun V1 hT => m_of hT.1 hT.2.1 hh (k := 4) (by omega)
    by_cases b2 : ix x2 24 = true
    · by_cases b3 : ix x3 25 = true
      · obtain ⟨t, ht, rfl⟩ := ix_t (by omega) b2
        obtain ⟨n, hn, rfl⟩ := ix_t (by omega) b3
        have hW1 : WA (pH (xA g) h 3 t) := hC.2.1.hq (by omega) (by omega) (by omega) (by omega) (by omega) (by omega)
        refine op_a hC hM (nI (aH (xA g) h 4)) (pH (pH (xA g) h 3 t) h 4 n) (hW1.hq (by omega) (by omega) (by omega) (by omega) (by omega) (by omega)) rfl ?_ ?_
        · intro V1 e1 hC1
          have e4 : fX6_ofHouse V1 2 (nI h) 4 = some (nI (aH (xA g) h 4)) := c_ofHouse hC1.1 hC1.2.1 hh (k := 4) (by omega)
          obtain ⟨V8, e8, hR8, hq8⟩ := c_setHouse (v := t) hC1.1 hC1.2.1 (by omega) hh (k := 3) (by omega)
          have e8 : fX6_setHouse V1 2 (nI h) 3 (nI t) = some V8 := e8
          obtain ⟨V9, e9, hR9, hq9⟩ := c_setHouse (v := n) hR8 hW1 (by omega) hh (k := 4) (by omega)
          have e9 : fX6_setHouse V8 2 (nI h) 4 (nI n) = some V9 := e9
          refine ⟨V9, ?_, hR9, (Cd.of (by omega) (Or.inr (Or.inl rfl)) hq8).tr (Cd.of (by omega) (Or.inr (Or.inl rfl)) hq9)⟩
          show fX9_up V _ _ _ = _
          unfold fX9_up
          rw [n_house hC.1, b1, n_hour, b2, show (24 : Int32) = nI 24 from rfl, n_num _ (by omega), b3]
          simp only [if_true, q_N1]
          rw [e1, q_R, e4, q_R, e8, q_R, e9, q_R]
        · intro V1 V2 hT e2 hT2
          obtain ⟨hR, hd⟩ := m_putH (v := t) hT2 hh (k := 3) (by omega)
          have hT3 := hT2.d hd hR hW1 rfl
          obtain ⟨hR3, hd3⟩ := m_putH (v := n) hT3 hh (k := 4) (by omega)
          refine ⟨_, ?_, hR3, hd.tr hd3⟩
          show fX10_up V1 _ _ _ = _
          unfold fX10_up
          rw [q_lt, t0_e, m_noHouse hT.1 hT.2.1, b1, q_R, show bI (!true) = 0 from rfl, if_pos rfl, m_noHour, b2, q_R, show bI (!true) = 0 from rfl, if_pos rfl]
          unfold fX10_up_j26
          rw [m_thr0, q_I, if_pos rfl, show (24 : Int32) = nI 24 from rfl, m_ix1 _ (by omega), b3, q_R, if_neg (show ¬ bI true = 0 by decide)]
          unfold fX10_up_j49
          rw [m_thr0, q_I, if_pos rfl, e2, q_R, m4 _ hT2, q_R, show fX10_at V2 (nI h) 3 = some (nI (10 + 8 * h + 3)) from m_at (k := 3), q_R, q_rd (by omega) (by omega), nI_clamp (by omega), q_lt, show fX10_at (va_up V2 76 (upd (V2 76) (10 + 8 * h + 3) (nI t))) (nI h) 4 = some (nI (10 + 8 * h + 4)) from m_at (k := 4), q_R, q_rd (by omega) (by omega), nI_clamp (by omega), q_lt]
      · refine op_x hC hM IAE ?_ (m_thr ⟨0, ?_⟩)
        · show fX9_up V _ _ _ = _
          unfold fX9_up
          rw [n_house hC.1, b1, n_hour, b2, show (24 : Int32) = nI 24 from rfl, n_num _ (by omega), nf b3]; rfl
        · have hT := hM.t0
          show fX10_up V _ _ _ = _
          unfold fX10_up
          rw [q_lt, t0_e, m_noHouse hT.1 hT.2.1, b1, q_R, show bI (!true) = 0 from rfl, if_pos rfl, m_noHour, b2, q_R, show bI (!true) = 0 from rfl, if_pos rfl]
          unfold fX10_up_j26
          rw [m_thr0, q_I, if_pos rfl, show (24 : Int32) = nI 24 from rfl, m_ix1 _ (by omega), nf b3, q_R, if_pos (show bI false = 0 from rfl)]
          unfold fX10_up_j49
          rw [m_thr1, q_I, if_neg q_10, h2]
    · refine op_x hC hM IOOB ?_ (m_thr ⟨0, ?_⟩)
      · show fX9_up V _ _ _ = _
        unfold fX9_up
        rw [n_house hC.1, b1, n_hour, nf b2]; rfl
      · have hT := hM.t0
        show fX10_up V _ _ _ = _
        unfold fX10_up
        rw [q_lt, t0_e, m_noHouse hT.1 hT.2.1, b1, q_R, show bI (!true) = 0 from rfl, if_pos rfl, m_noHour, nf b2, q_R, show bI (!false) = 1 from rfl, if_neg q_10]
        unfold fX10_up_j21 fX10_up_j26
        rw [m_thr1, q_I, if_neg q_10, h1]
  · refine op_x hC hM IOOB ?_ (m_thr ⟨0, ?_⟩)
    · show fX9_up V _ _ _ = _
      unfold fX9_up
      rw [n_house hC.1, nf b1]; rfl
    · have hT := hM.t0
      show fX10_up V _ _ _ = _
      unfold fX10_up
      rw [q_lt, t0_e, m_noHouse hT.1 hT.2.1, nf b1, q_R, show bI (!false) = 1 from rfl, if_neg q_10]
      unfold fX10_up_j21 fX10_up_j26
      rw [m_thr1, q_I, if_neg q_10, h1]
/-! ===== seed, fault, end ===== -/
theorem op_seed (hI : INV V) (x1 : Int32) : OpI (fun V => fX9_seed V x1) (fun V => fX10_seed V x1) V := by
  obtain ⟨g, hC, hM⟩ := hI
  refine op_gi (g := g) (g' := sA g (pZ (xA g) x1)) hM (aZ (xA g)) ?_ ?_
  · refine ⟨va_up V 2 (upd (V 2) 11 x1), ?_, hC.A (hC.1.seed (by omega) x1) (hC.2.1.seed x1) (Cd.u (by omega) (Or.inl rfl)), va_n (by omega), fun j hj => va_n (by omega)⟩
    show fX9_seed V x1 = _
    unfold fX9_seed
    rw [q_lt, q_lt, hC.1.1.2.2.2.2.2.2.2.2.1]
  · intro V1 hM1
    have hT := hM1.t0
    refine ⟨va_up (t0 V1) 76 (upd ((t0 V1) 76) 9 x1), ?_, (hM1.m t0_m).A (by rw [va_s]; exact hT.1.z x1) (hC.2.1.seed x1) rfl (Md.u (by omega)), fun j hj h22 => ?_⟩
    · show fX10_seed V1 x1 = _
      unfold fX10_seed
      rw [q_lt, t0_e, q_rdl (by omega) (by omega), q_cl (by omega), q_lt, hT.1.2.1, q_rdl (by omega) (by omega), q_lt]
    · rw [va_n (by omega)]
      exact va_n h22
theorem op_fault (hI : INV V) : OpI (fun V => ob_R (fX9_fault V) fun y => some (y, V)) (fun V => fX10_fault V) V := by
  obtain ⟨g, hC, hM⟩ := hI
  refine op_i hC hM (xf g) ⟨V, ?_, Cs.rf⟩ ?_
  · show ob_R (fX9_fault V) _ = _
    unfold fX9_fault
    rw [q_R, hC.2.2.2.2.2.1]
  · intro V1 hM1
    refine ⟨t0 V1, ?_, t0_m⟩
    show fX10_fault V1 = _
    unfold fX10_fault
    rw [q_lt, t0_e, (hM1.m t0_m).2.2.2.2.2.1]
def tpG (g : GA) (n : Nat) (b : Nat → Int32) : GA := (g.1, g.2.1, (n, b), g.2.2.2)
theorem CIN.tape {g : GA} {V' : VT} {n : Nat} {b : Nat → Int32} (h : CIN V g) (e : ∀ j, j ≠ 1 → j ≠ 23 → V' j = V j) (e1 : V' 1 1 = nI n) (hn : n ≤ 400) (eb : ∀ k, k < 400 → V' 23 k = b k) (hb : ∀ k, k < 400 → by_ (b k)) : CIN V' (tpG g n b) := by
  obtain ⟨h1, h2, h3, h4, h5, h6, h7, h8, h9, h10, nx, h11, h12, h13⟩ := h
  refine ⟨h1.w (e _ (by omega) (by omega)) (e _ (by omega) (by omega)) (e _ (by omega) (by omega)) (e _ (by omega) (by omega)), h2, by rw [e 17 (by omega) (by omega)]; exact h3, by rw [e 17 (by omega) (by omega), e 69 (by omega) (by omega)]; exact h4, ⟨e1, hn, eb, hb⟩, by rw [e 0 (by omega) (by omega)]; exact h6, by rw [e 0 (by omega) (by omega)]; exact h7, fun hk => ?_, h9, by rw [e 20 (by omega) (by omega)]; exact h10, nx, h11, by rw [e 20 (by omega) (by omega)]; exact h12, fun j hj => ⟨(h13 j hj).1.w (e _ (by omega) (by omega)) (e _ (by omega) (by omega)) (e _ (by omega) (by omega)) (e _ (by omega) (by omega)), (h13 j hj).2⟩⟩
  obtain ⟨x1, x2, x3, x4⟩ := h8 hk
  exact ⟨x1.w (e _ (by omega) (by omega)) (e _ (by omega) (by omega)) (e _ (by omega) (by omega)) (e _ (by omega) (by omega)), x2, by rw [e 19 (by omega) (by omega)]; exact x3, by rw [e 19 (by omega) (by omega), e 71 (by omega) (by omega)]; exact x4⟩
theorem MIN.tape {g : GA} {V' : VT} {n : Nat} {b : Nat → Int32} (h : MIN V g) (e : ∀ j, j ≠ 22 → j ≠ 81 → j ≠ 82 → V' j = V j) (e6 : V' 22 6 = V 22 6) (e7 : V' 22 7 = V 22 7) (e14 : V' 22 14 = V 22 14) (e1 : V' 22 9 = nI n) (hn : n ≤ 400) (eb : ∀ k, k < 400 → V' 81 k = b k) (hb : ∀ k, k < 400 → by_ (b k)) : MIN V' (tpG g n b) := by
  obtain ⟨h1, h2, h3, h4, h5, h6, h7, h8, h9, h10, h11⟩ := h
  have a76 := e 76 (by omega) (by omega) (by omega)
  exact ⟨by rw [a76]; exact h1, h2, by rw [a76]; exact h3, by rw [a76]; exact h4, ⟨e1, hn, eb, hb⟩, by rw [e14]; exact h6, by rw [e6]; exact h7, by rw [e 77 (by omega) (by omega) (by omega)]; exact h8, h9, by rw [e7]; exact h10, by rw [e 80 (by omega) (by omega) (by omega)]; exact h11⟩
theorem op_end (hI : INV V) (x1 : Int32) : OpI (fun V => fX9_end V x1) (fun V => fX10_end V x1) V := by
  obtain ⟨g, hC, hM⟩ := hI
  obtain ⟨c1, c2, c3, c4⟩ := hC.2.2.2.2.1
  have no : (¬ (¬ x1 < 0 ∧ x1 ≤ nI (xn g))) → OpI (fun V => fX9_end V x1) (fun V => fX10_end V x1) V := by
    intro hn
    refine op_i hC hM 0 ⟨V, ?_, Cs.rf⟩ ?_
    · show fX9_end V x1 = _
      unfold fX9_end
      rw [c1, q_zo0]
      by_cases a : x1 < 0
      · rw [if_pos a]
      · rw [if_neg a, if_neg (fun e => hn ⟨a, e⟩)]
    · intro V1 hM1
      refine ⟨t0 V1, ?_, t0_m⟩
      show fX10_end V1 x1 = _
      unfold fX10_end
      rw [q_lt, t0_e, (hM1.m t0_m).2.2.2.2.1.1, q_zo0]
      by_cases a : x1 < 0
      · rw [if_pos a]
      · rw [if_neg a, if_neg (fun e => hn ⟨a, e⟩)]
  by_cases a : x1 < 0
  · exact no (fun h => h.1 a)
  · by_cases b : x1 ≤ nI (xn g)
    · obtain ⟨n, hn, rfl⟩ := nI_of a
      have hle : n ≤ xn g := (nI_leI hn (by omega)).1 b
      refine op_gi (g := g) (g' := tpG g n (xb g)) hM 1 ⟨va_up V 1 (upd (V 1) 1 (nI n)), ?_, hC.tape (fun j a _ => va_n a) (by rw [va_s, pk_us]) (by omega) (by rw [va_n (by omega)]; exact c3) c4, va_n (by omega), fun j hj => va_n (by omega)⟩ ?_
      · show fX9_end V _ = _
        unfold fX9_end
        rw [c1, if_neg a, if_pos b, q_lt, q_zo1]
      · intro V1 hM1
        have hM2 := hM1.m t0_m
        obtain ⟨d1, d2, d3, d4⟩ := hM2.2.2.2.2.1
        refine ⟨va_up (t0 V1) 22 (upd ((t0 V1) 22) 9 (nI n)), ?_, hM2.tape (fun j a _ _ => va_n a) (by rw [va_s, pk_un (by omega)]) (by rw [va_s, pk_un (by omega)]) (by rw [va_s, pk_un (by omega)]) (by rw [va_s, pk_us]) (by omega) (by rw [va_n (by omega)]; exact d3) d4, fun j hj h22 => by rw [va_n h22]; exact va_n h22⟩
        show fX10_end V1 _ = _
        unfold fX10_end
        rw [q_lt, t0_e, d1, if_neg a, if_pos b, q_lt, q_zo1]
    · exact no (fun h => b h.2)
end OP
