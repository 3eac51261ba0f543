/-! ===== calls that only ask: windows and hours ===== -/
theorem m_thr1 {V : VT} (c : Int32) : fX10_throwsIf V 1 c = some (1, va_up V 22 (upd (V 22) 0 c)) := m_throwsIf true c
theorem m_thr0 {V : VT} (c : Int32) : fX10_throwsIf V 0 c = some (0, V) := m_throwsIf false c
theorem q_10 : ¬ (1 : Int32) = 0 := by decide
theorem q_N1 {β : Type} {u : Unit} {kx : String → Option β} {k : Option β} : ob_N (some (.inr u)) kx k = k := rfl
theorem q_N0 {β : Type} {E : String} {kx : String → Option β} {k : Option β} : ob_N (some (.inl E)) kx k = kx E := rfl
/-- nothing is thrown yet -/
def t0 (V : VT) : VT := va_up V 22 (upd (V 22) 0 0)
theorem t0_e {V : VT} : va_up V 22 (upd (V 22) 0 0) = t0 V := rfl
theorem t0_m {V : VT} : Ms V (t0 V) := Ms.n (by omega) (by omega) (by omega) (by omega)
theorem t0_0 {V : VT} : t0 V 22 0 = 0 := by unfold t0; rw [va_s, pk_us]
theorem tc_m {V : VT} {c : Int32} : Ms V (va_up V 22 (upd (V 22) 0 c)) := Ms.n (by omega) (by omega) (by omega) (by omega)
theorem tc_0 {V : VT} {c : Int32} : va_up V 22 (upd (V 22) 0 c) 22 0 = c := by rw [va_s, pk_us]
def Mq (V V' : VT) : Prop := (∀ j, j ≠ 22 → (j < 83 ∨ 87 < j) → V' j = V j) ∧ ∀ k, k < 18 ∨ 24 < k → V' 22 k = V 22 k
theorem Mq.rf {V : VT} : Mq V V := ⟨fun _ _ _ => rfl, fun _ _ => rfl⟩
theorem Mq.tr {V V1 V2 : VT} (h1 : Mq V V1) (h2 : Mq V1 V2) : Mq V V2 := ⟨fun j a b => (h2.1 j a b).trans (h1.1 j a b), fun k hk => (h2.2 k hk).trans (h1.2 k hk)⟩
theorem My.q {V V' : VT} (h : My V V') : Mq V V' := ⟨fun j a b => h.1 j a (by omega), h.2⟩
theorem Mq.a {V : VT} {j : Nat} {f : Nat → Int32} (h : 83 ≤ j) (h2 : j ≤ 87) : Mq V (va_up V j f) := ⟨fun i _ b => va_n (by omega), fun k _ => by rw [va_n (by omega)]⟩
theorem Mq.m {V V' : VT} (h : Mq V V') : Ms V V' := ⟨fun j a _ _ _ b => h.1 j a (by omega), fun k _ => by rw [h.1 76 (by omega) (by omega)], h.2 6 (by omega), h.2 7 (by omega), h.2 9 (by omega), h.2 14 (by omega)⟩
theorem MT.q {V V' : VT} {A : AT} {L : Fa → Bool} (h : MT V A L) (hq : Mq V V') : MT V' A L := h.m hq.m
/-- the model answers a question -/
theorem m_ans {o : Option (Int32 × VT)} {V : VT} {x : Int32} (h : ∃ V2, o = some (x, V2) ∧ Mq (t0 V) V2) : ∃ V2, o = some (x, V2) ∧ Ms V V2 ∧ V2 22 0 = 0 := by
  obtain ⟨V2, e, hq⟩ := h
  exact ⟨V2, e, t0_m.tr hq.m, (hq.2 0 (by omega)).trans t0_0⟩
/-- the model throws -/
theorem m_thr {o : Option (Int32 × VT)} {V : VT} {c : Int32} (h : ∃ b, o = some (b, va_up (t0 V) 22 (upd (t0 V 22) 0 c))) : ∃ b V2, o = some (b, V2) ∧ Ms V V2 ∧ V2 22 0 = c := by
  obtain ⟨b, e⟩ := h
  exact ⟨b, _, e, t0_m.tr tc_m, tc_0⟩
section OP
variable {V : VT} {cd : String → Int32}
theorem MIN.t0 {g : GA} (hM : MIN V g) : MT (t0 V) (xA g) (xL g) := (hM.m t0_m).t
theorem nf {b : Bool} (h : ¬ b = true) : b = false := by cases b; rfl; exact absurd rfl h
theorem op_sees (hI : INV V) (h1 : cd IOOB = 1) (x1 x2 x3 : Int32) : OpE (fun V => fX9_sees V x1 x2 x3) (fun V => fX10_sees V x1 x2 x3) cd V := by
  obtain ⟨g, hC, hM⟩ := hI
  have h8 := hC.2.1.1.1
  by_cases b1 : ix x1 (aS (xA g) 0) = true
  · by_cases b2 : ix x2 24 = true
    · by_cases b3 : ix x3 24 = true
      · obtain ⟨h, hh, rfl⟩ := ix_t (by omega) b1
        obtain ⟨p, hp, rfl⟩ := ix_t (by omega) b2
        obtain ⟨t, ht, rfl⟩ := ix_t (by omega) b3
        refine op_q hC hM (bI (xL g (fc (xA g) h p t))) ?_ ?_
        · obtain ⟨V1, e, hy⟩ := hC.t.see hh hp ht
          refine ⟨V1, ?_, hy.c⟩
          unfold fX9_sees
          rw [n_house hC.1, b1, n_place, b2, n_hour, b3]
          simp only [if_true, q_N1]
          rw [e, q_I, q_zo]
        · intro V1 hM1
          apply m_ans
          have hT := hM1.t0
          obtain ⟨V2, e, hy, -⟩ := hT.see (fog := aS (xA g) 5) hh hp ht
          have e : _ = some (bI (xL g (fc (xA g) h p t)), V2) := e
          refine ⟨V2, ?_, hy.q⟩
          unfold fX10_sees
          rw [q_lt, t0_e]
          rw [m_noHouse hT.1 hT.2.1, m_noPlace, m_noHour, b1, b2, b3]
          simp only [q_R, Bool.not_true, bI_f, if_true]
          unfold fX10_sees_j33
          rw [m_thr0, q_I, if_pos rfl, q_rdl (by omega) (by omega), q_cl (by omega), hT.1.1 5 (by omega), e, q_I, q_ifb]
          cases xL g (fc (xA g) h p t)
          · rw [if_neg (by decide), q_zo0]; rfl
          · rw [if_pos rfl, q_zo1]; rfl
      · refine op_x hC hM IOOB ?_ (m_thr ⟨0, ?_⟩)
        · unfold fX9_sees
          rw [n_house hC.1, b1, n_place, b2, n_hour, nf b3]; rfl
        · have hT := hM.t0
          show fX10_sees V x1 x2 x3 = _
          unfold fX10_sees
          rw [q_lt, t0_e]
          rw [m_noHouse hT.1 hT.2.1, m_noPlace, m_noHour, b1, b2, nf b3]
          simp only [q_R, Bool.not_true, Bool.not_false, bI_f, bI_t, if_true, if_neg q_10]
          unfold fX10_sees_j28 fX10_sees_j33
          rw [m_thr1, q_I, if_neg q_10, q_zo0, h1]
    · refine op_x hC hM IOOB ?_ (m_thr ⟨0, ?_⟩)
      · unfold fX9_sees
        rw [n_house hC.1, b1, n_place, nf b2]; rfl
      · have hT := hM.t0
        show fX10_sees V x1 x2 x3 = _
        unfold fX10_sees
        rw [q_lt, t0_e]
        rw [m_noHouse hT.1 hT.2.1, m_noPlace, b1, nf b2]
        simp only [q_R, Bool.not_true, Bool.not_false, bI_f, bI_t, if_true, if_neg q_10]
        unfold fX10_sees_j28 fX10_sees_j33
        rw [m_thr1, q_I, if_neg q_10, q_zo0, h1]
  · refine op_x hC hM IOOB ?_ (m_thr ⟨0, ?_⟩)
    · unfold fX9_sees
      rw [n_house hC.1, nf b1]; rfl
    · have hT := hM.t0
      show fX10_sees V x1 x2 x3 = _
      unfold fX10_sees
      rw [q_lt, t0_e]
      rw [m_noHouse hT.1 hT.2.1, nf b1]
      simp only [q_R, Bool.not_false, bI_t, if_neg q_10]
      unfold fX10_sees_j28 fX10_sees_j33
      rw [m_thr1, q_I, if_neg q_10, q_zo0, h1]
/-- calls of a place and an hour -/
theorem op_ph {f9 : VT → Int32 → Int32 → Option ((String ⊕ Int32) × VT)} {f10 : VT → Int32 → Int32 → Option (Int32 × VT)} {k9 : VT → Int32 → Int32 → Option ((String ⊕ Int32) × VT)} {k10 : VT → Int32 → Int32 → Option (Int32 × VT)} (e9 : ∀ V x1 x2, f9 V x1 x2 = ob_N (fX9_needPlace V x1) (fun E => some (.inl E, V)) (ob_N (fX9_needHour V x2) (fun E => some (.inl E, V)) (k9 V x1 x2)))
    (e10 : ∀ V x1 x2, f10 V x1 x2 = ob_R (fX10_noPlace (t0 V) x1) fun y3 => if y3 = 0 then (ob_R (fX10_noHour (t0 V) x2) fun y => if y = 0 then (ob_I (fX10_throwsIf (t0 V) 0 1) fun y5 V6 => if y5 = 0 then k10 V6 x1 x2 else some (0, V6)) else (ob_I (fX10_throwsIf (t0 V) 1 1) fun y5 V6 => if y5 = 0 then k10 V6 x1 x2 else some (0, V6))) else (ob_I (fX10_throwsIf (t0 V) 1 1) fun y5 V6 => if y5 = 0 then k10 V6 x1 x2 else some (0, V6)))
    (hI : INV V) (h1 : cd IOOB = 1) (x1 x2 : Int32) (hk : ∀ g p t, p < 24 → t < 24 → CIN V g → ∃ x, (∃ V1, k9 V (nI p) (nI t) = some (.inr x, V1) ∧ Cs V V1) ∧ ∀ V1, MIN V1 g → MT (t0 V1) (xA g) (xL g) → ∃ V2, k10 (t0 V1) (nI p) (nI t) = some (x, V2) ∧ Mq (t0 V1) V2) : OpE (fun V => f9 V x1 x2) (fun V => f10 V x1 x2) cd V := by
  obtain ⟨g, hC, hM⟩ := hI
  by_cases b2 : ix x1 24 = true
  · by_cases b3 : ix x2 24 = true
    · obtain ⟨p, hp, rfl⟩ := ix_t (by omega) b2
      obtain ⟨t, ht, rfl⟩ := ix_t (by omega) b3
      obtain ⟨x, ⟨V1, a1, a2⟩, a3⟩ := hk g p t hp ht hC
      refine op_q hC hM x ⟨V1, ?_, a2⟩ ?_
      · show f9 V _ _ = _
        rw [e9, n_place, b2, n_hour, b3]
        exact a1
      · intro V1 hM1
        apply m_ans
        obtain ⟨V2, d1, d2⟩ := a3 V1 hM1 hM1.t0
        refine ⟨V2, ?_, d2⟩
        rw [e10, m_noPlace, m_noHour, b2, b3, m_thr0]
        exact d1
    · refine op_x hC hM IOOB ?_ (m_thr ⟨0, ?_⟩)
      · show f9 V _ _ = _
        rw [e9, n_place, b2, n_hour, nf b3]; rfl
      · show f10 V _ _ = _
        rw [e10, m_noPlace, m_noHour, b2, nf b3, m_thr1, h1]; rfl
  · refine op_x hC hM IOOB ?_ (m_thr ⟨0, ?_⟩)
    · show f9 V _ _ = _
      rw [e9, n_place, nf b2]; rfl
    · show f10 V _ _ = _
      rw [e10, m_noPlace, nf b2, m_thr1, h1]; rfl
theorem op_witnesses (hI : INV V) (h1 : cd IOOB = 1) (x1 x2 : Int32) : OpE (fun V => fX9_witnesses V x1 x2) (fun V => fX10_witnesses V x1 x2) cd V := by
  refine op_ph (f9 := fX9_witnesses) (f10 := fX10_witnesses) (k9 := fun V x1 x2 => ob_I (fX5_witnessBits V 2 x1 x2) fun y6 V7 => some (.inr y6, V7)) (k10 := fun V x1 x2 => ob_I (fX10_seersNow V x1 x2) fun y8 V9 => some (y8, V9)) (fun _ _ _ => rfl) (fun _ _ _ => rfl) hI h1 x1 x2 ?_
  intro g p t hp ht hC
  refine ⟨nI (seer (xL g) (xA g) p t), ?_, ?_⟩
  · obtain ⟨V1, e, hy⟩ := c_witness hC.t hp ht
    exact ⟨V1, by rw [e]; rfl, hy.c⟩
  · intro V1 _ hT
    obtain ⟨V2, e, hy⟩ := m_seersNow hT hp ht
    exact ⟨V2, by rw [e]; rfl, hy.q⟩
end OP
