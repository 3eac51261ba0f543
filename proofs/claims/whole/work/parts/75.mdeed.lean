/-! ===== the model reads a deed ===== -/
section MT
variable {V V1 : VT} {b : Nat → Int32} {n p : Nat} {A : AT}
theorem m_dsend (hM : RM (V 76) A) (hH : aS A 0 ≤ 8) (h8 : aS A 1 < 10) {a c o : Nat} : ∃ V', fX10_readDeed_j84 V (nI (aS A 1)) (nI a) (nI c) (onI o) = some (1, V') ∧ RM (V' 76) (dsA A (rw6 a c o)) ∧ Gs V V' ∧ V' 22 = V 22 := by
  have hat : ∀ (V : VT) (k : Nat), fX10_deedAt V (nI (aS A 1)) (nI k) = some (nI (74 + 6 * aS A 1 + k)) := fun V k => by
    unfold fX10_deedAt
    rw [q_mulL, q_addL, nI_add]
  unfold fX10_readDeed_j84
  have z0 : Ws V V (74 + 6 * aS A 1) 6 _ := Ws.rf
  rw [show (0 : Int32) = nI 0 from rfl, show (1 : Int32) = nI 1 from rfl, show (2 : Int32) = nI 2 from rfl, show (3 : Int32) = nI 3 from rfl, show (4 : Int32) = nI 4 from rfl, show (5 : Int32) = nI 5 from rfl]
  simp only [hat, q_R]
  rw [q_rd (by omega) (by omega), nI_clamp (by omega)]
  refine lt_e1 (fun W1 e1 => ?_)
  have z1 := z0.u (k := 0) (x := nI a) (by omega); rw [← e1] at z1; clear e1
  rw [q_rd (by omega) (by omega), nI_clamp (by omega)]
  refine lt_e1 (fun W2 e1 => ?_)
  have z2 := z1.u (k := 1) (x := nI c) (by omega); rw [← e1] at z2; clear e1
  rw [q_rd (by omega) (by omega), nI_clamp (by omega)]
  refine lt_e1 (fun W3 e1 => ?_)
  have z3 := z2.u (k := 2) (x := onI o) (by omega); rw [← e1] at z3; clear e1
  rw [q_rd (by omega) (by omega), nI_clamp (by omega)]
  refine lt_e1 (fun W4 e1 => ?_)
  have z4 := z3.u (k := 3) (x := nI 0) (by omega); rw [← e1] at z4; clear e1
  rw [q_rd (by omega) (by omega), nI_clamp (by omega)]
  refine lt_e1 (fun W5 e1 => ?_)
  have z5 := z4.u (k := 4) (x := nI 0) (by omega); rw [← e1] at z5; clear e1
  rw [q_rd (by omega) (by omega), nI_clamp (by omega)]
  refine lt_e1 (fun W6 e1 => ?_)
  have z8 := z5.u (k := 5) (x := nI 0) (by omega); rw [← e1] at z8; clear e1
  clear z0 z1 z2 z3 z4 z5
  rw [q_rd (by omega) (by omega), q_rd (by omega) (by omega), nI_clamp (by omega), z8.2 1, if_neg (by omega), hM.1 1 (by omega), nI_add, q_lt, show nI 1 = (1 : Int32) from rfl, q_zo1]
  refine ⟨_, rfl, ?_, (z8.gs (by omega)).tr (Gs.u (by omega)), by rw [va_n (by omega)]; exact z8.1 22 (by omega)⟩
  rw [va_s]
  obtain ⟨m0, m9, mh, md, md2, ml⟩ := hM
  refine ⟨?_, ?_, ?_, ?_, ?_, ?_⟩
  · intro k hk
    by_cases e0 : k = 1
    · rw [e0, pk_us, ds_1]
    · rw [pk_un e0, ds_S e0, z8.2, if_neg (by omega)]; exact m0 k hk
  · rw [pk_un (by omega), z8.2, if_neg (by omega)]; exact m9
  · intro h k h1 h2
    rw [ds_S (by omega)] at h1
    rw [pk_un (by omega), z8.2, if_neg (by omega), ds_H]; exact mh h k h1 h2
  · intro d k h1 h2 h3
    rw [ds_1] at h1
    rw [pk_un (by omega), z8.2, ds_D]
    by_cases e0 : d = aS A 1
    · rw [if_pos e0, if_pos (by omega), show 74 + 6 * d + k - (74 + 6 * aS A 1) = k by omega]
      rcases (by omega : k = 0 ∨ k = 1 ∨ k = 3 ∨ k = 4 ∨ k = 5) with e | e | e | e | e <;> subst e <;> rfl
    · rw [if_neg e0, if_neg (by omega)]; exact md d k (by omega) h2 h3
  · intro d h1
    rw [ds_1] at h1
    rw [pk_un (by omega), z8.2, ds_D]
    by_cases e0 : d = aS A 1
    · rw [if_pos e0, if_pos (by omega), show 74 + 6 * d + 2 - (74 + 6 * aS A 1) = 2 by omega]
      rfl
    · rw [if_neg e0, if_neg (by omega)]; exact md2 d (by omega)
  · intro j k h1 h2
    rw [ds_S (by omega)] at h1
    rw [pk_un (by omega), z8.2, if_neg (by omega), ds_L]; exact ml j k h1 h2
theorem md38 {u1 u2 : Int32} : fX10_readDeed_j38 V u1 u2 (-1) = some (0, V) := by
  unfold fX10_readDeed_j38
  rw [q_gm, q_zo0]
theorem m_nD (hM : MP V b n (le_ b n (sk b n p))) (hy : ∀ k, k < 400 → by_ (b k)) (hp : p ≤ n) (hn : n ≤ 400) {w H : Nat} (hH : H ≤ 10) (hw : wdB b n (sk b n p) w = true) :
    (∃ f V', wnD b n p w H = .inl f ∧ fX10_number V 0 (nI H - 1) = some (-1, V') ∧ V' 22 12 = nI f ∧ Mg V V') ∨
    (∃ v q V', wnD b n p w H = .inr (v, q) ∧ fX10_number V 0 (nI H - 1) = some (nI v, V') ∧ MP V' b n q ∧ v < H ∧ q ≤ n ∧ Mg V V') := by
  unfold wnD
  by_cases h0 : H = 0
  · subst h0
    left
    obtain ⟨V', e, a1, a2, a3⟩ := m_number0 hM hy (le_le (sk_le hp)) hn
    rw [if_pos rfl, if_pos hw]
    exact ⟨_, V', rfl, e, a2, a3⟩
  · rw [if_neg h0, show nI H - 1 = nI (H - 1) from pk_sub (b := 1) (by omega)]
    rcases m_nn hM hy hp hn (lo := 0) (hi := H - 1) (by omega) (by omega) hw with ⟨f, V4, w4, e4, b4, s4⟩ | ⟨va, qa, V4, w4, e4, t4, l4, u4, p4, s4⟩
    · exact .inl ⟨f, V4, w4, e4, b4, s4⟩
    · exact .inr ⟨va, qa, V4, w4, e4, t4, by omega, p4, s4⟩
theorem m_readDeed (hM : MP V b n (le_ b n (sk b n p))) (hy : ∀ k, k < 400 → by_ (b k)) (hp : p ≤ n) (hn : n ≤ 400) (hR : RM (V 76) A) (hH : aS A 0 ≤ 8) (h8 : aS A 1 < 10) (hw : wdB b n (sk b n p) 32 = true) :
    (∃ f V', deP b n (aS A 1) p = .inl f ∧ fX10_readDeed V = some (0, V') ∧ V' 22 12 = nI f ∧ Gs V V') ∨
    (∃ r q V', deP b n (aS A 1) p = .inr (r, q) ∧ fX10_readDeed V = some (1, V') ∧ MP V' b n q ∧ q ≤ n ∧ RM (V' 76) (dsA A r) ∧ Gs V V') := by
  unfold fX10_readDeed
  rw [m_deeds hR, q_R, if_neg (show ¬ nI (aS A 1) = 10 from fun e => by have := (nI_eq (b := 10) (by omega) (by omega)).1 e; omega)]
  rcases m_nn hM hy hp hn (lo := 0) (hi := 23) (by omega) (by omega) hw with ⟨f, V4, w4, e4, b4, s4⟩ | ⟨va, qa, V4, w4, e4, t4, l4, u4, p4, s4⟩
  · have e4 : fX10_number V 0 23 = _ := e4
    rw [e4, q_I, q_gm, md38]
    exact .inl ⟨f, V4, by simp only [deP, w4, sb], rfl, b4, s4.gs⟩
  have e4 : fX10_number V 0 23 = _ := e4
  rw [e4, q_I, q_ge (by omega)]
  clear e4
  rcases m_an t4 hy p4 hn (w := 40) (w' := 47) (lo := 0) (hi := 23) (by omega) (by omega) (by omega) (by omega) rfl with ⟨f, V5, w5, e5, b5, s5⟩ | ⟨vc, qc, V5, w5, e5, t5, l5, u5, p5, s5⟩
  · have e5 : fX10_after V4 47 0 23 = _ := e5
    rw [e5, q_I, md38]
    exact .inl ⟨f, V5, by simp only [deP, w4, w5, sb], rfl, b5, (s4.tr s5).gs⟩
  have e5 : fX10_after V4 47 0 23 = _ := e5
  have s5 := s4.tr s5
  rw [e5, q_I]
  clear e5 s4
  unfold fX10_readDeed_j38
  rw [q_ge (by omega)]
  obtain ⟨V9, e9, t9, b9, s9⟩ := m_passes t5 hy p5 hn (w := 48) (by omega) (by omega)
  rw [wd_eq (show sY.getD 48 [] = sY.getD 41 [] from rfl)] at e9 t9
  have s9 := s5.tr s9
  rw [e9, q_I, q_ifb]
  by_cases c9 : wdB b n (sk b n qc) 41 = true
  · rw [if_pos c9] at t9 ⊢
    rcases m_nD t9 hy p5 hn (H := aS A 1) (by omega) c9 with ⟨f, V10, w10, e10, b10, s10⟩ | ⟨vg, qg, V10, w10, e10, t10, u10, p10, s10⟩
    · rw [e10, q_I, c9]
      unfold fX10_readDeed_j70
      rw [if_neg (show ¬ bI true = 0 by decide), q_gm, q_zo0]
      exact .inl ⟨f, V10, by simp only [deP, w4, w5, w10, sb, if_pos c9], rfl, b10, (s9.tr s10).gs⟩
    · have s10 := s9.tr s10
      rw [e10, q_I, c9]
      unfold fX10_readDeed_j70
      rw [if_neg (show ¬ bI true = 0 by decide), q_ge (by omega)]
      obtain ⟨V', e, x1, x2, x3⟩ := m_dsend (a := va) (c := vc) (o := vg + 1) (hR.g s10) hH h8
      have e : fX10_readDeed_j84 V10 (nI (aS A 1)) (nI va) (nI vc) (nI vg) = _ := e
      rw [e]
      exact .inr ⟨_, qg, V', by simp only [deP, w4, w5, w10, sb, if_pos c9], rfl, ⟨by rw [x3]; exact t10.1, by rw [x3]; exact t10.2.1, by rw [x2.1 81 (by omega) (by omega)]; exact t10.2.2⟩, p10, x1, s10.gs.tr x2⟩
  · rw [if_neg c9] at t9 ⊢
    rw [Bool.eq_false_iff.2 c9]
    unfold fX10_readDeed_j70
    rw [if_pos (show bI false = 0 from rfl)]
    obtain ⟨V', e, x1, x2, x3⟩ := m_dsend (a := va) (c := vc) (o := 0) (hR.g s9) hH h8
    have e : fX10_readDeed_j84 V9 (nI (aS A 1)) (nI va) (nI vc) (-1) = _ := e
    rw [e]
    exact .inr ⟨_, sk b n qc, V', by simp only [deP, w4, w5, sb, if_neg c9], rfl, ⟨by rw [x3]; exact t9.1, by rw [x3]; exact t9.2.1, by rw [x2.1 81 (by omega) (by omega)]; exact t9.2.2⟩, sk_le p5, x1, s9.gs.tr x2⟩
end MT
