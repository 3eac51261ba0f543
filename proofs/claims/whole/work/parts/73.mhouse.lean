/-! ===== the model reads a house: the line ===== -/
section MT
variable {V V1 : VT} {b : Nat → Int32} {n p : Nat} {A : AT}
theorem mh96 {u1 u2 u3 u4 u5 : Int32} : fX10_readHouse_j96 V u1 u2 u3 u4 u5 (-1) = some (0, V) := by
  unfold fX10_readHouse_j96
  rw [q_gm, q_zo0]
theorem mh76 {u1 u2 u3 u4 : Int32} : fX10_readHouse_j76 V u1 u2 u3 u4 (-1) = some (0, V) := by
  unfold fX10_readHouse_j76
  rw [q_gm, mh96]
theorem mh56 {u1 u2 u3 : Int32} : fX10_readHouse_j56 V u1 u2 u3 (-1) = some (0, V) := by
  unfold fX10_readHouse_j56
  rw [q_gm, mh76]
theorem mh38 {u1 u2 : Int32} : fX10_readHouse_j38 V u1 u2 (-1) = some (0, V) := by
  unfold fX10_readHouse_j38
  rw [q_gm, mh56]
/-- a number after a word that is read -/
theorem m_nn (hM : MP V b n (le_ b n (sk b n p))) (hy : ∀ k, k < 400 → by_ (b k)) (hp : p ≤ n) (hn : n ≤ 400) {w lo hi : Nat} (hl : lo < 2 ^ 31) (hh : hi < 2 ^ 31) (hw : wdB b n (sk b n p) w = true) :
    (∃ f V', wnP b n p w lo hi = .inl f ∧ fX10_number V (nI lo) (nI hi) = some (-1, V') ∧ V' 22 12 = nI f ∧ Mg V V') ∨
    (∃ v q V', wnP b n p w lo hi = .inr (v, q) ∧ fX10_number V (nI lo) (nI hi) = some (nI v, V') ∧ MP V' b n q ∧ lo ≤ v ∧ v ≤ hi ∧ q ≤ n ∧ Mg V V') := by
  have hL := le_le (b := b) (sk_le (b := b) hp)
  obtain ⟨V', e, a1, a2, a3⟩ := m_number hM hy hL hn hl hh
  by_cases c2 : nuB b n (sk b n (le_ b n (sk b n p))) lo hi = true
  · have hx : wnP b n p w lo hi = .inr (vl b n (sk b n (le_ b n (sk b n p))), di_ b n (sk b n (le_ b n (sk b n p)))) := by
      unfold wnP
      rw [if_pos hw, if_pos c2]
    obtain ⟨x1, x2, x3⟩ := wnP_b hp hx
    rw [if_pos c2] at e
    exact .inr ⟨_, _, V', hx, e, a1, x1, x2, x3, a3⟩
  · have hx : wnP b n p w lo hi = .inl (sk b n (le_ b n (sk b n p))) := by
      unfold wnP
      rw [if_pos hw, if_neg c2]
    rw [if_neg c2] at e
    exact .inl ⟨_, V', hx, e, a2, a3⟩
theorem RM.g (hM : RM (V 76) A) (hg : Mg V V1) : RM (V1 76) A := by rw [hg.1 76 (by omega)]; exact hM
theorem m_readHouse (hM : MP V b n (le_ b n (sk b n p))) (hy : ∀ k, k < 400 → by_ (b k)) (hp : p ≤ n) (hn : n ≤ 400) (hR : RM (V 76) A) (h8 : aS A 0 < 8) (hw : wdB b n (sk b n p) 31 = true) :
    (∃ f V', hoP b n p = .inl f ∧ fX10_readHouse V = some (0, V') ∧ V' 22 12 = nI f ∧ Gs V V') ∨
    (∃ r q V', hoP b n p = .inr (r, q) ∧ fX10_readHouse V = some (1, V') ∧ MP V' b n q ∧ q ≤ n ∧ RM (V' 76) (hsA A r) ∧ Gs V V') := by
  unfold fX10_readHouse
  rw [m_houses hR, q_R, if_neg (show ¬ nI (aS A 0) = 8 from fun e => by have := (nI_eq (b := 8) (by omega) (by omega)).1 e; omega)]
  rcases m_nn hM hy hp hn (lo := 0) (hi := 23) (by omega) (by omega) hw with ⟨f, V4, w4, e4, b4, s4⟩ | ⟨va, qa, V4, w4, e4, t4, l4, u4, p4, s4⟩
  · have e4 : fX10_number V 0 23 = _ := e4
    rw [e4, q_I, q_gm, mh38]
    exact .inl ⟨f, V4, by simp only [hoP, w4, sb], rfl, b4, s4.gs⟩
  have e4 : fX10_number V 0 23 = _ := e4
  rw [e4, q_I, q_ge (by omega)]
  clear e4
  rcases m_an t4 hy p4 hn (w := 35) (w' := 42) (lo := 0) (hi := 23) (by omega) (by omega) (by omega) (by omega) rfl with ⟨f, V5, w5, e5, b5, s5⟩ | ⟨vc, qc, V5, w5, e5, t5, l5, u5, p5, s5⟩
  · have e5 : fX10_after V4 42 0 23 = _ := e5
    rw [e5, q_I, mh38]
    exact .inl ⟨f, V5, by simp only [hoP, w4, w5, sb], rfl, b5, (s4.tr s5).gs⟩
  have e5 : fX10_after V4 42 0 23 = _ := e5
  have s5 := s4.tr s5
  rw [e5, q_I]
  clear e5 s4
  unfold fX10_readHouse_j38
  rw [q_ge (by omega)]
  rcases m_an t5 hy p5 hn (w := 36) (w' := 43) (lo := vc) (hi := 23) (by omega) (by omega) (by omega) (by omega) rfl with ⟨f, V6, w6, e6, b6, s6⟩ | ⟨vd, qd, V6, w6, e6, t6, l6, u6, p6, s6⟩
  · have e6 : fX10_after V5 43 (nI vc) 23 = _ := e6
    rw [e6, q_I, mh56]
    exact .inl ⟨f, V6, by simp only [hoP, w4, w5, w6, sb], rfl, b6, (s5.tr s6).gs⟩
  have e6 : fX10_after V5 43 (nI vc) 23 = _ := e6
  have s6 := s5.tr s6
  rw [e6, q_I]
  clear e6 s5
  unfold fX10_readHouse_j56
  rw [q_ge (by omega)]
  rcases m_an t6 hy p6 hn (w := 37) (w' := 44) (lo := 0) (hi := 23) (by omega) (by omega) (by omega) (by omega) rfl with ⟨f, V7, w7, e7, b7, s7⟩ | ⟨ve, qe, V7, w7, e7, t7, l7, u7, p7, s7⟩
  · have e7 : fX10_after V6 44 0 23 = _ := e7
    rw [e7, q_I, mh76]
    exact .inl ⟨f, V7, by simp only [hoP, w4, w5, w6, w7, sb], rfl, b7, (s6.tr s7).gs⟩
  have e7 : fX10_after V6 44 0 23 = _ := e7
  have s7 := s6.tr s7
  rw [e7, q_I]
  clear e7 s6
  unfold fX10_readHouse_j76
  rw [q_ge (by omega)]
  rcases m_an t7 hy p7 hn (w := 38) (w' := 45) (lo := 0) (hi := 24) (by omega) (by omega) (by omega) (by omega) rfl with ⟨f, V8, w8, e8, b8, s8⟩ | ⟨vf, qf, V8, w8, e8, t8, l8, u8, p8, s8⟩
  · have e8 : fX10_after V7 45 0 24 = _ := e8
    rw [e8, q_I, mh96]
    exact .inl ⟨f, V8, by simp only [hoP, w4, w5, w6, w7, w8, sb], rfl, b8, (s7.tr s8).gs⟩
  have e8 : fX10_after V7 45 0 24 = _ := e8
  have s8 := s7.tr s8
  rw [e8, q_I]
  clear e8 s7
  unfold fX10_readHouse_j96
  rw [q_ge (by omega)]
  obtain ⟨V9, e9, t9, b9, s9⟩ := m_passes t8 hy p8 hn (w := 46) (by omega) (by omega)
  rw [wd_eq (show sY.getD 46 [] = sY.getD 39 [] from rfl)] at e9 t9
  have s9 := s8.tr s9
  rw [e9, q_I, q_ifb]
  by_cases c9 : wdB b n (sk b n qf) 39 = true
  · rw [if_pos c9] at t9 ⊢
    rcases m_nn t9 hy p8 hn (lo := 0) (hi := 9) (by omega) (by omega) c9 with ⟨f, V10, w10, e10, b10, s10⟩ | ⟨vg, qg, V10, w10, e10, t10, l10, u10, p10, s10⟩
    · have e10 : fX10_number V9 0 9 = _ := e10
      rw [e10, q_I]
      unfold fX10_readHouse_j125
      rw [q_gm, q_zo0]
      exact .inl ⟨f, V10, by simp only [hoP, w4, w5, w6, w7, w8, w10, sb, if_pos c9], rfl, b10, (s9.tr s10).gs⟩
    · have e10 : fX10_number V9 0 9 = _ := e10
      have s10 := s9.tr s10
      rw [e10, q_I]
      obtain ⟨V', e, x1, x2, x3⟩ := m_hsend (a := va) (c := vc) (d := vd) (e := ve) (f := vf) (g := vg) (hR.g s10) h8 (by omega)
      rw [e]
      exact .inr ⟨_, qg, V', by simp only [hoP, w4, w5, w6, w7, w8, w10, sb, if_pos c9], rfl, ⟨by rw [x3]; exact t10.1, by rw [x3]; exact t10.2.1, by rw [x2.1 81 (by omega) (by omega)]; exact t10.2.2⟩, p10, x1, s10.gs.tr x2⟩
  · rw [if_neg c9] at t9 ⊢
    obtain ⟨V', e, x1, x2, x3⟩ := m_hsend (a := va) (c := vc) (d := vd) (e := ve) (f := vf) (g := 0) (hR.g s9) h8 (by omega)
    have e : fX10_readHouse_j125 V9 (nI (aS A 0)) (nI va) (nI vc) (nI vd) (nI ve) (nI vf) 0 = _ := e
    rw [e]
    exact .inr ⟨_, sk b n qf, V', by simp only [hoP, w4, w5, w6, w7, w8, sb, if_neg c9], rfl, ⟨by rw [x3]; exact t9.1, by rw [x3]; exact t9.2.1, by rw [x2.1 81 (by omega) (by omega)]; exact t9.2.2⟩, sk_le p8, x1, s9.gs.tr x2⟩
end MT
