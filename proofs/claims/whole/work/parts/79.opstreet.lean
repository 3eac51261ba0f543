/-! ===== street ===== -/
def rdP (b : Nat → Int32) (n : Nat) (A : AT) : Nat ⊕ AT := if n ≤ sk b n 0 then .inr A else stP b n 14 A (sk b n 0)
def u3 (V : VT) : VT := va_up (us V) 22 (upd (us V 22) 16 0)
section OP
variable {V V1 V' : VT} {b : Nat → Int32} {n p : Nat} {A : AT} {g : GA}
theorem u3_n {j : Nat} (h : j ≠ 22) : u3 V j = V j := by unfold u3; rw [va_n h]; exact us_n h
theorem u3_k {k : Nat} (h0 : k ≠ 0) (h9 : k ≠ 9) (h10 : k ≠ 10) (h11 : k ≠ 11) (h16 : k ≠ 16) : u3 V 22 k = V 22 k := by unfold u3; rw [va_s, pk_un h16]; exact us_22 h0 h9 h10 h11
theorem u3_0 : u3 V 22 0 = 0 := by unfold u3; rw [va_s, pk_un (by omega)]; exact us_0
theorem u3_m (h : MIN V g) : MIN (u3 V) (tpG g 0 (xb g)) := h.use.m (Ms.n (by omega) (by omega) (by omega) (by omega))
theorem u3_p (h : MIN V g) : MP (u3 V) (xb g) (xn g) 0 := by
  obtain ⟨d1, d2, d3, d4⟩ := h.2.2.2.2.1
  refine ⟨?_, ?_, by rw [u3_n (by omega)]; exact d3⟩
  · unfold u3 us; rw [va_s, pk_un (by omega), va_s, pk_us]; rfl
  · unfold u3; rw [va_s, pk_un (by omega), us_11]; exact d1
theorem c_read (h1 : V 1 1 = nI n) (hn : n ≤ 400) (hb : ∀ k, k < 400 → V 23 k = b k) (hR : RS V 3 A) (hW : WA A) :
    (∃ f V', rdP b n A = .inl f ∧ fX7_read V 3 = some (0, V') ∧ V' 1 3 = nI f ∧ Fs V V') ∨
    (∃ A' V', rdP b n A = .inr A' ∧ fX7_read V 3 = some (1, V') ∧ RS V' 3 A' ∧ WA A' ∧ Fs V V') := by
  unfold fX7_read rdP
  obtain ⟨V2, e2, t2, f2⟩ := c_rewind h1 hn hb
  have hR2 := hR.w (f2.1 3 (by omega)) (f2.1 _ (by omega)) (f2.1 _ (by omega)) (f2.1 _ (by omega))
  rw [e2, q_R, c_isEnd t2 (by omega), q_R, q_ifb]
  by_cases c1 : n ≤ sk b n 0
  · rw [if_pos (decide_eq_true c1), if_pos c1, q_zo1]
    exact .inr ⟨A, V2, rfl, rfl, hR2, hW, f2.fs⟩
  · rw [if_neg (fun e => c1 (of_decide_eq_true e)), if_neg c1]
    rcases c_stL hn 14 FV V2 A (sk b n 0) (by have := FV_ge; omega) (by omega) (t2.sk (by omega)) (sk_le (by omega)) hR2 hW with ⟨f, V', x1, x2, x3, x4⟩ | ⟨A', V', x1, x2, x3, x4, x5⟩
    · rw [show it_ (iX7_read_L15 3) FV (V2, 0) = _ from x2, q_R]
      exact .inl ⟨f, V', x1, rfl, x3, f2.fs.tr x4⟩
    · rw [show it_ (iX7_read_L15 3) FV (V2, 0) = _ from x2, q_R]
      exact .inr ⟨A', V', x1, rfl, x3, x4, f2.fs.tr x5⟩
theorem m_readAll (hM : MIN V g) :
    (∃ f V', rdP (xb g) (xn g) (xA g) = .inl f ∧ fX10_readAll V 1 = some (-1, V') ∧ V' 22 12 = nI f ∧ Gs (u3 V) V') ∨
    (∃ A' V' k, rdP (xb g) (xn g) (xA g) = .inr A' ∧ fX10_readAll V 1 = some (nI k, V') ∧ k ≤ 14 ∧ RM (V' 76) A' ∧ WA A' ∧ Gs (u3 V) V') := by
  obtain ⟨d1, d2, d3, d4⟩ := hM.2.2.2.2.1
  have hR : RM (u3 V 76) (xA g) := by rw [u3_n (by omega)]; exact hM.1
  obtain ⟨V2, e2, a1, a2, a3⟩ := m_blanks (u3_p hM) d4 (Nat.zero_le _) d2
  unfold fX10_readAll rdP
  rw [m_uses, q_R, q_lt, show fX10_blanks (va_up (us V) 22 (upd (us V 22) 16 0)) = _ from e2, q_R, a1.1, a1.2.1]
  have hS := sk_le (b := xb g) (Nat.zero_le (xn g))
  by_cases c1 : xn g ≤ sk (xb g) (xn g) 0
  · rw [if_pos c1, if_pos (congrArg nI (by omega))]
    exact .inr ⟨_, V2, 0, rfl, rfl, by omega, hR.g a3, hM.2.1, a3.gs⟩
  · rw [if_neg c1, if_neg (show ¬ nI (sk (xb g) (xn g) 0) = nI (xn g) from fun e => c1 (by have := (nI_eq (by omega) (by omega)).1 e; omega))]
    rcases m_stL d2 d4 14 FV V2 (xA g) (sk (xb g) (xn g) 0) (by have := FV_ge; omega) (by omega) a1 hS (hR.g a3) hM.2.1 with ⟨f, V', x1, x2, x3, x4⟩ | ⟨A', V', k, x1, x2, x3, x4, x5, x6⟩
    · rw [show it_ iX10_readAll_L28 FV (V2, 1, 0) = _ from x2, q_R]
      exact .inl ⟨f, V', x1, rfl, x3, a3.gs.tr x4⟩
    · rw [show it_ iX10_readAll_L28 FV (V2, 1, 0) = _ from x2, q_R]
      exact .inr ⟨A', V', k, x1, rfl, x3, x4, x5, a3.gs.tr x6⟩
theorem RS.txt {V : VT} {i : Nat} {A : AT} (hR : RS V i A) (hi : i < 17) (f : Nat) : RS (va_up V i (upd (V i) 5 (nI f))) i (pS A 2 f) := by
  have e : ∀ k, k ≠ 5 → va_up V i (upd (V i) 5 (nI f)) i k = V i k := fun k hk => by rw [va_s, pk_un hk]
  refine ⟨⟨(e 3 (by omega)).trans hR.1.1, (e 4 (by omega)).trans hR.1.2.1, by rw [va_s, pk_us]; rfl, (e 6 (by omega)).trans hR.1.2.2.2.1, (e 7 (by omega)).trans hR.1.2.2.2.2.1, (e 8 (by omega)).trans hR.1.2.2.2.2.2.1, (e 9 (by omega)).trans hR.1.2.2.2.2.2.2.1, (e 10 (by omega)).trans hR.1.2.2.2.2.2.2.2.1, (e 11 (by omega)).trans hR.1.2.2.2.2.2.2.2.2.1, (e 12 (by omega)).trans hR.1.2.2.2.2.2.2.2.2.2⟩, ?_, ?_, ?_, ?_⟩
  · intro h k hh hk; rw [va_n (by omega)]; exact hR.2.1 h k hh hk
  · intro d k hd hk hk2; rw [va_n (by omega)]; exact hR.2.2.1 d k hd hk hk2
  · intro d hd; rw [va_n (by omega)]; exact hR.2.2.2.1 d hd
  · intro k hk; rw [va_n (by omega)]; exact hR.2.2.2.2 k hk
theorem WA.txt {A : AT} (hW : WA A) {f : Nat} (hf : f ≤ 12) : WA (pS A 2 f) := by
  obtain ⟨⟨a0, a1, a2, a3, a4, a5, a6, a7, a8⟩, b⟩ := hW
  exact ⟨⟨a0, a1, hf, a3, a4, a5, a6, a7, a8⟩, b⟩
def c78 (V : VT) : VT := va_up V 78 (fa_fill (V 76) (V 78) 1151)
theorem c78_m (h : MIN V g) : MIN (c78 V) g := h.m (Ms.a (by omega))
/-- the model puts all back -/
theorem m_undo {V11 : VT} (hM : MIN V g) (hg : Gs (u3 (c78 V)) V11) (x c : Int32) {W Vf : VT} (hW : W = va_up (va_up V11 22 (upd (V11 22) 14 x)) 22 (upd (va_up V11 22 (upd (V11 22) 14 x) 22) 0 c)) (hf : Vf = va_up W 76 (fa_fill (W 78) (W 76) 1151)) : MIN Vf (flG (tpG g 0 (xb g)) x) ∧ (∀ j, j < 76 → j ≠ 22 → Vf j = V j) ∧ Vf 22 0 = c := by
  have w1 : ∀ j, j ≠ 22 → j ≠ 76 → W j = u3 (c78 V) j := fun j a d => by rw [hW, va_n a, va_n a]; exact hg.1 j a d
  have w2 : ∀ k, k ≠ 0 → k ≠ 10 → k ≠ 12 → k ≠ 14 → W 22 k = u3 (c78 V) 22 k := fun k a d e f => by rw [hW, va_s, pk_un a, va_s, pk_un f]; exact hg.2.2 k d e
  have w14 : W 22 14 = x := by rw [hW, va_s, pk_un (by omega), va_s, pk_us]
  have w0 : W 22 0 = c := by rw [hW, va_s, pk_us]
  clear hW
  refine ⟨((u3_m (c78_m hM)).flt x).m ⟨?_, ?_, ?_, ?_, ?_, ?_⟩, ?_, ?_⟩
  · intro j a d _ _ _
    rw [hf, va_n d, w1 j a d, va_n a]
  · intro k hk
    rw [hf, va_s, fa_fill_in hk, w1 78 (by omega) (by omega), u3_n (by omega), va_n (by omega), u3_n (by omega)]
    unfold c78
    rw [va_s, fa_fill_in hk, va_n (by omega)]
  · rw [hf, va_n (by omega), w2 6 (by omega) (by omega) (by omega) (by omega), va_s, pk_un (by omega)]
  · rw [hf, va_n (by omega), w2 7 (by omega) (by omega) (by omega) (by omega), va_s, pk_un (by omega)]
  · rw [hf, va_n (by omega), w2 9 (by omega) (by omega) (by omega) (by omega), va_s, pk_un (by omega)]
  · rw [hf, va_n (by omega), w14, va_s, pk_us]
  · intro j hj h22
    rw [hf, va_n (by omega), w1 j h22 (by omega), u3_n h22]
    unfold c78
    rw [va_n (by omega)]
  · rw [hf, va_n (by omega), w0]
theorem op_street {cd : String → Int32} (hI : INV V) (h1 : cd IAE = 1) (h2 : cd UOE = 2) : OpE (fun V => fX9_street V) (fun V => fX10_street V) cd V := by
  obtain ⟨g, hC, hM⟩ := hI
  obtain ⟨c1, c2, c3, c4⟩ := hC.2.2.2.2.1
  have hW := hC.2.1
  obtain ⟨V2, e2, hR2, hq2⟩ := c_copy (i := 3) hC.1 hW (by omega) (by omega) (by omega)
  have k1 : V2 1 1 = nI (xn g) := by rw [hq2 1 ⟨by omega, by omega, by omega, by omega⟩]; exact c1
  have k23 : ∀ k, k < 400 → V2 23 k = xb g k := by rw [hq2 23 ⟨by omega, by omega, by omega, by omega⟩]; exact c3
  have key : ∀ V5, Fs V2 V5 → CIN V5 g ∧ V5 22 = V 22 ∧ ∀ j, 76 ≤ j → V5 j = V j := fun V5 hf => by
    have e : ∀ j, j ≠ 1 → j ≠ 3 → j ≠ 27 → j ≠ 28 → j ≠ 29 → V5 j = V j := fun j a b c d f => (hf.1 j a b c d).trans (hq2 j ⟨by omega, by omega, by omega, by omega⟩)
    exact ⟨hC.w (fun j hj => e j (by omega) (by omega) (by omega) (by omega) (by omega)) (by rw [hf.2, k1, c1]) (fun k _ => by rw [e 17 (by omega) (by omega) (by omega) (by omega) (by omega)]), e 22 (by omega) (by omega) (by omega) (by omega) (by omega), fun j hj => e j (by omega) (by omega) (by omega) (by omega) (by omega)⟩
  rcases c_read k1 c2 k23 hR2 hW with ⟨f, V5, x1, x2, x3, x4⟩ | ⟨A', V5, x1, x2, x3, x4, x5⟩
  · obtain ⟨y1, y2, y3⟩ := key V5 x4
    refine op_xg (g := g) (g' := flG (tpG g 0 (xb g)) (nI f)) hM IAE ⟨va_up (va_up V5 0 (upd (V5 0) 10 (nI f))) 1 (upd (va_up V5 0 (upd (V5 0) 10 (nI f)) 1) 1 0), ?_, (y1.flt (nI f)).cut, ?_, ?_⟩ (fun V1 hM1 => ?_)
    · show fX9_street V = _
      unfold fX9_street fX9_endText
      rw [e2, q_R, x2, q_I, if_pos rfl, x3, q_lt, q_lt, q_R, if_pos rfl]
    · rw [va_n (by omega), va_n (by omega)]; exact y2
    · intro j hj
      rw [va_n (by omega), va_n (by omega)]; exact y3 j hj
    · rcases m_readAll (c78_m hM1) with ⟨f', V11, z1, z2, z3, z4⟩ | ⟨A', V11, k, z1, z2, z3, z4, z5, z6⟩
      · rw [x1] at z1
        have z1 := Sum.inl.inj z1
        subst z1
        obtain ⟨m1, m2, m3⟩ := m_undo hM1 z4 (nI f) 1 rfl rfl
        refine ⟨0, _, ?_, m1, m2, m3.trans h1.symm⟩
        show fX10_street V1 = _
        unfold fX10_street
        rw [m_cp, q_R, q_lt, show fX10_readAll (va_up V1 78 (fa_fill (V1 76) (V1 78) 1151)) 1 = _ from z2, q_I, q_gm, z3]
        unfold fX10_street_j46
        rw [q_lt, q_gm]
        unfold fX10_street_j59
        rw [m_thr1, q_I, if_neg q_10, m_rs, q_R]
      · rw [x1] at z1; cases z1
  · obtain ⟨y1, y2, y3⟩ := key V5 x5
    have hS := stP_S (b := xb g) (n := xn g) (A' := A')
    have hT : aS A' 2 = aS (xA g) 2 ∧ aS A' 3 = aS (xA g) 3 := by
      unfold rdP at x1
      by_cases c1 : xn g ≤ sk (xb g) (xn g) 0
      · rw [if_pos c1] at x1
        rw [Sum.inr.inj x1]
        exact ⟨rfl, rfl⟩
      · rw [if_neg c1] at x1
        exact hS _ _ _ x1
    clear hS
    have t12 := hW.1.2.2.1
    have yc : CIN (va_up (va_up V5 0 (upd (V5 0) 10 (-1))) 1 (upd (va_up V5 0 (upd (V5 0) 10 (-1)) 1) 1 0)) (flG (tpG g 0 (xb g)) (-1)) := (y1.flt (-1)).cut
    have e7 : fX9_endText V5 1 = some (va_up (va_up V5 0 (upd (V5 0) 10 (-1))) 1 (upd (va_up V5 0 (upd (V5 0) 10 (-1)) 1) 1 0)) := by
      unfold fX9_endText
      rw [if_neg q_10, q_lt, q_lt]
    have r7 : RS (va_up (va_up V5 0 (upd (V5 0) 10 (-1))) 1 (upd (va_up V5 0 (upd (V5 0) 10 (-1)) 1) 1 0)) 3 A' := x3.w (by rw [va_n (by omega), va_n (by omega)]) (by rw [va_n (by omega), va_n (by omega)]) (by rw [va_n (by omega), va_n (by omega)]) (by rw [va_n (by omega), va_n (by omega)])
    have y22 : va_up (va_up V5 0 (upd (V5 0) 10 (-1))) 1 (upd (va_up V5 0 (upd (V5 0) 10 (-1)) 1) 1 0) 22 = V 22 := by rw [va_n (by omega), va_n (by omega)]; exact y2
    have y76 : ∀ j, 76 ≤ j → va_up (va_up V5 0 (upd (V5 0) 10 (-1))) 1 (upd (va_up V5 0 (upd (V5 0) 10 (-1)) 1) 1 0) j = V j := fun j hj => by rw [va_n (by omega), va_n (by omega)]; exact y3 j hj
    generalize va_up (va_up V5 0 (upd (V5 0) 10 (-1))) 1 (upd (va_up V5 0 (upd (V5 0) 10 (-1)) 1) 1 0) = V7 at yc e7 r7 y22 y76
    have t7 : V7 2 5 = nI (aS (xA g) 2) := yc.1.1.2.2.1
    by_cases c12 : aS (xA g) 2 = 12
    · refine op_xg (g := g) (g' := flG (tpG g 0 (xb g)) (-1)) hM UOE ⟨V7, ?_, yc, y22, y76⟩ (fun V1 hM1 => ?_)
      · show fX9_street V = _
        unfold fX9_street
        rw [e2, q_R, x2, q_I, e7, q_R, if_neg q_10, t7, c12, if_neg (by decide)]
      · rcases m_readAll (c78_m hM1) with ⟨f', V11, z1, z2, z3, z4⟩ | ⟨A2, V11, k, z1, z2, z3, z4, z5, z6⟩
        · rw [x1] at z1; cases z1
        · rw [x1] at z1
          have z1 := Sum.inr.inj z1
          subst z1
          obtain ⟨m1, m2, m3⟩ := m_undo hM1 z6 (-1) 2 rfl rfl
          refine ⟨0, _, ?_, m1, m2, m3.trans h2.symm⟩
          show fX10_street V1 = _
          unfold fX10_street
          rw [m_cp, q_R, q_lt, show fX10_readAll (va_up V1 78 (fa_fill (V1 76) (V1 78) 1151)) 1 = _ from z2, q_I, q_ge (by omega)]
          unfold fX10_street_j46
          rw [q_lt, q_ge (by omega)]
          unfold fX10_street_j59
          rw [m_thr0, q_I, if_pos rfl, show (2 : Int32) = nI 2 from rfl, q_rd (by omega) (by omega), nI_clamp (by omega), va_n (show (76 : Nat) ≠ 22 by omega), z4.1 2 (by omega), hT.1, c12, if_pos (show nI 12 = 12 from rfl)]
          unfold fX10_street_j83
          rw [m_thr1, q_I, if_neg q_10, m_rs, q_R]
          rfl
    · obtain ⟨V9, e9, hR9, hq9⟩ := c_copy (i := 2) r7 x4 (by omega) (by omega) (by omega)
      have t9 : V9 2 5 = nI (aS (xA g) 2) := by rw [hR9.1.2.2.1, hT.1]
      have hd : Cd 2 V7 (va_up V9 2 (upd (V9 2) 5 (nI (aS (xA g) 2 + 1)))) := Cd.tr ⟨fun q a _ => hq9 q a, fun k _ => by rw [hq9 17 ⟨by omega, by omega, by omega, by omega⟩]⟩ (Cd.u (by omega) (Or.inl rfl))
      have hc := (yc.A (hR9.txt (by omega) (aS (xA g) 2 + 1)) (x4.txt (by omega)) hd).fgt
      refine op_g (g := g) hM (nI (aS (xA g) 2 + 1)) ⟨_, ?_, hc, ?_, ?_⟩ (fun V1 hM1 => ?_)
      · show fX9_street V = _
        unfold fX9_street fX0_forget
        rw [e2, q_R, x2, q_I, e7, q_R, if_neg q_10, t7, if_pos (show nI (aS (xA g) 2) < 12 from nI_lt (b := 12) (by omega) (by omega)), e9, q_R, t9, nI_1, q_lt, q_lt, q_R, va_n (show (2 : Nat) ≠ 20 by omega), va_s, pk_us]
      · rw [va_n (by omega), va_n (by omega), hq9 22 ⟨by omega, by omega, by omega, by omega⟩]; exact y22
      · intro j hj
        rw [va_n (by omega), va_n (by omega), hq9 j ⟨by omega, by omega, by omega, by omega⟩]; exact y76 j hj
      · rcases m_readAll (c78_m hM1) with ⟨f', V11, z1, z2, z3, z4⟩ | ⟨A2, V11, k, z1, z2, z3, z4, z5, z6⟩
        · rw [x1] at z1; cases z1
        · rw [x1] at z1
          have z1 := Sum.inr.inj z1
          subst z1
          have n1 := ((u3_m (c78_m hM1)).G z4 x4 hT.2 z6).flt (-1)
          have n2 := (n1.A (V' := va_up (va_up V11 22 (upd (V11 22) 14 (-1))) 76 (upd (va_up V11 22 (upd (V11 22) 14 (-1)) 76) 2 (nI (aS (xA g) 2 + 1)))) (A' := pS A' 2 (aS (xA g) 2 + 1)) (by rw [va_s, va_n (by omega)]; exact z4.s (by omega) (by omega) (by omega) (by omega)) (x4.txt (by omega)) rfl (Md.u (by omega))).fgt
          refine ⟨_, ?_, n2, ?_, ?_⟩
          · show fX10_street V1 = _
            unfold fX10_street
            rw [m_cp, q_R, q_lt, show fX10_readAll (va_up V1 78 (fa_fill (V1 76) (V1 78) 1151)) 1 = _ from z2, q_I, q_ge (by omega)]
            unfold fX10_street_j46
            rw [q_lt, q_ge (by omega)]
            unfold fX10_street_j59
            have t76 : va_up V11 22 (upd (V11 22) 14 (-1)) 76 2 = nI (aS (xA g) 2) := by rw [va_n (by omega), z4.1 2 (by omega), hT.1]
            rw [m_thr0, q_I, if_pos rfl, show (2 : Int32) = nI 2 from rfl, q_rd (by omega) (by omega), nI_clamp (by omega), t76, if_neg (show ¬ nI (aS (xA g) 2) = 12 from fun e => c12 ((nI_eq (b := 12) (by omega) (by omega)).1 e))]
            unfold fX10_street_j83
            rw [m_thr0, q_I, if_pos rfl, show (2 : Int32) = nI 2 from rfl, q_rd (by omega) (by omega), q_rd (by omega) (by omega), nI_clamp (by omega), t76, nI_1, q_lt, q_lt, q_rd (by omega) (by omega), va_n (show (76 : Nat) ≠ 22 by omega), va_s, pk_us]
          · intro j hj h22
            rw [va_n h22, va_n (by omega), va_n h22, z6.1 j h22 (by omega), u3_n h22]
            unfold c78
            rw [va_n (by omega)]
          · rw [va_s, pk_un (by omega), va_n (by omega), va_s, pk_un (by omega), z6.2.2 0 (by omega) (by omega)]
            exact u3_0
end OP
