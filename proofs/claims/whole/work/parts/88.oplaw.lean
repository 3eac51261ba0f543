/-! ===== law ===== -/
def lwG (g : GA) (l : Int32) (L : Fa → Bool) : GA := (pS (xA g) 3 1, (l, L), g.2.2)
def cpW (W : Nat → Int32) (i : Nat) : Nat → Int32 := fun q => if 314 ≤ q ∧ q < 314 + i then W (q + 837) else W q
theorem cpW_0 (W : Nat → Int32) : cpW W 0 = W := funext fun q => if_neg (by omega)
theorem cpW_s (W : Nat → Int32) {i : Nat} (hi : i < 837) : upd (cpW W i) (314 + i) (cpW W i (1151 + i)) = cpW W (i + 1) := by
  funext q
  by_cases e : q = 314 + i
  · rw [e, pk_us]
    unfold cpW
    rw [if_neg (by omega), if_pos (by omega), show 314 + i + 837 = 1151 + i by omega]
  · rw [pk_un e]
    unfold cpW
    by_cases c : 314 ≤ q ∧ q < 314 + i
    · rw [if_pos c, if_pos (by omega)]
    · rw [if_neg c, if_neg (by omega)]
theorem m_lawcp {V : VT} {x : Int32} : it_ iX10_law_L52 FV (V, x, 0) = some (x, va_up (va_up V 76 (upd (cpW (V 76) 837) 3 1)) 22 (upd (V 22) 7 0)) := by
  have e := lq (f := iX10_law_L52) (r := (x, va_up (va_up V 76 (upd (cpW (V 76) 837) 3 1)) 22 (upd (V 22) 7 0))) (fun k => va_up V 76 (cpW (V 76) k)) (fun a k => (a, x, nI k)) 837 (by omega)
    (by
      intro k hk
      unfold iX10_law_L52 fX10_law_L52
      simp only []
      rw [if_neg (show ¬ (837 : Int32) ≤ nI k from nI_ge (b := 837) hk (by omega)), q_addL, q_addL, q_rd (by omega) (by omega), q_rd (by omega) (by omega), nI_clamp (by omega), nI_clamp (by omega), va_s, va_uu, q_lt, q_lt, nI_1, cpW_s _ hk])
    (by
      unfold iX10_law_L52 fX10_law_L52
      simp only []
      rw [if_pos (show (837 : Int32) ≤ nI 837 from nI_le (Nat.le_refl _) (by omega)), show (3 : Int32) = nI 3 from rfl, q_rd (by omega) (by omega), nI_clamp (by omega), va_s, va_uu, q_lt, va_n (show (22 : Nat) ≠ 76 by omega), q_lt])
  simp only [cpW_0, va_self] at e
  exact e
theorem WA.lw {A : AT} (hW : WA A) : WA (pS A 3 1) := by
  obtain ⟨⟨a0, a1, a2, a3, a4, a5, a6, a7, a8⟩, b⟩ := hW
  exact ⟨⟨a0, a1, a2, Nat.le_refl 1, a4, a5, a6, a7, a8⟩, b⟩
theorem RS.lw {V : VT} {i : Nat} {A : AT} (hR : RS V i A) : RS V i (pS A 3 1) := hR
theorem Gl.ms {V V' : VT} (h : Gl V V') : Ms V V' := ⟨fun j a b _ _ _ => h.1 j a b, h.2.1, h.2.2 6 (by omega) (by omega) (by omega) (by omega), h.2.2 7 (by omega) (by omega) (by omega) (by omega), h.2.2 9 (by omega) (by omega) (by omega) (by omega), h.2.2 14 (by omega) (by omega) (by omega) (by omega)⟩
section OP
variable {V V1 V' : VT} {g : GA}
theorem CIN.law {l : Int32} {L : Fa → Bool} (h : CIN V g) (e : ∀ j, j ≠ 17 → j ≠ 69 → V' j = V j) (hl : V' 17 2 = l) (hL : LD (V' 17 2) (V' 17 1) (V' 69) L) : CIN V' (lwG g l L) := by
  obtain ⟨h1, h2, h3, h4, h5, h6, h7, h8, h9, h10, nx, h11, h12, h13⟩ := h
  refine ⟨(h1.w (e _ (by omega) (by omega)) (e _ (by omega) (by omega)) (e _ (by omega) (by omega)) (e _ (by omega) (by omega))).lw, h2.lw, hl, hL, by rw [e 1 (by omega) (by omega), e 23 (by omega) (by omega)]; exact h5, by rw [e 0 (by omega) (by omega)]; exact h6, by rw [e 0 (by omega) (by omega)]; exact h7, fun hk => ?_, h9, by rw [e 20 (by omega) (by omega)]; exact h10, nx, h11, by rw [e 20 (by omega) (by omega)]; exact h12, fun j hj => ⟨(h13 j hj).1.w (e _ (by omega) (by omega)) (e _ (by omega) (by omega)) (e _ (by omega) (by omega)) (e _ (by omega) (by omega)), (h13 j hj).2⟩⟩
  obtain ⟨x1, x2, x3, x4⟩ := h8 hk
  exact ⟨x1.w (e _ (by omega) (by omega)) (e _ (by omega) (by omega)) (e _ (by omega) (by omega)) (e _ (by omega) (by omega)), x2, by rw [e 19 (by omega) (by omega)]; exact x3, by rw [e 19 (by omega) (by omega), e 71 (by omega) (by omega)]; exact x4⟩
theorem MIN.law {l : Int32} {L : Fa → Bool} (h : MIN V g) (hc : xc g = 0) (e : ∀ j, j ≠ 76 → V' j = V j) (hR : RM (V' 76) (pS (xA g) 3 1)) (hl : lnW (V' 76) l) (hL : LM (V' 76) L) : MIN V' (lwG g l L) := by
  obtain ⟨h1, h2, h3, h4, h5, h6, h7, h8, h9, h10, h11⟩ := h
  exact ⟨hR, h2.lw, hl, hL, by rw [e 22 (by omega), e 81 (by omega)]; exact h5, by rw [e 22 (by omega)]; exact h6, by rw [e 22 (by omega)]; exact h7, by rw [e 77 (by omega)]; exact h8, h9, by rw [e 22 (by omega)]; exact h10, fun j hj => by
    have hj : j < xc g := hj
    omega⟩
theorem op_law {cd : String → Int32} (hI : INV V) (h1 : cd IAE = 1) : OpE (fun V => fX9_law V) (fun V => fX10_law V) cd V := by
  obtain ⟨g, hC, hM⟩ := hI
  obtain ⟨c1, c2, c3, c4⟩ := hC.2.2.2.2.1
  have key : ∀ V5, Fl V V5 → CIN V5 g ∧ V5 22 = V 22 ∧ ∀ j, 76 ≤ j → V5 j = V j := fun V5 hf => ⟨hC.w (fun j hj => hf.1 j (by omega) (by omega) (by omega)) hf.2 (fun k _ => by rw [hf.1 17 (by omega) (by omega) (by omega)]), hf.1 22 (by omega) (by omega) (by omega), fun j hj => hf.1 j (by omega) (by omega) (by omega)⟩
  rcases c_lawRead c1 c2 c3 with ⟨f, V5, x1, x2, x3, x4⟩ | ⟨C', S', Y', k, V5, x1, x2, x3, x4⟩
  · obtain ⟨y1, y2, y3⟩ := key V5 x4
    refine op_xg (g := g) (g' := flG (tpG g 0 (xb g)) (nI f)) hM IAE ⟨va_up (va_up V5 0 (upd (V5 0) 10 (nI f))) 1 (upd (va_up V5 0 (upd (V5 0) 10 (nI f)) 1) 1 0), ?_, (y1.flt (nI f)).cut, ?_, ?_⟩ (fun V1 hM1 => ?_)
    · show fX9_law V = _
      unfold fX9_law fX9_endText
      rw [x2, q_I, if_pos rfl, x3, q_lt, q_lt, q_R, if_pos rfl]
    · rw [va_n (by omega), va_n (by omega)]; exact y2
    · intro j hj
      rw [va_n (by omega), va_n (by omega)]; exact y3 j hj
    · rcases m_lawAll hM1 with ⟨f', V11, z1, z2, z3, z4⟩ | ⟨C2, S2, Y2, k2, V11, z1, z2, z3, z4, z5⟩
      · rw [x1] at z1
        have z1 := Sum.inl.inj z1
        subst z1
        have m1 := ((u3_m hM1).m z4.ms).flt (nI f)
        refine ⟨0, va_up (va_up V11 22 (upd (V11 22) 14 (nI f))) 22 (upd (va_up V11 22 (upd (V11 22) 14 (nI f)) 22) 0 1), ?_, m1.m (Ms.n (by omega) (by omega) (by omega) (by omega)), ?_, ?_⟩
        · show fX10_law V1 = _
          unfold fX10_law
          rw [z2, q_I, q_gm, z3]
          unfold fX10_law_j19
          rw [q_lt, q_gm]
          unfold fX10_law_j32
          rw [m_thr1, q_I, if_neg q_10]
        · intro j hj h22
          rw [va_n h22, va_n h22, z4.1 j h22 (by omega), u3_n h22]
        · rw [va_s, pk_us]; exact h1.symm
      · rw [x1] at z1; cases z1
  · obtain ⟨y1, y2, y3⟩ := key V5 x4
    obtain ⟨hJ, k12, lC, lS⟩ := laP_ok x1
    obtain ⟨t, hD, hWl⟩ := hJ.law (by omega) (by omega)
    have yc : CIN (va_up (va_up V5 0 (upd (V5 0) 10 (-1))) 1 (upd (va_up V5 0 (upd (V5 0) 10 (-1)) 1) 1 0)) (flG (tpG g 0 (xb g)) (-1)) := (y1.flt (-1)).cut
    have e7 : fX9_endText V5 1 = some (va_up (va_up V5 0 (upd (V5 0) 10 (-1))) 1 (upd (va_up V5 0 (upd (V5 0) 10 (-1)) 1) 1 0)) := by
      unfold fX9_endText
      rw [if_neg q_10, q_lt, q_lt]
    have r7 : Cr (va_up (va_up V5 0 (upd (V5 0) 10 (-1))) 1 (upd (va_up V5 0 (upd (V5 0) 10 (-1)) 1) 1 0)) C' k := by
      unfold Cr
      rw [va_n (by omega), va_n (by omega), va_n (by omega), va_n (by omega)]
      exact x3
    have y22 : va_up (va_up V5 0 (upd (V5 0) 10 (-1))) 1 (upd (va_up V5 0 (upd (V5 0) 10 (-1)) 1) 1 0) 22 = V 22 := by rw [va_n (by omega), va_n (by omega)]; exact y2
    have y76 : ∀ j, 76 ≤ j → va_up (va_up V5 0 (upd (V5 0) 10 (-1))) 1 (upd (va_up V5 0 (upd (V5 0) 10 (-1)) 1) 1 0) j = V j := fun j hj => by rw [va_n (by omega), va_n (by omega)]; exact y3 j hj
    generalize va_up (va_up V5 0 (upd (V5 0) 10 (-1))) 1 (upd (va_up V5 0 (upd (V5 0) 10 (-1)) 1) 1 0) = V7 at yc e7 r7 y22 y76
    obtain ⟨V9, e9, a1, a2, a3, a4⟩ := c_lawcopy (V := V7) (i := 17) (j := 18) (by omega) (by omega) (by omega) (by omega) (by omega)
    have b2 : V9 17 2 = nI k := by rw [a2]; exact r7.2.1
    have hLD : LD (V9 17 2) (V9 17 1) (V9 69) (lam k (fun j => (Y' j).1) t) := by
      refine Or.inr ⟨k, _, t, b2, k12, hD _ _ (by rw [a1]; exact r7.1) (fun q hq => ?_), rfl⟩
      rw [show V9 69 q = V7 70 q from a3 q (by omega) (by rw [r7.1]; exact nI_lt hq (by omega))]
      exact r7.2.2 q hq
    have hc := (yc.law (V' := V9) a4 b2 hLD).fgt
    refine op_g (g := g) hM (nI k) ⟨_, ?_, hc, ?_, ?_⟩ (fun V1 hM1 => ?_)
    · show fX9_law V = _
      unfold fX9_law fX0_forget
      rw [x2, q_I, e7, q_R, if_neg q_10, e9, q_R, q_lt, q_R, va_n (show (17 : Nat) ≠ 20 by omega), b2]
    · rw [va_n (by omega), a4 22 (by omega) (by omega)]; exact y22
    · intro j hj
      rw [va_n (by omega), a4 j (by omega) (by omega)]; exact y76 j hj
    · rcases m_lawAll hM1 with ⟨f', V11, z1, z2, z3, z4⟩ | ⟨C2, S2, Y2, k2, V11, z1, z2, z3, z4, z5⟩
      · rw [x1] at z1; cases z1
      · rw [x1] at z1
        cases z1
        have m1 := (((u3_m hM1).m z5.ms).flt (-1)).fgt
        have w0 : ∀ q, q < 1151 → V11 76 q = V1 76 q := fun q hq => by rw [z5.2.1 q hq, u3_n (by omega)]
        have n2 : va_up V11 22 (upd (V11 22) 14 (-1)) 76 = V11 76 := va_n (by omega)
        have wc : ∀ q, 315 ≤ q → q < 1151 → upd (cpW (upd (V11 76) 1151 (nI k)) 837) 3 1 q = V11 76 (q + 837) := fun q q1 q2 => by
          rw [pk_un (by omega)]
          unfold cpW
          rw [if_pos (by omega), pk_un (by omega)]
        have wl : ∀ q, q < 314 → cpW (upd (V11 76) 1151 (nI k)) 837 q = V1 76 q := fun q q1 => by
          unfold cpW
          rw [if_neg (by omega), pk_un (by omega), w0 q (by omega)]
        have w314 : upd (cpW (upd (V11 76) 1151 (nI k)) 837) 3 1 314 = nI k := by
          rw [pk_un (by omega)]
          unfold cpW
          rw [if_pos (by omega), pk_us]
        have w3 : upd (cpW (upd (V11 76) 1151 (nI k)) 837) 3 1 3 = 1 := pk_us
        have hRM : RM (upd (cpW (upd (V11 76) 1151 (nI k)) 837) 3 1) (pS (xA g) 3 1) := (hM1.1.w hM1.2.1 wl).s (k := 3) (v := 1) (by omega) (by omega) (by omega) (by omega)
        have hLM : LM (upd (cpW (upd (V11 76) 1151 (nI k)) 837) 3 1) (lam k (fun j => (Y' j).1) t) := by
          refine Or.inr ⟨k, _, t, w3, k12, hWl _ w314 (fun j hj => ?_) (fun q hq => ?_), rfl⟩
          · rw [wc _ (by omega) (by omega), wc _ (by omega) (by omega), wc _ (by omega) (by omega), show 315 + 3 * j + 837 = 1152 + 3 * j by omega, show 316 + 3 * j + 837 = 1152 + 3 * j + 1 by omega, show 317 + 3 * j + 837 = 1152 + 3 * j + 2 by omega]
            exact z4 j hj
          · rw [wc _ (by omega) (by omega), wc _ (by omega) (by omega), show 351 + 2 * q + 837 = 1188 + 2 * q by omega, show 352 + 2 * q + 837 = 1188 + 2 * q + 1 by omega]
            exact z3.2 q hq
        have fin : fX10_law V1 = some (nI k, va_up (va_up (va_up (va_up V11 22 (upd (V11 22) 14 (-1))) 76 (upd (V11 76) 1151 (nI k))) 76 (upd (cpW (upd (V11 76) 1151 (nI k)) 837) 3 1)) 22 (upd (va_up V11 22 (upd (V11 22) 14 (-1)) 22) 7 0)) := by
          unfold fX10_law
          rw [z2, q_I, q_ge (by omega)]
          unfold fX10_law_j19
          rw [q_lt, q_ge (by omega)]
          unfold fX10_law_j32
          rw [m_thr0, q_I, if_pos rfl, show (1151 : Int32) = nI 1151 from rfl, q_rd (by omega) (by omega), nI_clamp (by omega), n2, q_lt, m_lawcp, q_R, va_s, va_n (show (22 : Nat) ≠ 76 by omega)]
        refine ⟨_, fin, ?_, ?_, ?_⟩
        · refine MIN.law (V := va_up (va_up V11 22 (upd (V11 22) 14 (-1))) 22 (upd (va_up V11 22 (upd (V11 22) 14 (-1)) 22) 7 0)) (g := fg0 (flG (tpG g 0 (xb g)) (-1))) m1 rfl (fun j hj => ?_) ?_ ?_ ?_
          · by_cases e : j = 22
            · rw [e, va_s, va_s, va_s]
            · rw [va_n e, va_n hj, va_n hj, va_n e, va_n e, va_n e]
          · rw [va_n (by omega), va_s]; exact hRM
          · rw [va_n (by omega), va_s]; exact Or.inr ⟨w3, w314⟩
          · rw [va_n (by omega), va_s]; exact hLM
        · intro j hj h22
          rw [va_n h22, va_n (by omega), va_n (by omega), va_n h22, z5.1 j h22 (by omega), u3_n h22]
        · rw [va_s, pk_un (by omega), va_s, pk_un (by omega), z5.2.2 0 (by omega) (by omega) (by omega) (by omega)]
          exact u3_0
end OP
