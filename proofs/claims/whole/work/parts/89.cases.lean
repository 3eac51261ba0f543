/-! ===== the law's cases (by program mk_cases.py) ===== -/
section RX
variable {α : Type} {xs : Nat → Int32} {L i : Nat} {f : Int32 → Option α}
theorem rdx (k : Nat) {x : Int32} (hx : x = nI (i + k)) (h : i + k < L) (hL : L ≤ 3072) : rd_ x L (lt_ (xs x.toNatClampNeg) f) = f (xs (i + k)) := by
  rw [hx, q_rd h (by omega), nI_clamp (by omega), q_lt]
theorem rd1 (h : i + 1 < L) (hL : L ≤ 3072) : rd_ (nI i + (1 : Int32)) L (lt_ (xs (nI i + (1 : Int32)).toNatClampNeg) f) = f (xs (i + 1)) := rdx 1 (nI_1 ..) h hL
theorem rd2 (h : i + 2 < L) (hL : L ≤ 3072) : rd_ (nI i + (2 : Int32)) L (lt_ (xs (nI i + (2 : Int32)).toNatClampNeg) f) = f (xs (i + 2)) := rdx 2 (q_add i 2) h hL
theorem rd3 (h : i + 3 < L) (hL : L ≤ 3072) : rd_ (nI i + (3 : Int32)) L (lt_ (xs (nI i + (3 : Int32)).toNatClampNeg) f) = f (xs (i + 3)) := rdx 3 (q_add i 3) h hL
theorem rd4 (h : i + 4 < L) (hL : L ≤ 3072) : rd_ (nI i + (4 : Int32)) L (lt_ (xs (nI i + (4 : Int32)).toNatClampNeg) f) = f (xs (i + 4)) := rdx 4 (q_add i 4) h hL
theorem rd5 (h : i + 5 < L) (hL : L ≤ 3072) : rd_ (nI i + (5 : Int32)) L (lt_ (xs (nI i + (5 : Int32)).toNatClampNeg) f) = f (xs (i + 5)) := rdx 5 (q_add i 5) h hL
end RX
abbrev CaT : Type := Option ((VT × (Nat → Int64) × Int32) ⊕ Int32)
def Go (V : VT) (u : Int32) (X : CaT) : Prop := ∃ V' ov', X = some (.inl (V', ov', u + 6)) ∧ INV V'
section CA
variable {V : VT} {u : Int32} {ov : Nat → Int64}
theorem oe_1 {f9 : VT → Option ((String ⊕ Int32) × VT)} {f10 : VT → Option (Int32 × VT)} {A : String} (h : ∀ cd : String → Int32, cd A = 1 → OpE f9 f10 cd V) : ∃ o V1 b V2, f9 V = some (o, V1) ∧ f10 V1 = some (b, V2) ∧ INV V2 ∧ ((∃ x, o = .inr x ∧ b = x ∧ V2 22 0 = 0) ∨ (o = .inl A ∧ V2 22 0 = 1)) := by
  obtain ⟨o, V1, b, V2, h1, h2, h3, h4⟩ := h (fun s => if s = A then 1 else 5) (if_pos rfl)
  obtain ⟨o', V1', b', V2', g1, g2, g3, g4⟩ := h (fun s => if s = A then 1 else 6) (if_pos rfl)
  rw [h1] at g1
  cases g1
  rw [h2] at g2
  cases g2
  refine ⟨o, V1, b, V2, h1, h2, h3, ?_⟩
  rcases h4 with h4 | ⟨s, h4, h5⟩
  · exact .inl h4
  · rcases g4 with ⟨x, g4, -⟩ | ⟨s', g4, g5⟩
    · rw [h4] at g4; cases g4
    · rw [h4] at g4
      cases g4
      have h5 : V2 22 0 = (if s = A then 1 else 5) := h5
      have g5 : V2 22 0 = (if s = A then 1 else 6) := g5
      by_cases e : s = A
      · subst e
        rw [if_pos rfl] at h5
        exact .inr ⟨h4, h5⟩
      · rw [if_neg e] at h5 g5
        rw [h5] at g5
        exact absurd g5 (by decide)
theorem oe_2 {f9 : VT → Option ((String ⊕ Int32) × VT)} {f10 : VT → Option (Int32 × VT)} {A B : String} (hAB : ¬ B = A) (h : ∀ cd : String → Int32, cd A = 1 → cd B = 2 → OpE f9 f10 cd V) : ∃ o V1 b V2, f9 V = some (o, V1) ∧ f10 V1 = some (b, V2) ∧ INV V2 ∧ ((∃ x, o = .inr x ∧ b = x ∧ V2 22 0 = 0) ∨ (o = .inl A ∧ V2 22 0 = 1) ∨ (o = .inl B ∧ V2 22 0 = 2)) := by
  obtain ⟨o, V1, b, V2, h1, h2, h3, h4⟩ := h (fun s => if s = A then 1 else if s = B then 2 else 5) (if_pos rfl) (by rw [if_neg hAB, if_pos rfl])
  obtain ⟨o', V1', b', V2', g1, g2, g3, g4⟩ := h (fun s => if s = A then 1 else if s = B then 2 else 6) (if_pos rfl) (by rw [if_neg hAB, if_pos rfl])
  rw [h1] at g1
  cases g1
  rw [h2] at g2
  cases g2
  refine ⟨o, V1, b, V2, h1, h2, h3, ?_⟩
  rcases h4 with h4 | ⟨s, h4, h5⟩
  · exact .inl h4
  · rcases g4 with ⟨x, g4, -⟩ | ⟨s', g4, g5⟩
    · rw [h4] at g4; cases g4
    · rw [h4] at g4
      cases g4
      have h5 : V2 22 0 = (if s = A then 1 else if s = B then 2 else 5) := h5
      have g5 : V2 22 0 = (if s = A then 1 else if s = B then 2 else 6) := g5
      by_cases e : s = A
      · subst e
        rw [if_pos rfl] at h5
        exact .inr (.inl ⟨h4, h5⟩)
      · by_cases e2 : s = B
        · subst e2
          rw [if_neg e, if_pos rfl] at h5
          exact .inr (.inr ⟨h4, h5⟩)
        · rw [if_neg e, if_neg e2] at h5 g5
          rw [h5] at g5
          exact absurd g5 (by decide)
theorem q_d {a b r : Type} {x : a} {y : b} {k : a → b → r} : dt2_ (x, y) k = k x y := rfl
theorem q_th {V : VT} {α : Type} {k : Int32 → Option α} : ob_R (fX10_thrown V) k = k (V 22 0) := rfl
theorem ov_0 {x : Int64} : vp_updL ov ((0 : Int32).toNatClampNeg) x ((0 : Int32).toNatClampNeg) = x := if_pos rfl
/-- the law's end of a call that may throw -/
theorem go_E {hL : String ⊕ Int32 → (Nat → Int64) → Option (Int32 × (Nat → Int64))} {o : String ⊕ Int32} {V1 V2 : VT} {b : Int32} {F10 : Option (Int32 × VT)} (h2 : F10 = some (b, V2)) (h3 : INV V2) (h4 : (∃ x, o = .inr x ∧ b = x ∧ V2 22 0 = 0 ∧ hL o ov = some (0, vp_updL ov ((0 : Int32).toNatClampNeg) x.toInt64)) ∨ (∃ c, ¬ c = 0 ∧ hL o ov = some (c, ov) ∧ V2 22 0 = c)) : Go V u (ob_R (hL o ov) fun qy => dt2_ qy fun y w => ob_I F10 fun y8 V9 => ob_R (fX10_thrown V9) fun y11 => if y11 = y then (if y = 0 then (if (lg_cmp (w ((0 : Int32).toNatClampNeg)) y8.toInt64) = 0 then (lt_ (u + (6 : Int32)) fun y13 => some (.inl (V9, w, y13))) else (some (.inr (0 : Int32)))) else (lt_ (u + (6 : Int32)) fun y12 => some (.inl (V9, w, y12)))) else (some (.inr (0 : Int32)))) := by
  rw [h2]
  rcases h4 with ⟨x, rfl, rfl, e, eh⟩ | ⟨c, hc, eh, e⟩
  · rw [eh, q_R, q_d, q_I, q_th, if_pos e, if_pos rfl, if_pos ((lg_cmp_eq _ _).2 ov_0), q_lt]
    exact ⟨_, _, rfl, h3⟩
  · rw [eh, q_R, q_d, q_I, q_th, if_pos e, if_neg hc, q_lt]
    exact ⟨_, _, rfl, h3⟩
theorem go_B {hL : String ⊕ Int32 → (Nat → Int64) → Option (Int32 × (Nat → Int64))} {o : String ⊕ Int32} {V1 V2 : VT} {b : Int32} {F10 : Option (Int32 × VT)} (h2 : F10 = some (b, V2)) (h3 : INV V2) (h4 : (∃ x, o = .inr x ∧ b = x ∧ V2 22 0 = 0 ∧ hL o ov = some (0, vp_updL ov ((0 : Int32).toNatClampNeg) (if x = 0 then (0 : Int64) else (1 : Int64)))) ∨ (∃ c, ¬ c = 0 ∧ hL o ov = some (c, ov) ∧ V2 22 0 = c)) : Go V u (ob_R (hL o ov) fun qy => dt2_ qy fun y w => ob_I F10 fun y20 V9 => ob_R (fX10_thrown V9) fun y11 => if y11 = y then (if y = 0 then (if y20 = 0 then (if (lg_cmp (w ((0 : Int32).toNatClampNeg)) (0 : Int64)) = 0 then (lt_ (u + (6 : Int32)) fun y25 => some (.inl (V9, w, y25))) else (some (.inr (0 : Int32)))) else (if (lg_cmp (w ((0 : Int32).toNatClampNeg)) (1 : Int64)) = 0 then (lt_ (u + (6 : Int32)) fun y27 => some (.inl (V9, w, y27))) else (some (.inr (0 : Int32))))) else (lt_ (u + (6 : Int32)) fun y12 => some (.inl (V9, w, y12)))) else (some (.inr (0 : Int32)))) := by
  rw [h2]
  rcases h4 with ⟨x, rfl, rfl, e, eh⟩ | ⟨c, hc, eh, e⟩
  · rw [eh, q_R, q_d, q_I, q_th, if_pos e, if_pos rfl]
    by_cases c : b = 0
    · rw [if_pos c, if_pos ((lg_cmp_eq _ _).2 (ov_0.trans (if_pos c))), q_lt]
      exact ⟨_, _, rfl, h3⟩
    · rw [if_neg c, if_pos ((lg_cmp_eq _ _).2 (ov_0.trans (if_neg c))), q_lt]
      exact ⟨_, _, rfl, h3⟩
  · rw [eh, q_R, q_d, q_I, q_th, if_pos e, if_neg hc, q_lt]
    exact ⟨_, _, rfl, h3⟩
theorem go_I {f9 f10 : VT → Option (Int32 × VT)} (h : OpI f9 f10 V) : Go V u (ob_I (f9 V) fun y2 V3 => ob_I (f10 V3) fun y5 V6 => if y2 = y5 then (lt_ (u + (6 : Int32)) fun y7 => some (.inl (V6, ov, y7))) else (some (.inr (0 : Int32)))) := by
  obtain ⟨x, V1, V2, h1, h2, h3⟩ := h
  rw [h1, q_I, h2, q_I, if_pos rfl, q_lt]
  exact ⟨_, _, rfl, h3⟩
theorem go_R {f9 : VT → Option Int32} {f10 : VT → Option (Int32 × VT)} (h : OpI (fun V => ob_R (f9 V) fun y => some (y, V)) f10 V) : Go V u (ob_R (f9 V) fun y2 => ob_I (f10 V) fun y5 V6 => if y2 = y5 then (lt_ (u + (6 : Int32)) fun y7 => some (.inl (V6, ov, y7))) else (some (.inr (0 : Int32)))) := by
  obtain ⟨x, V1, V2, h1, h2, h3⟩ := h
  obtain ⟨y, e1, e2⟩ := ob_R_some h1
  cases e2
  rw [e1, q_R, h2, q_I, if_pos rfl, q_lt]
  exact ⟨_, _, rfl, h3⟩
end CA
section CS
variable {xs : Nat → Int32} {L i : Nat} {V : VT} {ov : Nat → Int64}
theorem go_c0 (hI : INV V) (hi : i + 6 ≤ L) (hL : L ≤ 3072) : Go V (nI i) (fL_c0 xs L V ov (nI i)) := by
  unfold fL_c0
  simp only [rd1 (xs := xs) (i := i) (show i + 1 < L by omega) hL, rd2 (xs := xs) (i := i) (show i + 2 < L by omega) hL, rd3 (xs := xs) (i := i) (show i + 3 < L by omega) hL, rd4 (xs := xs) (i := i) (show i + 4 < L by omega) hL, rd5 (xs := xs) (i := i) (show i + 5 < L by omega) hL]
  exact go_I (op_feed hI (xs (i + 1)) (xs (i + 2)) (xs (i + 3)) (xs (i + 4)) (xs (i + 5)))
theorem go_c1 (hI : INV V) (hi : i + 6 ≤ L) (hL : L ≤ 3072) : Go V (nI i) (fL_c1 xs L V ov (nI i)) := by
  unfold fL_c1
  simp only [rd1 (xs := xs) (i := i) (show i + 1 < L by omega) hL]
  exact go_I (op_end hI (xs (i + 1)))
theorem go_c2 (hI : INV V) (hi : i + 6 ≤ L) (hL : L ≤ 3072) : Go V (nI i) (fL_c2 xs L V ov (nI i)) := by
  unfold fL_c2
  obtain ⟨o, V1, b, V2, h1, h2, h3, h4⟩ := oe_2 (A := IAE) (B := UOE) (by decide) (fun cd h1 h2 => op_street hI h1 h2 )
  have h1 : fX9_street V  = _ := h1
  rw [h1, q_I]
  refine go_E (V := V) (hL := hL_street) (V1 := V1) h2 h3 ?_
  rcases h4 with ⟨x, rfl, h5, h6⟩ | ⟨rfl, h6⟩ | ⟨rfl, h6⟩
  · exact .inl ⟨x, rfl, h5, h6, rfl⟩
  · exact .inr ⟨1, by decide, by unfold hL_street; exact if_pos rfl, h6⟩
  · exact .inr ⟨2, by decide, by show (if UOE = IAE then some ((1 : Int32), ov) else if UOE = UOE then some (2, ov) else none) = _; rw [if_neg (show ¬ UOE = IAE by decide), if_pos rfl], h6⟩
theorem go_c3 (hI : INV V) (hi : i + 6 ≤ L) (hL : L ≤ 3072) : Go V (nI i) (fL_c3 xs L V ov (nI i)) := by
  unfold fL_c3
  obtain ⟨o, V1, b, V2, h1, h2, h3, h4⟩ := oe_1 (A := IAE) (fun cd h1 => op_law hI h1 )
  have h1 : fX9_law V  = _ := h1
  rw [h1, q_I]
  refine go_E (V := V) (hL := hL_law) (V1 := V1) h2 h3 ?_
  rcases h4 with ⟨x, rfl, h5, h6⟩ | ⟨rfl, h6⟩
  · exact .inl ⟨x, rfl, h5, h6, rfl⟩
  · exact .inr ⟨1, by decide, by unfold hL_law; exact if_pos rfl, h6⟩
theorem go_c4 (hI : INV V) (hi : i + 6 ≤ L) (hL : L ≤ 3072) : Go V (nI i) (fL_c4 xs L V ov (nI i)) := by
  unfold fL_c4
  exact go_R (op_fault hI )
theorem go_c5 (hI : INV V) (hi : i + 6 ≤ L) (hL : L ≤ 3072) : Go V (nI i) (fL_c5 xs L V ov (nI i)) := by
  unfold fL_c5
  simp only [rd1 (xs := xs) (i := i) (show i + 1 < L by omega) hL, rd2 (xs := xs) (i := i) (show i + 2 < L by omega) hL]
  obtain ⟨o, V1, b, V2, h1, h2, h3, h4⟩ := oe_2 (A := IOOB) (B := NSE) (by decide) (fun cd h1 h2 => op_house hI h1 h2 (xs (i + 1)) (xs (i + 2)))
  have h1 : fX9_house V (xs (i + 1)) (xs (i + 2)) = _ := h1
  rw [h1, q_I]
  refine go_E (V := V) (hL := hL_house) (V1 := V1) h2 h3 ?_
  rcases h4 with ⟨x, rfl, h5, h6⟩ | ⟨rfl, h6⟩ | ⟨rfl, h6⟩
  · exact .inl ⟨x, rfl, h5, h6, rfl⟩
  · exact .inr ⟨1, by decide, by unfold hL_house; exact if_pos rfl, h6⟩
  · exact .inr ⟨2, by decide, by show (if NSE = IOOB then some ((1 : Int32), ov) else if NSE = NSE then some (2, ov) else none) = _; rw [if_neg (show ¬ NSE = IOOB by decide), if_pos rfl], h6⟩
theorem go_c6 (hI : INV V) (hi : i + 6 ≤ L) (hL : L ≤ 3072) : Go V (nI i) (fL_c6 xs L V ov (nI i)) := by
  unfold fL_c6
  simp only [rd1 (xs := xs) (i := i) (show i + 1 < L by omega) hL, rd2 (xs := xs) (i := i) (show i + 2 < L by omega) hL]
  obtain ⟨o, V1, b, V2, h1, h2, h3, h4⟩ := oe_2 (A := IOOB) (B := NSE) (by decide) (fun cd h1 h2 => op_deed hI h1 h2 (xs (i + 1)) (xs (i + 2)))
  have h1 : fX9_deed V (xs (i + 1)) (xs (i + 2)) = _ := h1
  rw [h1, q_I]
  refine go_E (V := V) (hL := hL_deed) (V1 := V1) h2 h3 ?_
  rcases h4 with ⟨x, rfl, h5, h6⟩ | ⟨rfl, h6⟩ | ⟨rfl, h6⟩
  · exact .inl ⟨x, rfl, h5, h6, rfl⟩
  · exact .inr ⟨1, by decide, by unfold hL_deed; exact if_pos rfl, h6⟩
  · exact .inr ⟨2, by decide, by show (if NSE = IOOB then some ((1 : Int32), ov) else if NSE = NSE then some (2, ov) else none) = _; rw [if_neg (show ¬ NSE = IOOB by decide), if_pos rfl], h6⟩
theorem go_c7 (hI : INV V) (hi : i + 6 ≤ L) (hL : L ≤ 3072) : Go V (nI i) (fL_c7 xs L V ov (nI i)) := by
  unfold fL_c7
  simp only [rd1 (xs := xs) (i := i) (show i + 1 < L by omega) hL, rd2 (xs := xs) (i := i) (show i + 2 < L by omega) hL, rd3 (xs := xs) (i := i) (show i + 3 < L by omega) hL]
  obtain ⟨o, V1, b, V2, h1, h2, h3, h4⟩ := oe_1 (A := IOOB) (fun cd h1 => op_sees hI h1 (xs (i + 1)) (xs (i + 2)) (xs (i + 3)))
  have h1 : fX9_sees V (xs (i + 1)) (xs (i + 2)) (xs (i + 3)) = _ := h1
  rw [h1, q_I]
  refine go_B (V := V) (hL := hL_sees) (V1 := V1) h2 h3 ?_
  rcases h4 with ⟨x, rfl, h5, h6⟩ | ⟨rfl, h6⟩
  · exact .inl ⟨x, rfl, h5, h6, rfl⟩
  · exact .inr ⟨1, by decide, by unfold hL_sees; exact if_pos rfl, h6⟩
theorem go_c8 (hI : INV V) (hi : i + 6 ≤ L) (hL : L ≤ 3072) : Go V (nI i) (fL_c8 xs L V ov (nI i)) := by
  unfold fL_c8
  simp only [rd1 (xs := xs) (i := i) (show i + 1 < L by omega) hL]
  obtain ⟨o, V1, b, V2, h1, h2, h3, h4⟩ := oe_2 (A := IOOB) (B := ISE) (by decide) (fun cd h1 h2 => op_done hI h1 h2 (xs (i + 1)))
  have h1 : fX9_done V (xs (i + 1)) = _ := h1
  rw [h1, q_I]
  refine go_E (V := V) (hL := hL_done) (V1 := V1) h2 h3 ?_
  rcases h4 with ⟨x, rfl, h5, h6⟩ | ⟨rfl, h6⟩ | ⟨rfl, h6⟩
  · exact .inl ⟨x, rfl, h5, h6, rfl⟩
  · exact .inr ⟨1, by decide, by unfold hL_done; exact if_pos rfl, h6⟩
  · exact .inr ⟨2, by decide, by show (if ISE = IOOB then some ((1 : Int32), ov) else if ISE = ISE then some (2, ov) else none) = _; rw [if_neg (show ¬ ISE = IOOB by decide), if_pos rfl], h6⟩
theorem go_c9 (hI : INV V) (hi : i + 6 ≤ L) (hL : L ≤ 3072) : Go V (nI i) (fL_c9 xs L V ov (nI i)) := by
  unfold fL_c9
  simp only [rd1 (xs := xs) (i := i) (show i + 1 < L by omega) hL, rd2 (xs := xs) (i := i) (show i + 2 < L by omega) hL]
  obtain ⟨o, V1, b, V2, h1, h2, h3, h4⟩ := oe_2 (A := IOOB) (B := ISE) (by decide) (fun cd h1 h2 => op_say hI h1 h2 (xs (i + 1)) (xs (i + 2)))
  have h1 : fX9_say V (xs (i + 1)) (xs (i + 2)) = _ := h1
  rw [h1, q_I]
  refine go_B (V := V) (hL := hL_say) (V1 := V1) h2 h3 ?_
  rcases h4 with ⟨x, rfl, h5, h6⟩ | ⟨rfl, h6⟩ | ⟨rfl, h6⟩
  · exact .inl ⟨x, rfl, h5, h6, rfl⟩
  · exact .inr ⟨1, by decide, by unfold hL_say; exact if_pos rfl, h6⟩
  · exact .inr ⟨2, by decide, by show (if ISE = IOOB then some ((1 : Int32), ov) else if ISE = ISE then some (2, ov) else none) = _; rw [if_neg (show ¬ ISE = IOOB by decide), if_pos rfl], h6⟩
theorem go_c10 (hI : INV V) (hi : i + 6 ≤ L) (hL : L ≤ 3072) : Go V (nI i) (fL_c10 xs L V ov (nI i)) := by
  unfold fL_c10
  simp only [rd1 (xs := xs) (i := i) (show i + 1 < L by omega) hL, rd2 (xs := xs) (i := i) (show i + 2 < L by omega) hL]
  by_cases c : xs (i + 2) = 0
  · simp only [if_pos c]
    obtain ⟨o, V1, b, V2, h1, h2, h3, h4⟩ := oe_1 (A := IOOB) (fun cd h1 => op_away hI h1 (xs (i + 1)) false)
    have h1 : fX9_away V (xs (i + 1)) (0 : Int32) = _ := h1
    rw [h1, q_I]
    refine go_B (V := V) (hL := hL_away) (V1 := V1) h2 h3 ?_
    rcases h4 with ⟨x, rfl, h5, h6⟩ | ⟨rfl, h6⟩
    · exact .inl ⟨x, rfl, h5, h6, rfl⟩
    · exact .inr ⟨1, by decide, by unfold hL_away; exact if_pos rfl, h6⟩
  · simp only [if_neg c]
    obtain ⟨o, V1, b, V2, h1, h2, h3, h4⟩ := oe_1 (A := IOOB) (fun cd h1 => op_away hI h1 (xs (i + 1)) true)
    have h1 : fX9_away V (xs (i + 1)) (1 : Int32) = _ := h1
    rw [h1, q_I]
    refine go_B (V := V) (hL := hL_away) (V1 := V1) h2 h3 ?_
    rcases h4 with ⟨x, rfl, h5, h6⟩ | ⟨rfl, h6⟩
    · exact .inl ⟨x, rfl, h5, h6, rfl⟩
    · exact .inr ⟨1, by decide, by unfold hL_away; exact if_pos rfl, h6⟩
theorem go_c11 (hI : INV V) (hi : i + 6 ≤ L) (hL : L ≤ 3072) : Go V (nI i) (fL_c11 xs L V ov (nI i)) := by
  unfold fL_c11
  simp only [rd1 (xs := xs) (i := i) (show i + 1 < L by omega) hL]
  obtain ⟨o, V1, b, V2, h1, h2, h3, h4⟩ := oe_2 (A := IOOB) (B := ISE) (by decide) (fun cd h1 h2 => op_mirror hI h1 h2 (xs (i + 1)))
  have h1 : fX9_mirror V (xs (i + 1)) = _ := h1
  rw [h1, q_I]
  refine go_E (V := V) (hL := hL_mirror) (V1 := V1) h2 h3 ?_
  rcases h4 with ⟨x, rfl, h5, h6⟩ | ⟨rfl, h6⟩ | ⟨rfl, h6⟩
  · exact .inl ⟨x, rfl, h5, h6, rfl⟩
  · exact .inr ⟨1, by decide, by unfold hL_mirror; exact if_pos rfl, h6⟩
  · exact .inr ⟨2, by decide, by show (if ISE = IOOB then some ((1 : Int32), ov) else if ISE = ISE then some (2, ov) else none) = _; rw [if_neg (show ¬ ISE = IOOB by decide), if_pos rfl], h6⟩
theorem go_c12 (hI : INV V) (hi : i + 6 ≤ L) (hL : L ≤ 3072) : Go V (nI i) (fL_c12 xs L V ov (nI i)) := by
  unfold fL_c12
  simp only [rd1 (xs := xs) (i := i) (show i + 1 < L by omega) hL, rd2 (xs := xs) (i := i) (show i + 2 < L by omega) hL, rd3 (xs := xs) (i := i) (show i + 3 < L by omega) hL]
  obtain ⟨o, V1, b, V2, h1, h2, h3, h4⟩ := oe_2 (A := IOOB) (B := IAE) (by decide) (fun cd h1 h2 => op_up hI h1 h2 (xs (i + 1)) (xs (i + 2)) (xs (i + 3)))
  have h1 : fX9_up V (xs (i + 1)) (xs (i + 2)) (xs (i + 3)) = _ := h1
  rw [h1, q_I]
  refine go_E (V := V) (hL := hL_up) (V1 := V1) h2 h3 ?_
  rcases h4 with ⟨x, rfl, h5, h6⟩ | ⟨rfl, h6⟩ | ⟨rfl, h6⟩
  · exact .inl ⟨x, rfl, h5, h6, rfl⟩
  · exact .inr ⟨1, by decide, by unfold hL_up; exact if_pos rfl, h6⟩
  · exact .inr ⟨2, by decide, by show (if IAE = IOOB then some ((1 : Int32), ov) else if IAE = IAE then some (2, ov) else none) = _; rw [if_neg (show ¬ IAE = IOOB by decide), if_pos rfl], h6⟩
theorem go_c13 (hI : INV V) (hi : i + 6 ≤ L) (hL : L ≤ 3072) : Go V (nI i) (fL_c13 xs L V ov (nI i)) := by
  unfold fL_c13
  simp only [rd1 (xs := xs) (i := i) (show i + 1 < L by omega) hL, rd2 (xs := xs) (i := i) (show i + 2 < L by omega) hL]
  obtain ⟨o, V1, b, V2, h1, h2, h3, h4⟩ := oe_2 (A := IOOB) (B := IAE) (by decide) (fun cd h1 h2 => op_spite hI h1 h2 (xs (i + 1)) (xs (i + 2)))
  have h1 : fX9_spite V (xs (i + 1)) (xs (i + 2)) = _ := h1
  rw [h1, q_I]
  refine go_E (V := V) (hL := hL_spite) (V1 := V1) h2 h3 ?_
  rcases h4 with ⟨x, rfl, h5, h6⟩ | ⟨rfl, h6⟩ | ⟨rfl, h6⟩
  · exact .inl ⟨x, rfl, h5, h6, rfl⟩
  · exact .inr ⟨1, by decide, by unfold hL_spite; exact if_pos rfl, h6⟩
  · exact .inr ⟨2, by decide, by show (if IAE = IOOB then some ((1 : Int32), ov) else if IAE = IAE then some (2, ov) else none) = _; rw [if_neg (show ¬ IAE = IOOB by decide), if_pos rfl], h6⟩
theorem go_c14 (hI : INV V) (hi : i + 6 ≤ L) (hL : L ≤ 3072) : Go V (nI i) (fL_c14 xs L V ov (nI i)) := by
  unfold fL_c14
  simp only [rd1 (xs := xs) (i := i) (show i + 1 < L by omega) hL]
  obtain ⟨o, V1, b, V2, h1, h2, h3, h4⟩ := oe_2 (A := IOOB) (B := UOE) (by decide) (fun cd h1 h2 => op_lodger hI h1 h2 (xs (i + 1)))
  have h1 : fX9_lodger V (xs (i + 1)) = _ := h1
  rw [h1, q_I]
  refine go_E (V := V) (hL := hL_lodger) (V1 := V1) h2 h3 ?_
  rcases h4 with ⟨x, rfl, h5, h6⟩ | ⟨rfl, h6⟩ | ⟨rfl, h6⟩
  · exact .inl ⟨x, rfl, h5, h6, rfl⟩
  · exact .inr ⟨1, by decide, by unfold hL_lodger; exact if_pos rfl, h6⟩
  · exact .inr ⟨2, by decide, by show (if UOE = IOOB then some ((1 : Int32), ov) else if UOE = UOE then some (2, ov) else none) = _; rw [if_neg (show ¬ UOE = IOOB by decide), if_pos rfl], h6⟩
theorem go_c15 (hI : INV V) (hi : i + 6 ≤ L) (hL : L ≤ 3072) : Go V (nI i) (fL_c15 xs L V ov (nI i)) := by
  unfold fL_c15
  simp only [rd1 (xs := xs) (i := i) (show i + 1 < L by omega) hL]
  obtain ⟨o, V1, b, V2, h1, h2, h3, h4⟩ := oe_1 (A := IAE) (fun cd h1 => op_days hI h1 (xs (i + 1)))
  have h1 : fX9_days V (xs (i + 1)) = _ := h1
  rw [h1, q_I]
  refine go_E (V := V) (hL := hL_days) (V1 := V1) h2 h3 ?_
  rcases h4 with ⟨x, rfl, h5, h6⟩ | ⟨rfl, h6⟩
  · exact .inl ⟨x, rfl, h5, h6, rfl⟩
  · exact .inr ⟨1, by decide, by unfold hL_days; exact if_pos rfl, h6⟩
theorem go_c16 (hI : INV V) (hi : i + 6 ≤ L) (hL : L ≤ 3072) : Go V (nI i) (fL_c16 xs L V ov (nI i)) := by
  unfold fL_c16
  simp only [rd1 (xs := xs) (i := i) (show i + 1 < L by omega) hL, rd2 (xs := xs) (i := i) (show i + 2 < L by omega) hL]
  obtain ⟨o, V1, b, V2, h1, h2, h3, h4⟩ := oe_1 (A := IOOB) (fun cd h1 => op_witnesses hI h1 (xs (i + 1)) (xs (i + 2)))
  have h1 : fX9_witnesses V (xs (i + 1)) (xs (i + 2)) = _ := h1
  rw [h1, q_I]
  refine go_E (V := V) (hL := hL_witnesses) (V1 := V1) h2 h3 ?_
  rcases h4 with ⟨x, rfl, h5, h6⟩ | ⟨rfl, h6⟩
  · exact .inl ⟨x, rfl, h5, h6, rfl⟩
  · exact .inr ⟨1, by decide, by unfold hL_witnesses; exact if_pos rfl, h6⟩
theorem go_c17 (hI : INV V) (hi : i + 6 ≤ L) (hL : L ≤ 3072) : Go V (nI i) (fL_c17 xs L V ov (nI i)) := by
  unfold fL_c17
  simp only [rd1 (xs := xs) (i := i) (show i + 1 < L by omega) hL, rd2 (xs := xs) (i := i) (show i + 2 < L by omega) hL]
  by_cases c : xs (i + 2) = 0
  · simp only [if_pos c]
    obtain ⟨o, V1, b, V2, h1, h2, h3, h4⟩ := oe_1 (A := IOOB) (fun cd h1 => op_open hI h1 (xs (i + 1)) false)
    have h1 : fX9_open V (xs (i + 1)) (0 : Int32) = _ := h1
    rw [h1, q_I]
    refine go_E (V := V) (hL := hL_open) (V1 := V1) h2 h3 ?_
    rcases h4 with ⟨x, rfl, h5, h6⟩ | ⟨rfl, h6⟩
    · exact .inl ⟨x, rfl, h5, h6, rfl⟩
    · exact .inr ⟨1, by decide, by unfold hL_open; exact if_pos rfl, h6⟩
  · simp only [if_neg c]
    obtain ⟨o, V1, b, V2, h1, h2, h3, h4⟩ := oe_1 (A := IOOB) (fun cd h1 => op_open hI h1 (xs (i + 1)) true)
    have h1 : fX9_open V (xs (i + 1)) (1 : Int32) = _ := h1
    rw [h1, q_I]
    refine go_E (V := V) (hL := hL_open) (V1 := V1) h2 h3 ?_
    rcases h4 with ⟨x, rfl, h5, h6⟩ | ⟨rfl, h6⟩
    · exact .inl ⟨x, rfl, h5, h6, rfl⟩
    · exact .inr ⟨1, by decide, by unfold hL_open; exact if_pos rfl, h6⟩
theorem go_c18 (hI : INV V) (hi : i + 6 ≤ L) (hL : L ≤ 3072) : Go V (nI i) (fL_c18 xs L V ov (nI i)) := by
  unfold fL_c18
  exact go_I (op_best hI )
theorem go_c19 (hI : INV V) (hi : i + 6 ≤ L) (hL : L ≤ 3072) : Go V (nI i) (fL_c19 xs L V ov (nI i)) := by
  unfold fL_c19
  simp only [rd1 (xs := xs) (i := i) (show i + 1 < L by omega) hL, rd2 (xs := xs) (i := i) (show i + 2 < L by omega) hL]
  obtain ⟨o, V1, b, V2, h1, h2, h3, h4⟩ := oe_1 (A := IOOB) (fun cd h1 => op_wake hI h1 (xs (i + 1)) (xs (i + 2)))
  have h1 : fX9_wake V (xs (i + 1)) (xs (i + 2)) = _ := h1
  rw [h1, q_I]
  refine go_E (V := V) (hL := hL_wake) (V1 := V1) h2 h3 ?_
  rcases h4 with ⟨x, rfl, h5, h6⟩ | ⟨rfl, h6⟩
  · exact .inl ⟨x, rfl, h5, h6, rfl⟩
  · exact .inr ⟨1, by decide, by unfold hL_wake; exact if_pos rfl, h6⟩
theorem go_c20 (hI : INV V) (hi : i + 6 ≤ L) (hL : L ≤ 3072) : Go V (nI i) (fL_c20 xs L V ov (nI i)) := by
  unfold fL_c20
  simp only [rd1 (xs := xs) (i := i) (show i + 1 < L by omega) hL, rd2 (xs := xs) (i := i) (show i + 2 < L by omega) hL]
  obtain ⟨o, V1, b, V2, h1, h2, h3, h4⟩ := oe_1 (A := IOOB) (fun cd h1 => op_mirrors hI h1 (xs (i + 1)) (xs (i + 2)))
  have h1 : fX9_mirrors V (xs (i + 1)) (xs (i + 2)) = _ := h1
  rw [h1, q_I]
  refine go_E (V := V) (hL := hL_mirrors) (V1 := V1) h2 h3 ?_
  rcases h4 with ⟨x, rfl, h5, h6⟩ | ⟨rfl, h6⟩
  · exact .inl ⟨x, rfl, h5, h6, rfl⟩
  · exact .inr ⟨1, by decide, by unfold hL_mirrors; exact if_pos rfl, h6⟩
theorem go_c21 (hI : INV V) (hi : i + 6 ≤ L) (hL : L ≤ 3072) : Go V (nI i) (fL_c21 xs L V ov (nI i)) := by
  unfold fL_c21
  simp only [rd1 (xs := xs) (i := i) (show i + 1 < L by omega) hL]
  obtain ⟨o, V1, b, V2, h1, h2, h3, h4⟩ := oe_1 (A := IOOB) (fun cd h1 => op_unseen hI h1 (xs (i + 1)))
  have h1 : fX9_unseen V (xs (i + 1)) = _ := h1
  rw [h1, q_I]
  refine go_E (V := V) (hL := hL_unseen) (V1 := V1) h2 h3 ?_
  rcases h4 with ⟨x, rfl, h5, h6⟩ | ⟨rfl, h6⟩
  · exact .inl ⟨x, rfl, h5, h6, rfl⟩
  · exact .inr ⟨1, by decide, by unfold hL_unseen; exact if_pos rfl, h6⟩
theorem go_c22 (hI : INV V) (hi : i + 6 ≤ L) (hL : L ≤ 3072) : Go V (nI i) (fL_c22 xs L V ov (nI i)) := by
  unfold fL_c22
  simp only [rd1 (xs := xs) (i := i) (show i + 1 < L by omega) hL, rd2 (xs := xs) (i := i) (show i + 2 < L by omega) hL, rd3 (xs := xs) (i := i) (show i + 3 < L by omega) hL]
  obtain ⟨o, V1, b, V2, h1, h2, h3, h4⟩ := oe_1 (A := IOOB) (fun cd h1 => op_thief hI h1 (xs (i + 1)) (xs (i + 2)) (xs (i + 3)))
  have h1 : fX9_thief V (xs (i + 1)) (xs (i + 2)) (xs (i + 3)) = _ := h1
  rw [h1, q_I]
  refine go_E (V := V) (hL := hL_thief) (V1 := V1) h2 h3 ?_
  rcases h4 with ⟨x, rfl, h5, h6⟩ | ⟨rfl, h6⟩
  · exact .inl ⟨x, rfl, h5, h6, rfl⟩
  · exact .inr ⟨1, by decide, by unfold hL_thief; exact if_pos rfl, h6⟩
theorem go_c23 (hI : INV V) (hi : i + 6 ≤ L) (hL : L ≤ 3072) : Go V (nI i) (fL_c23 xs L V ov (nI i)) := by
  unfold fL_c23
  simp only [rd1 (xs := xs) (i := i) (show i + 1 < L by omega) hL, rd2 (xs := xs) (i := i) (show i + 2 < L by omega) hL]
  obtain ⟨o, V1, b, V2, h1, h2, h3, h4⟩ := oe_1 (A := IOOB) (fun cd h1 => op_clear hI h1 (xs (i + 1)) (xs (i + 2)))
  have h1 : fX9_clear V (xs (i + 1)) (xs (i + 2)) = _ := h1
  rw [h1, q_I]
  refine go_E (V := V) (hL := hL_clear) (V1 := V1) h2 h3 ?_
  rcases h4 with ⟨x, rfl, h5, h6⟩ | ⟨rfl, h6⟩
  · exact .inl ⟨x, rfl, h5, h6, rfl⟩
  · exact .inr ⟨1, by decide, by unfold hL_clear; exact if_pos rfl, h6⟩
theorem go_c24 (hI : INV V) (hi : i + 6 ≤ L) (hL : L ≤ 3072) : Go V (nI i) (fL_c24 xs L V ov (nI i)) := by
  unfold fL_c24
  simp only [rd1 (xs := xs) (i := i) (show i + 1 < L by omega) hL, rd2 (xs := xs) (i := i) (show i + 2 < L by omega) hL]
  obtain ⟨o, V1, b, V2, h1, h2, h3, h4⟩ := oe_2 (A := IOOB) (B := IAE) (by decide) (fun cd h1 h2 => op_soonest hI h1 h2 (xs (i + 1)) (xs (i + 2)))
  have h1 : fX9_soonest V (xs (i + 1)) (xs (i + 2)) = _ := h1
  rw [h1, q_I]
  refine go_E (V := V) (hL := hL_soonest) (V1 := V1) h2 h3 ?_
  rcases h4 with ⟨x, rfl, h5, h6⟩ | ⟨rfl, h6⟩ | ⟨rfl, h6⟩
  · exact .inl ⟨x, rfl, h5, h6, rfl⟩
  · exact .inr ⟨1, by decide, by unfold hL_soonest; exact if_pos rfl, h6⟩
  · exact .inr ⟨2, by decide, by show (if IAE = IOOB then some ((1 : Int32), ov) else if IAE = IAE then some (2, ov) else none) = _; rw [if_neg (show ¬ IAE = IOOB by decide), if_pos rfl], h6⟩
theorem go_c25 (hI : INV V) (hi : i + 6 ≤ L) (hL : L ≤ 3072) : Go V (nI i) (fL_c25 xs L V ov (nI i)) := by
  unfold fL_c25
  simp only [rd1 (xs := xs) (i := i) (show i + 1 < L by omega) hL, rd2 (xs := xs) (i := i) (show i + 2 < L by omega) hL]
  obtain ⟨o, V1, b, V2, h1, h2, h3, h4⟩ := oe_1 (A := IAE) (fun cd h1 => op_ahead hI h1 (xs (i + 1)) (xs (i + 2)))
  have h1 : fX9_ahead V (xs (i + 1)) (xs (i + 2)) = _ := h1
  rw [h1, q_I]
  refine go_E (V := V) (hL := hL_ahead) (V1 := V1) h2 h3 ?_
  rcases h4 with ⟨x, rfl, h5, h6⟩ | ⟨rfl, h6⟩
  · exact .inl ⟨x, rfl, h5, h6, rfl⟩
  · exact .inr ⟨1, by decide, by unfold hL_ahead; exact if_pos rfl, h6⟩
theorem go_c26 (hI : INV V) (hi : i + 6 ≤ L) (hL : L ≤ 3072) : Go V (nI i) (fL_c26 xs L V ov (nI i)) := by
  unfold fL_c26
  simp only [rd1 (xs := xs) (i := i) (show i + 1 < L by omega) hL]
  obtain ⟨o, V1, b, V2, h1, h2, h3, h4⟩ := oe_1 (A := IAE) (fun cd h1 => op_later hI h1 (xs (i + 1)))
  have h1 : fX9_later V (xs (i + 1)) = _ := h1
  rw [h1, q_I]
  refine go_E (V := V) (hL := hL_later) (V1 := V1) h2 h3 ?_
  rcases h4 with ⟨x, rfl, h5, h6⟩ | ⟨rfl, h6⟩
  · exact .inl ⟨x, rfl, h5, h6, rfl⟩
  · exact .inr ⟨1, by decide, by unfold hL_later; exact if_pos rfl, h6⟩
theorem go_c27 (hI : INV V) (hi : i + 6 ≤ L) (hL : L ≤ 3072) : Go V (nI i) (fL_c27 xs L V ov (nI i)) := by
  unfold fL_c27
  exact go_R (op_holds hI )
theorem go_c28 (hI : INV V) (hi : i + 6 ≤ L) (hL : L ≤ 3072) : Go V (nI i) (fL_c28 xs L V ov (nI i)) := by
  unfold fL_c28
  simp only [rd1 (xs := xs) (i := i) (show i + 1 < L by omega) hL]
  by_cases c : xs (i + 1) = 0
  · simp only [if_pos c]
    obtain ⟨o, V1, b, V2, h1, h2, h3, h4⟩ := oe_1 (A := IAE) (fun cd h1 => op_denied hI h1 false)
    have h1 : fX9_denied V (0 : Int32) = _ := h1
    rw [h1, q_I]
    refine go_E (V := V) (hL := hL_denied) (V1 := V1) h2 h3 ?_
    rcases h4 with ⟨x, rfl, h5, h6⟩ | ⟨rfl, h6⟩
    · exact .inl ⟨x, rfl, h5, h6, rfl⟩
    · exact .inr ⟨1, by decide, by unfold hL_denied; exact if_pos rfl, h6⟩
  · simp only [if_neg c]
    obtain ⟨o, V1, b, V2, h1, h2, h3, h4⟩ := oe_1 (A := IAE) (fun cd h1 => op_denied hI h1 true)
    have h1 : fX9_denied V (1 : Int32) = _ := h1
    rw [h1, q_I]
    refine go_E (V := V) (hL := hL_denied) (V1 := V1) h2 h3 ?_
    rcases h4 with ⟨x, rfl, h5, h6⟩ | ⟨rfl, h6⟩
    · exact .inl ⟨x, rfl, h5, h6, rfl⟩
    · exact .inr ⟨1, by decide, by unfold hL_denied; exact if_pos rfl, h6⟩
theorem go_c29 (hI : INV V) (hi : i + 6 ≤ L) (hL : L ≤ 3072) : Go V (nI i) (fL_c29 xs L V ov (nI i)) := by
  unfold fL_c29
  obtain ⟨o, V1, b, V2, h1, h2, h3, h4⟩ := oe_1 (A := IAE) (fun cd h1 => op_ask hI h1 )
  have h1 : fX9_ask V  = _ := h1
  rw [h1, q_I]
  refine go_E (V := V) (hL := hL_ask) (V1 := V1) h2 h3 ?_
  rcases h4 with ⟨x, rfl, h5, h6⟩ | ⟨rfl, h6⟩
  · exact .inl ⟨x, rfl, h5, h6, rfl⟩
  · exact .inr ⟨1, by decide, by unfold hL_ask; exact if_pos rfl, h6⟩
theorem go_c30 (hI : INV V) (hi : i + 6 ≤ L) (hL : L ≤ 3072) : Go V (nI i) (fL_c30 xs L V ov (nI i)) := by
  unfold fL_c30
  exact go_I (op_twins hI )
theorem go_c31 (hI : INV V) (hi : i + 6 ≤ L) (hL : L ≤ 3072) : Go V (nI i) (fL_c31 xs L V ov (nI i)) := by
  unfold fL_c31
  simp only [rd1 (xs := xs) (i := i) (show i + 1 < L by omega) hL]
  obtain ⟨o, V1, b, V2, h1, h2, h3, h4⟩ := oe_1 (A := IOOB) (fun cd h1 => op_eyes hI h1 (xs (i + 1)))
  have h1 : fX9_eyes V (xs (i + 1)) = _ := h1
  rw [h1, q_I]
  refine go_E (V := V) (hL := hL_eyes) (V1 := V1) h2 h3 ?_
  rcases h4 with ⟨x, rfl, h5, h6⟩ | ⟨rfl, h6⟩
  · exact .inl ⟨x, rfl, h5, h6, rfl⟩
  · exact .inr ⟨1, by decide, by unfold hL_eyes; exact if_pos rfl, h6⟩
theorem go_c32 (hI : INV V) (hi : i + 6 ≤ L) (hL : L ≤ 3072) : Go V (nI i) (fL_c32 xs L V ov (nI i)) := by
  unfold fL_c32
  simp only [rd1 (xs := xs) (i := i) (show i + 1 < L by omega) hL, rd2 (xs := xs) (i := i) (show i + 2 < L by omega) hL]
  obtain ⟨o, V1, b, V2, h1, h2, h3, h4⟩ := oe_1 (A := IOOB) (fun cd h1 => op_alone hI h1 (xs (i + 1)) (xs (i + 2)))
  have h1 : fX9_alone V (xs (i + 1)) (xs (i + 2)) = _ := h1
  rw [h1, q_I]
  refine go_E (V := V) (hL := hL_alone) (V1 := V1) h2 h3 ?_
  rcases h4 with ⟨x, rfl, h5, h6⟩ | ⟨rfl, h6⟩
  · exact .inl ⟨x, rfl, h5, h6, rfl⟩
  · exact .inr ⟨1, by decide, by unfold hL_alone; exact if_pos rfl, h6⟩
theorem go_c33 (hI : INV V) (hi : i + 6 ≤ L) (hL : L ≤ 3072) : Go V (nI i) (fL_c33 xs L V ov (nI i)) := by
  unfold fL_c33
  simp only [rd1 (xs := xs) (i := i) (show i + 1 < L by omega) hL]
  by_cases c : xs (i + 1) = 0
  · simp only [if_pos c]
    exact go_R (op_book hI false)
  · simp only [if_neg c]
    exact go_R (op_book hI true)
theorem go_c34 (hI : INV V) (hi : i + 6 ≤ L) (hL : L ≤ 3072) : Go V (nI i) (fL_c34 xs L V ov (nI i)) := by
  unfold fL_c34
  simp only [rd1 (xs := xs) (i := i) (show i + 1 < L by omega) hL, rd2 (xs := xs) (i := i) (show i + 2 < L by omega) hL]
  by_cases c : xs (i + 2) = 0
  · simp only [if_pos c]
    obtain ⟨o, V1, b, V2, h1, h2, h3, h4⟩ := oe_1 (A := IAE) (fun cd h1 => op_trial hI h1 (xs (i + 1)) false)
    have h1 : fX9_trial V (xs (i + 1)) (0 : Int32) = _ := h1
    rw [h1, q_I]
    refine go_E (V := V) (hL := hL_trial) (V1 := V1) h2 h3 ?_
    rcases h4 with ⟨x, rfl, h5, h6⟩ | ⟨rfl, h6⟩
    · exact .inl ⟨x, rfl, h5, h6, rfl⟩
    · exact .inr ⟨1, by decide, by unfold hL_trial; exact if_pos rfl, h6⟩
  · simp only [if_neg c]
    obtain ⟨o, V1, b, V2, h1, h2, h3, h4⟩ := oe_1 (A := IAE) (fun cd h1 => op_trial hI h1 (xs (i + 1)) true)
    have h1 : fX9_trial V (xs (i + 1)) (1 : Int32) = _ := h1
    rw [h1, q_I]
    refine go_E (V := V) (hL := hL_trial) (V1 := V1) h2 h3 ?_
    rcases h4 with ⟨x, rfl, h5, h6⟩ | ⟨rfl, h6⟩
    · exact .inl ⟨x, rfl, h5, h6, rfl⟩
    · exact .inr ⟨1, by decide, by unfold hL_trial; exact if_pos rfl, h6⟩
theorem go_c35 (hI : INV V) (hi : i + 6 ≤ L) (hL : L ≤ 3072) : Go V (nI i) (fL_c35 xs L V ov (nI i)) := by
  unfold fL_c35
  simp only [rd1 (xs := xs) (i := i) (show i + 1 < L by omega) hL, rd2 (xs := xs) (i := i) (show i + 2 < L by omega) hL]
  by_cases c : xs (i + 2) = 0
  · simp only [if_pos c]
    obtain ⟨o, V1, b, V2, h1, h2, h3, h4⟩ := oe_1 (A := IAE) (fun cd h1 => op_span hI h1 (xs (i + 1)) false)
    have h1 : fX9_span V (xs (i + 1)) (0 : Int32) = _ := h1
    rw [h1, q_I]
    refine go_E (V := V) (hL := hL_span) (V1 := V1) h2 h3 ?_
    rcases h4 with ⟨x, rfl, h5, h6⟩ | ⟨rfl, h6⟩
    · exact .inl ⟨x, rfl, h5, h6, rfl⟩
    · exact .inr ⟨1, by decide, by unfold hL_span; exact if_pos rfl, h6⟩
  · simp only [if_neg c]
    obtain ⟨o, V1, b, V2, h1, h2, h3, h4⟩ := oe_1 (A := IAE) (fun cd h1 => op_span hI h1 (xs (i + 1)) true)
    have h1 : fX9_span V (xs (i + 1)) (1 : Int32) = _ := h1
    rw [h1, q_I]
    refine go_E (V := V) (hL := hL_span) (V1 := V1) h2 h3 ?_
    rcases h4 with ⟨x, rfl, h5, h6⟩ | ⟨rfl, h6⟩
    · exact .inl ⟨x, rfl, h5, h6, rfl⟩
    · exact .inr ⟨1, by decide, by unfold hL_span; exact if_pos rfl, h6⟩
theorem go_c36 (hI : INV V) (hi : i + 6 ≤ L) (hL : L ≤ 3072) : Go V (nI i) (fL_c36 xs L V ov (nI i)) := by
  unfold fL_c36
  simp only [rd1 (xs := xs) (i := i) (show i + 1 < L by omega) hL, rd2 (xs := xs) (i := i) (show i + 2 < L by omega) hL]
  by_cases c : xs (i + 2) = 0
  · simp only [if_pos c]
    obtain ⟨o, V1, b, V2, h1, h2, h3, h4⟩ := oe_1 (A := IOOB) (fun cd h1 => op_led hI h1 (xs (i + 1)) false)
    have h1 : fX9_led V (xs (i + 1)) (0 : Int32) = _ := h1
    rw [h1, q_I]
    refine go_E (V := V) (hL := hL_led) (V1 := V1) h2 h3 ?_
    rcases h4 with ⟨x, rfl, h5, h6⟩ | ⟨rfl, h6⟩
    · exact .inl ⟨x, rfl, h5, h6, rfl⟩
    · exact .inr ⟨1, by decide, by unfold hL_led; exact if_pos rfl, h6⟩
  · simp only [if_neg c]
    obtain ⟨o, V1, b, V2, h1, h2, h3, h4⟩ := oe_1 (A := IOOB) (fun cd h1 => op_led hI h1 (xs (i + 1)) true)
    have h1 : fX9_led V (xs (i + 1)) (1 : Int32) = _ := h1
    rw [h1, q_I]
    refine go_E (V := V) (hL := hL_led) (V1 := V1) h2 h3 ?_
    rcases h4 with ⟨x, rfl, h5, h6⟩ | ⟨rfl, h6⟩
    · exact .inl ⟨x, rfl, h5, h6, rfl⟩
    · exact .inr ⟨1, by decide, by unfold hL_led; exact if_pos rfl, h6⟩
theorem go_c37 (hI : INV V) (hi : i + 6 ≤ L) (hL : L ≤ 3072) : Go V (nI i) (fL_c37 xs L V ov (nI i)) := by
  unfold fL_c37
  simp only [rd1 (xs := xs) (i := i) (show i + 1 < L by omega) hL, rd2 (xs := xs) (i := i) (show i + 2 < L by omega) hL]
  obtain ⟨o, V1, b, V2, h1, h2, h3, h4⟩ := oe_1 (A := NSE) (fun cd h1 => op_log hI h1 (xs (i + 1)) (xs (i + 2)))
  have h1 : fX9_log V (xs (i + 1)) (xs (i + 2)) = _ := h1
  rw [h1, q_I]
  refine go_E (V := V) (hL := hL_log) (V1 := V1) h2 h3 ?_
  rcases h4 with ⟨x, rfl, h5, h6⟩ | ⟨rfl, h6⟩
  · exact .inl ⟨x, rfl, h5, h6, rfl⟩
  · exact .inr ⟨1, by decide, by unfold hL_log; exact if_pos rfl, h6⟩
theorem go_c38 (hI : INV V) (hi : i + 6 ≤ L) (hL : L ≤ 3072) : Go V (nI i) (fL_c38 xs L V ov (nI i)) := by
  unfold fL_c38
  simp only [rd1 (xs := xs) (i := i) (show i + 1 < L by omega) hL]
  exact go_I (op_seed hI (xs (i + 1)))
theorem go_c39 (hI : INV V) (hi : i + 6 ≤ L) (hL : L ≤ 3072) : Go V (nI i) (fL_c39 xs L V ov (nI i)) := by
  unfold fL_c39
  exact go_I (op_undo hI )
theorem go_c40 (hI : INV V) (hi : i + 6 ≤ L) (hL : L ≤ 3072) : Go V (nI i) (fL_c40 xs L V ov (nI i)) := by
  unfold fL_c40
  obtain ⟨V1, V2, h1, h2, h3⟩ := op_image hI
  rw [h1, q_R, h2, q_R, q_lt]
  exact ⟨_, _, rfl, h3⟩
theorem go_c41 (hI : INV V) (hi : i + 6 ≤ L) (hL : L ≤ 3072) : Go V (nI i) (fL_c41 xs L V ov (nI i)) := by
  unfold fL_c41
  exact go_I (op_back hI )
theorem go_c42 (hI : INV V) (hi : i + 6 ≤ L) (hL : L ≤ 3072) : Go V (nI i) (fL_c42 xs L V ov (nI i)) := by
  unfold fL_c42
  simp only [rd1 (xs := xs) (i := i) (show i + 1 < L by omega) hL]
  exact go_R (op_count hI (xs (i + 1)))
end CS
