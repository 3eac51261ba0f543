/-! ===== feed ===== -/
def tpB (f : Nat → Int32) (k : Nat) : Int32 := (f (k / 4) >>> (nI (24 - 8 * (k % 4)) &&& 31)).toInt8.toInt32
theorem tpB_by {f : Nat → Int32} {k : Nat} : by_ (tpB f k) := fb_byte_twice _
def shI : Nat → Int32
  | 0 => 24 | 1 => 16 | 2 => 8 | 3 => 0 | _ => -8
theorem shI_n {k : Nat} (hk : k < 4) : shI k = nI (24 - 8 * k) ∧ shI k + (-8) = shI (k + 1) ∧ ¬ shI k < 0 := by
  have k4 : k = 0 ∨ k = 1 ∨ k = 2 ∨ k = 3 := by omega
  rcases k4 with rfl | rfl | rfl | rfl <;> decide
section OP
variable {V : VT}
theorem c_putNumber {f : Nat → Int32} {b : Nat → Int32} {n j : Nat} (hj : n + 4 * j + 4 ≤ 400) (h1 : V 1 1 = nI (n + 4 * j)) (h2 : ∀ k, V 23 k = if n ≤ k ∧ k < n + 4 * j then tpB f (k - n) else b k) : ∃ V', fX8_putNumber V (f j) = some V' ∧ V' 1 1 = nI (n + 4 * (j + 1)) ∧ (∀ k, V' 23 k = if n ≤ k ∧ k < n + 4 * (j + 1) then tpB f (k - n) else b k) ∧ ∀ q, q ≠ 1 → q ≠ 23 → V' q = V q := by
  unfold fX8_putNumber
  obtain ⟨V', e, g1, g2, g3⟩ := lk (V := V) (f := iX8_putNumber_L3) (fun _ => ()) (fun V' _ k => (V', f j, shI k)) (fun V' _ => V') (fun k V' => V' 1 1 = nI (n + 4 * j + k) ∧ (∀ q, V' 23 q = if n ≤ q ∧ q < n + 4 * j + k then tpB f (q - n) else b q) ∧ ∀ q, q ≠ 1 → q ≠ 23 → V' q = V q) 4 (by omega) ⟨h1, h2, fun _ _ _ => rfl⟩
    (by
      rintro k V' hk ⟨g1, g2, g3⟩
      obtain ⟨s1, s2, s3⟩ := shI_n hk
      unfold iX8_putNumber_L3 fX8_putNumber_L3
      simp only []
      rw [if_neg s3, g1, if_neg (nI_pos (by omega)), if_neg (nI_ge (show n + 4 * j + k < 400 by omega) (by omega)), q_rd (show n + 4 * j + k < 400 by omega) (by omega), nI_clamp (by omega), pk_vb, q_lt, va_n (show (1 : Nat) ≠ 23 by omega), g1, nI_1, q_lt, s2, q_lt]
      refine ⟨_, rfl, by rw [va_s, pk_us]; rfl, fun q => ?_, fun q a c => by rw [va_n a, va_n c]; exact g3 q a c⟩
      rw [va_n (by omega), va_s]
      by_cases e : q = n + 4 * j + k
      · rw [e, pk_us, if_pos (by omega)]
        unfold tpB
        rw [show (n + 4 * j + k - n) / 4 = j by omega, show (n + 4 * j + k - n) % 4 = k by omega, s1]
      · rw [pk_un e, g2]
        by_cases c : n ≤ q ∧ q < n + 4 * j + k
        · rw [if_pos c, if_pos (by omega)]
        · rw [if_neg c, if_neg (by omega)])
    (by
      rintro V' -
      unfold iX8_putNumber_L3 fX8_putNumber_L3
      simp only []
      rw [if_pos (show shI 4 < 0 by decide)])
  have e : it_ iX8_putNumber_L3 FV (V, f j, 24) = _ := e
  rw [e, q_R]
  exact ⟨V', rfl, g1, g2, g3⟩
def f5 (x1 x2 x3 x4 x5 : Int32) (j : Nat) : Int32 := if j = 0 then x1 else if j = 1 then x2 else if j = 2 then x3 else if j = 3 then x4 else x5
def tpF (f : Nat → Int32) (n : Nat) (b : Nat → Int32) (k : Nat) : Int32 := if n ≤ k ∧ k < n + 20 then tpB f (k - n) else b k
theorem tpF_by {f : Nat → Int32} {n : Nat} {b : Nat → Int32} (h : ∀ k, k < 400 → by_ (b k)) : ∀ k, k < 400 → by_ (tpF f n b k) := by
  intro k hk
  unfold tpF
  split
  · exact tpB_by
  · exact h k hk
theorem op_feed (hI : INV V) (x1 x2 x3 x4 x5 : Int32) : OpI (fun V => fX9_feed V x1 x2 x3 x4 x5) (fun V => fX10_feed V x1 x2 x3 x4 x5) V := by
  obtain ⟨g, hC, hM⟩ := hI
  obtain ⟨c1, c2, c3, c4⟩ := hC.2.2.2.2.1
  by_cases h20 : xn g + 20 ≤ 400
  · refine op_gi (g := g) (g' := tpG g (xn g + 20) (tpF (f5 x1 x2 x3 x4 x5) (xn g) (xb g))) hM (nI (xn g + 20)) ?_ ?_
    · obtain ⟨V2, e2, a2, b2, d2⟩ := c_putNumber (V := V) (f := f5 x1 x2 x3 x4 x5) (b := V 23) (n := xn g) (j := 0) (by omega) c1 (fun k => by rw [if_neg (by omega)])
      obtain ⟨V4, e4, a4, b4, d4⟩ := c_putNumber (f := f5 x1 x2 x3 x4 x5) (n := xn g) (j := 1) (by omega) a2 b2
      obtain ⟨V6, e6, a6, b6, d6⟩ := c_putNumber (f := f5 x1 x2 x3 x4 x5) (n := xn g) (j := 2) (by omega) a4 b4
      obtain ⟨V8, e8, a8, b8, d8⟩ := c_putNumber (f := f5 x1 x2 x3 x4 x5) (n := xn g) (j := 3) (by omega) a6 b6
      obtain ⟨V10, e10, a10, b10, d10⟩ := c_putNumber (f := f5 x1 x2 x3 x4 x5) (n := xn g) (j := 4) (by omega) a8 b8
      have fr : ∀ q, q ≠ 1 → q ≠ 23 → V10 q = V q := fun q u v => by rw [d10 q u v, d8 q u v, d6 q u v, d4 q u v, d2 q u v]
      refine ⟨V10, ?_, ?_, fr 22 (by omega) (by omega), fun j hj => fr j (by omega) (by omega)⟩
      · show fX9_feed V _ _ _ _ _ = _
        unfold fX9_feed
        have e2 : fX8_putNumber V x1 = _ := e2
        have e4 : fX8_putNumber V2 x2 = _ := e4
        have e6 : fX8_putNumber V4 x3 = _ := e6
        have e8 : fX8_putNumber V6 x4 = _ := e8
        have e10 : fX8_putNumber V8 x5 = _ := e10
        rw [c1, q_add, if_pos (show nI (xn g + 20) ≤ 400 from nI_le (b := 400) h20 (by omega)), e2, q_R, e4, q_R, e6, q_R, e8, q_R, e10, q_R, a10]
      · refine hC.tape fr a10 h20 (fun k hk => ?_) (tpF_by c4)
        rw [b10, c3 k hk]
        rfl
    · intro V1 hM1
      have hM2 := hM1.m t0_m
      obtain ⟨d1, d2, d3, d4⟩ := hM2.2.2.2.2.1
      have i0 : ∀ f : Nat → Int32, upd (upd (upd (upd (upd f 0 x1) 1 x2) 2 x3) 3 x4) 4 x5 = fun j => if j < 5 then f5 x1 x2 x3 x4 x5 j else f j := by
        intro f
        funext j
        unfold f5
        show (if j = 4 then x5 else if j = 3 then x4 else if j = 2 then x3 else if j = 1 then x2 else if j = 0 then x1 else f j) = _
        by_cases j5 : j < 5
        · rw [if_pos j5]
          have : j = 0 ∨ j = 1 ∨ j = 2 ∨ j = 3 ∨ j = 4 := by omega
          rcases this with rfl | rfl | rfl | rfl | rfl <;> rfl
        · rw [if_neg j5, if_neg (by omega), if_neg (by omega), if_neg (by omega), if_neg (by omega), if_neg (by omega)]
      obtain ⟨r, e, V3, rfl, g1, g2, g3, g4⟩ := it_for (F := FV) (f := iX10_feed_L60) 20 (fun k s => ∃ V', s = (V', nI k) ∧ V' 22 = t0 V1 22 ∧ (∀ j, j < 5 → V' 82 j = f5 x1 x2 x3 x4 x5 j) ∧ (∀ q, V' 81 q = if xn g ≤ q ∧ q < xn g + k then tpB (f5 x1 x2 x3 x4 x5) (q - xn g) else t0 V1 81 q) ∧ ∀ q, q ≠ 22 → q ≠ 81 → q ≠ 82 → V' q = t0 V1 q) (fun r => ∃ V', r = (nI (xn g + 20), V') ∧ (∀ k, k ≠ 9 → V' 22 k = t0 V1 22 k) ∧ V' 22 9 = nI (xn g + 20) ∧ (∀ q, V' 81 q = if xn g ≤ q ∧ q < xn g + 20 then tpB (f5 x1 x2 x3 x4 x5) (q - xn g) else t0 V1 81 q) ∧ ∀ q, q ≠ 22 → q ≠ 81 → q ≠ 82 → V' q = t0 V1 q)
        (by
          rintro k s hk ⟨V', rfl, g1, g2, g3, g4⟩
          unfold iX10_feed_L60 fX10_feed_L60
          simp only []
          rw [if_neg (show ¬ (20 : Int32) ≤ nI k from nI_ge (b := 20) hk (by omega)), g1, d1, show nI k / 4 = nI (k / 4) from pk_div (d := 4) (by omega) (by omega) (by omega), show nI k - nI (k / 4) * 4 = nI (k % 4) by rw [q_mul, pk_sub (show k / 4 * 4 ≤ k by omega)]; exact congrArg nI (by omega), nI_add, q_rd (show k / 4 < 5 by omega) (by omega), q_rd (show xn g + k < 400 by omega) (by omega), nI_clamp (by omega), nI_clamp (by omega), g2 _ (by omega), q_mulL, show (24 : Int32) - nI (8 * (k % 4)) = nI (24 - 8 * (k % 4)) from pk_sub (a := 24) (by omega), pk_vb, q_lt, nI_1, q_lt]
          refine ⟨_, rfl, _, rfl, by rw [va_n (by omega)]; exact g1, by rw [va_n (by omega)]; exact g2, fun q => ?_, fun q a b c => by rw [va_n b]; exact g4 q a b c⟩
          rw [va_s]
          by_cases e : q = xn g + k
          · rw [e, pk_us, if_pos (by omega), show xn g + k - xn g = k by omega]; rfl
          · rw [pk_un e, g3]
            by_cases c : xn g ≤ q ∧ q < xn g + k
            · rw [if_pos c, if_pos (by omega)]
            · rw [if_neg c, if_neg (by omega)])
        (by
          rintro s ⟨V', rfl, g1, g2, g3, g4⟩
          unfold iX10_feed_L60 fX10_feed_L60
          simp only []
          rw [if_pos (show (20 : Int32) ≤ nI 20 from nI_le (Nat.le_refl _) (by omega)), g1, d1, q_add, q_lt, va_s, pk_us]
          exact ⟨_, rfl, _, rfl, fun k hk => by rw [va_s, pk_un hk], by rw [va_s, pk_us], fun q => by rw [va_n (by omega)]; exact g3 q, fun q a b c => by rw [va_n a]; exact g4 q a b c⟩) (by have := FV_ge; omega) (s := (va_up (t0 V1) 82 (upd (upd (upd (upd (upd (t0 V1 82) 0 x1) 1 x2) 2 x3) 3 x4) 4 x5), 0)) ⟨_, rfl, va_n (by omega), fun j hj => by rw [va_s, i0]; exact if_pos hj, fun q => by rw [va_n (by omega), if_neg (by omega)], fun q a b c => va_n c⟩
      refine ⟨V3, ?_, ?_, fun j hj h22 => by rw [g4 j h22 (by omega) (by omega)]; exact va_n h22⟩
      · show fX10_feed V1 _ _ _ _ _ = _
        unfold fX10_feed
        rw [q_lt, t0_e, d1, q_add, if_pos (show nI (xn g + 20) ≤ 400 from nI_le (b := 400) h20 (by omega)), q_rdl (by omega) (by omega), q_lt, q_rdl (by omega) (by omega), q_lt, q_rdl (by omega) (by omega), q_lt, q_rdl (by omega) (by omega), q_lt, q_rdl (by omega) (by omega), q_lt]
        simp only [va_s, va_uu]
        have e : it_ iX10_feed_L60 FV (va_up (t0 V1) 82 (upd (upd (upd (upd (upd (t0 V1 82) (0 : Int32).toNatClampNeg x1) (1 : Int32).toNatClampNeg x2) (2 : Int32).toNatClampNeg x3) (3 : Int32).toNatClampNeg x4) (4 : Int32).toNatClampNeg x5), 0) = _ := e
        rw [e, q_R]
      · refine hM2.tape (fun j a b c => g4 j a b c) (g1 6 (by omega)) (g1 7 (by omega)) (g1 14 (by omega)) g2 h20 (fun k hk => ?_) (tpF_by d4)
        rw [g3, d3 k hk]
        rfl
  · refine op_i hC hM (-1) ⟨V, ?_, Cs.rf⟩ (fun V1 hM1 => ⟨t0 V1, ?_, t0_m⟩)
    · show fX9_feed V _ _ _ _ _ = _
      unfold fX9_feed
      rw [c1, q_add, if_neg (show ¬ nI (xn g + 20) ≤ 400 from nI_ge (a := 400) (by omega) (by omega))]
    · show fX10_feed V1 _ _ _ _ _ = _
      unfold fX10_feed
      rw [q_lt, t0_e, (hM1.m t0_m).2.2.2.2.1.1, q_add, if_neg (show ¬ nI (xn g + 20) ≤ 400 from nI_ge (a := 400) (by omega) (by omega))]
end OP
