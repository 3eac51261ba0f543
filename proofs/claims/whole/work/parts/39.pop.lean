/-! ===== how many bits ===== -/
noncomputable def bcI (x : Int32) : Int32 := (fJ6_bitCount_0f7a4 (fun _ _ => 0) x).getD 0
theorem bc_e {V : VT} (x : Int32) : fJ6_bitCount_0f7a4 V x = some (bcI x) := rfl
theorem an_B {u0 u1 m0 m1 : Nat} (hu : u0 < 256) (hm : m0 < 256) : (u0 + 256 * u1) &&& (m0 + 256 * m1) = (u0 &&& m0) + 256 * (u1 &&& m1) := by
  have h1 := Nat.and_mod_two_pow (a := u0 + 256 * u1) (b := m0 + 256 * m1) (n := 8)
  have h2 := Nat.and_div_two_pow (a := u0 + 256 * u1) (b := m0 + 256 * m1) (n := 8)
  have e1 : (u0 + 256 * u1) % 2 ^ 8 = u0 := by omega
  have e2 : (m0 + 256 * m1) % 2 ^ 8 = m0 := by omega
  have e3 : (u0 + 256 * u1) / 2 ^ 8 = u1 := by omega
  have e4 : (m0 + 256 * m1) / 2 ^ 8 = m1 := by omega
  rw [e1, e2] at h1
  rw [e3, e4] at h2
  omega
def p1 (a : Nat) : Nat := a - (a / 2 &&& 85)
def p2 (a : Nat) : Nat := (p1 a &&& 51) + (p1 a / 4 &&& 51)
theorem p_a : ∀ a, a < 256 → (∀ e, e < 2 → (a / 2 + 128 * e) &&& 85 = (a / 2 &&& 85)) ∧ (a / 2 &&& 85) ≤ a ∧ (a / 2 &&& 21845) = (a / 2 &&& 85) := by decide +kernel
theorem p_b : ∀ a, a < 256 → (∀ e, e < 4 → (p1 a / 4 + 64 * e) &&& 51 = (p1 a / 4 &&& 51)) ∧ p1 a < 256 ∧ (p1 a &&& 13107) = (p1 a &&& 51) ∧ (p1 a / 4 &&& 13107) = (p1 a / 4 &&& 51) := by decide +kernel
theorem p_c : ∀ a, a < 256 → p2 a < 256 ∧ p2 a % 16 ≤ 4 ∧ p2 a / 16 ≤ 4 ∧ p2 a % 16 + p2 a / 16 = fb_ct a.testBit 8 := by decide +kernel
theorem p_d : ∀ s, s < 9 → ∀ u, u < 9 → (s + 16 * u) &&& 15 = s := by decide +kernel
theorem p_e : ∀ s, s < 9 → ∀ u, u < 9 → (s + 16 * u) &&& 3855 = s := by decide +kernel
theorem bc_n {a b c : Nat} (ha : a < 256) (hb : b < 256) (hc : c < 256) : bcI (nI (a + 256 * (b + 256 * c))) = nI (fb_ct a.testBit 8 + fb_ct b.testBit 8 + fb_ct c.testBit 8) := by
  obtain ⟨a1, a2, a3⟩ := p_a a ha
  obtain ⟨b1, b2, b3⟩ := p_a b hb
  obtain ⟨c1, c2, c3⟩ := p_a c hc
  obtain ⟨a4, a5, a6, a7⟩ := p_b a ha
  obtain ⟨b4, b5, b6, b7⟩ := p_b b hb
  obtain ⟨c4, c5, c6, c7⟩ := p_b c hc
  obtain ⟨a8, a9, a10, a11⟩ := p_c a ha
  obtain ⟨b8, b9, b10, b11⟩ := p_c b hb
  obtain ⟨c8, c9, c10, c11⟩ := p_c c hc
  have s1 : ((a + 256 * (b + 256 * c)) / 2 &&& 1431655765) = (a / 2 &&& 85) + 256 * ((b / 2 &&& 85) + 256 * (c / 2 &&& 85)) := by
    rw [show (a + 256 * (b + 256 * c)) / 2 = (a / 2 + 128 * (b % 2)) + 256 * ((b / 2 + 128 * (c % 2)) + 256 * (c / 2)) by omega, show 1431655765 = 85 + 256 * (85 + 256 * 21845) from rfl, an_B (by omega) (by omega), an_B (by omega) (by omega), a1 _ (by omega), b1 _ (by omega), c3]
  have y1 : a + 256 * (b + 256 * c) - ((a / 2 &&& 85) + 256 * ((b / 2 &&& 85) + 256 * (c / 2 &&& 85))) = p1 a + 256 * (p1 b + 256 * p1 c) := by unfold p1; omega
  have y1l : (a / 2 &&& 85) + 256 * ((b / 2 &&& 85) + 256 * (c / 2 &&& 85)) ≤ a + 256 * (b + 256 * c) := by omega
  have s2 : (p1 a + 256 * (p1 b + 256 * p1 c)) &&& 858993459 = (p1 a &&& 51) + 256 * ((p1 b &&& 51) + 256 * (p1 c &&& 51)) := by
    rw [show 858993459 = 51 + 256 * (51 + 256 * 13107) from rfl, an_B (by omega) (by omega), an_B (by omega) (by omega), c6]
  have s3 : (p1 a + 256 * (p1 b + 256 * p1 c)) / 4 &&& 858993459 = (p1 a / 4 &&& 51) + 256 * ((p1 b / 4 &&& 51) + 256 * (p1 c / 4 &&& 51)) := by
    rw [show (p1 a + 256 * (p1 b + 256 * p1 c)) / 4 = (p1 a / 4 + 64 * (p1 b % 4)) + 256 * ((p1 b / 4 + 64 * (p1 c % 4)) + 256 * (p1 c / 4)) by omega, show 858993459 = 51 + 256 * (51 + 256 * 13107) from rfl, an_B (by omega) (by omega), an_B (by omega) (by omega), a4 _ (by omega), b4 _ (by omega), c7]
  have y2 : (p1 a &&& 51) + 256 * ((p1 b &&& 51) + 256 * (p1 c &&& 51)) + ((p1 a / 4 &&& 51) + 256 * ((p1 b / 4 &&& 51) + 256 * (p1 c / 4 &&& 51))) = p2 a + 256 * (p2 b + 256 * p2 c) := by unfold p2; omega
  have s4 : (p2 a + 256 * (p2 b + 256 * p2 c) + (p2 a + 256 * (p2 b + 256 * p2 c)) / 16) &&& 252645135 = (p2 a % 16 + p2 a / 16) + 256 * ((p2 b % 16 + p2 b / 16) + 256 * (p2 c % 16 + p2 c / 16)) := by
    rw [show p2 a + 256 * (p2 b + 256 * p2 c) + (p2 a + 256 * (p2 b + 256 * p2 c)) / 16 = ((p2 a % 16 + p2 a / 16) + 16 * (p2 a / 16 + p2 b % 16)) + 256 * (((p2 b % 16 + p2 b / 16) + 16 * (p2 b / 16 + p2 c % 16)) + 256 * ((p2 c % 16 + p2 c / 16) + 16 * (p2 c / 16))) by omega, show 252645135 = 15 + 256 * (15 + 256 * 3855) from rfl, an_B (by omega) (by omega), an_B (by omega) (by omega), p_d _ (by omega) _ (by omega), p_d _ (by omega) _ (by omega), p_e _ (by omega) _ (by omega)]
  show (fJ6_bitCount_0f7a4 (fun _ _ => 0) (nI (a + 256 * (b + 256 * c)))).getD 0 = _
  unfold fJ6_bitCount_0f7a4
  simp only [q_lt]
  rw [pk_ushrN (n := a + 256 * (b + 256 * c)) (by omega) 1 1 (by decide), show (1431655765 : Int32) = nI 1431655765 from rfl, fa_and, show (2 : Nat) ^ 1 = 2 from rfl, s1, pk_sub y1l, y1]
  rw [pk_ushrN (n := p1 a + 256 * (p1 b + 256 * p1 c)) (by omega) 2 2 (by decide), show (858993459 : Int32) = nI 858993459 from rfl, fa_and, fa_and, show (2 : Nat) ^ 2 = 4 from rfl, s2, s3, nI_add, y2]
  rw [pk_ushrN (n := p2 a + 256 * (p2 b + 256 * p2 c)) (by omega) 4 4 (by decide), show (252645135 : Int32) = nI 252645135 from rfl, show (2 : Nat) ^ 4 = 16 from rfl, nI_add, fa_and, s4, a11, b11, c11]
  have hu : fb_ct a.testBit 8 ≤ 8 := fb_ct_le _ _
  have hv : fb_ct b.testBit 8 ≤ 8 := fb_ct_le _ _
  have hw : fb_ct c.testBit 8 ≤ 8 := fb_ct_le _ _
  clear s1 s2 s3 s4 y1 y1l y2 a11 b11 c11 a1 a2 a3 a4 a5 a6 a7 a8 a9 a10 b1 b2 b3 b4 b5 b6 b7 b8 b9 b10 c1 c2 c3 c4 c5 c6 c7 c8 c9 c10
  generalize fb_ct a.testBit 8 = u, fb_ct b.testBit 8 = v, fb_ct c.testBit 8 = w at *
  rw [pk_ushrN (n := u + 256 * (v + 256 * w)) (by omega) 8 8 (by decide), nI_add, pk_ushrN (n := u + 256 * (v + 256 * w) + (u + 256 * (v + 256 * w)) / 2 ^ 8) (by omega) 16 16 (by decide), nI_add]
  have e := fa_mask (u + 256 * (v + 256 * w) + (u + 256 * (v + 256 * w)) / 2 ^ 8 + (u + 256 * (v + 256 * w) + (u + 256 * (v + 256 * w)) / 2 ^ 8) / 2 ^ 16) 6
  show nI _ &&& nI (2 ^ 6 - 1) = _
  rw [e]
  congr 1
  have k1 : (u + 256 * (v + 256 * w)) / 2 ^ 8 = v + 256 * w := by omega
  rw [k1]
  have k2 : (u + 256 * (v + 256 * w) + (v + 256 * w)) / 2 ^ 16 = w := by omega
  rw [k2]
  omega
theorem bc_24 {x : Nat} (h : x < 2 ^ 24) : bcI (nI x) = nI (fb_ct x.testBit 24) := by
  have e : x = x % 256 + 256 * (x / 256 % 256 + 256 * (x / 65536)) := by omega
  have h1 := bc_n (a := x % 256) (b := x / 256 % 256) (c := x / 65536) (by omega) (by omega) (by omega)
  rw [← e] at h1
  rw [h1]
  congr 1
  have k0 : ∀ j, j < 8 → (x % 256).testBit j = x.testBit j := by
    intro j hj
    rw [show 256 = 2 ^ 8 from rfl, Nat.testBit_mod_two_pow]
    simp [hj]
  have k1 : ∀ j, j < 8 → (x / 256 % 256).testBit j = x.testBit (8 + j) := by
    intro j hj
    rw [show 256 = 2 ^ 8 from rfl, Nat.testBit_mod_two_pow, Nat.testBit_div_two_pow]
    simp [hj, Nat.add_comm]
  have k2 : ∀ j, j < 8 → (x / 65536).testBit j = x.testBit (8 + 8 + j) := by
    intro j hj
    rw [show 65536 = 2 ^ 16 from rfl, Nat.testBit_div_two_pow, Nat.add_comm]
  rw [show 24 = 8 + (8 + 8) from rfl, fb_ct_split, fb_ct_split, fb_ct_cong k0, fb_ct_cong k1, fb_ct_cong k2]
  have k3 : (fun k => x.testBit (8 + (8 + k))) = fun k => x.testBit (8 + 8 + k) := by funext k; rw [Nat.add_assoc]
  rw [k3]
  omega
theorem fb_ct_hi {x n m : Nat} (h : x < 2 ^ n) : fb_ct x.testBit (n + m) = fb_ct x.testBit n := by
  rw [fb_ct_split]
  have : fb_ct (fun k => x.testBit (n + k)) m = 0 := fb_ct_zero.2 (fun k _ => Nat.testBit_lt_two_pow (Nat.lt_of_lt_of_le h (Nat.pow_le_pow_right (by omega) (by omega))))
  omega
theorem bc_8 {x : Nat} (h : x < 256) : bcI (nI x) = nI (pc8 x) := by
  rw [bc_24 (by omega), show 24 = 8 + 16 from rfl, fb_ct_hi (n := 8) h]; rfl
theorem bc_10 {x : Nat} (h : x < 1024) : bcI (nI x) = nI (fb_ct x.testBit 10) := by
  rw [bc_24 (by omega), show 24 = 10 + 14 from rfl, fb_ct_hi (n := 10) h]
theorem pc8_le (x : Nat) : pc8 x ≤ 8 := fb_ct_le _ 8
