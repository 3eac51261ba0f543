/-! ===== how many bits of a long ===== -/
def nm : List Nat → Nat
  | [] => 0
  | a :: r => a + 256 * nm r
def rep (c : Nat) : Nat → Nat
  | 0 => 0
  | n + 1 => c + 256 * rep c n
theorem nm_and {c : Nat} (hc : c < 256) : ∀ r : List Nat, (∀ a ∈ r, a < 256) → nm r &&& rep c r.length = nm (r.map (fun a => a &&& c))
  | [], _ => by show 0 &&& 0 = 0; exact Nat.and_zero 0
  | a :: r, h => by
    show (a + 256 * nm r) &&& (c + 256 * rep c r.length) = (a &&& c) + 256 * nm (r.map (fun a => a &&& c))
    rw [an_B (h a (by simp)) hc, nm_and hc r (fun b hb => h b (by simp [hb]))]
theorem nm_h {c : Nat} (hc : c < 256) (f : Nat → Nat) (p : Nat → Prop) (k m : Nat) (hkm : k * m = 256) (hm : 0 < m) (hk : 0 < k) (hf : ∀ a, p a → a < 256 ∧ ∀ e, e < k → (a / k + m * e) &&& c = f a) : ∀ r : List Nat, (∀ a ∈ r, p a) → (nm r / k) &&& rep c r.length = nm (r.map f)
  | [], _ => by show 0 / k &&& 0 = 0; rw [Nat.and_zero]
  | a :: r, h => by
    obtain ⟨h1, h2⟩ := hf a (h a (by simp))
    show ((a + 256 * nm r) / k) &&& (c + 256 * rep c r.length) = f a + 256 * nm (r.map f)
    have e : (a + 256 * nm r) / k = (a / k + m * (nm r % k)) + 256 * (nm r / k) := by
      rw [← hkm, Nat.mul_assoc, Nat.add_mul_div_left _ _ hk, Nat.mul_comm k m, Nat.mul_assoc]
      have := Nat.div_add_mod (nm r) k
      rw [Nat.add_assoc, ← Nat.mul_add]
      congr 2
      omega
    have hlt : a / k + m * (nm r % k) < 256 := by
      have h3 : a / k < m := by
        apply Nat.div_lt_of_lt_mul
        rw [hkm]; exact h1
      have h4 : nm r % k + 1 ≤ k := Nat.mod_lt _ hk
      have h5 : m * (nm r % k + 1) ≤ m * k := Nat.mul_le_mul_left m h4
      rw [Nat.mul_comm m k, hkm, Nat.mul_add, Nat.mul_one] at h5
      omega
    rw [e, an_B hlt hc, h2 _ (Nat.mod_lt _ hk), nm_h hc f p k m hkm hm hk hf r (fun b hb => h b (by simp [hb]))]
theorem nm_add (f g : Nat → Nat) : ∀ r : List Nat, nm (r.map f) + nm (r.map g) = nm (r.map (fun a => f a + g a))
  | [] => rfl
  | a :: r => by
    have ih := nm_add f g r
    show (f a + 256 * nm (r.map f)) + (g a + 256 * nm (r.map g)) = (f a + g a) + 256 * nm (r.map (fun a => f a + g a))
    omega
theorem nm_id : ∀ r : List Nat, nm (r.map (fun a => a)) = nm r
  | [] => rfl
  | a :: r => by
    have ih := nm_id r
    show a + 256 * nm (r.map (fun a => a)) = a + 256 * nm r
    omega
theorem nm_cong {f g : Nat → Nat} : ∀ r : List Nat, (∀ a ∈ r, f a = g a) → nm (r.map f) = nm (r.map g)
  | [], _ => rfl
  | a :: r, h => by
    show f a + 256 * nm (r.map f) = g a + 256 * nm (r.map g)
    rw [h a (by simp), nm_cong r (fun b hb => h b (by simp [hb]))]
def sw8 (b : Nat) : Nat := b % 16 + b / 16
theorem nm_16 : ∀ r : List Nat, (∀ a ∈ r, a < 256 ∧ a % 16 ≤ 4 ∧ a / 16 ≤ 4) → nm r % 16 ≤ 4 ∧ (nm r + nm r / 16) &&& rep 15 r.length = nm (r.map sw8)
  | [], _ => ⟨by show 0 % 16 ≤ 4; omega, by show (0 + 0 / 16) &&& 0 = 0; exact Nat.and_zero _⟩
  | a :: r, h => by
    obtain ⟨h1, h2, h3⟩ := h a (by simp)
    obtain ⟨h4, h5⟩ := nm_16 r (fun b hb => h b (by simp [hb]))
    refine ⟨by show (a + 256 * nm r) % 16 ≤ 4; omega, ?_⟩
    show ((a + 256 * nm r) + (a + 256 * nm r) / 16) &&& (15 + 256 * rep 15 r.length) = sw8 a + 256 * nm (r.map sw8)
    have e : (a + 256 * nm r) + (a + 256 * nm r) / 16 = ((a % 16 + a / 16) + 16 * (a / 16 + nm r % 16)) + 256 * (nm r + nm r / 16) := by omega
    rw [e, an_B (by omega) (by omega), p_d _ (by omega) _ (by omega), h5]
    rfl
theorem nm_le {r : List Nat} (h : ∀ a ∈ r, a < 256) : nm r < 256 ^ r.length := by
  induction r with
  | nil => exact Nat.one_pos
  | cons a r ih =>
    have h1 := h a (by simp)
    have h2 := ih (fun b hb => h b (by simp [hb]))
    show a + 256 * nm r < 256 ^ (r.length + 1)
    rw [Nat.pow_succ]
    omega
theorem pk_tL {n : Nat} (h : n < 2 ^ 64) : (lN n).toBitVec.toNat = n := Nat.mod_eq_of_lt h
theorem pk_ushrL {n : Nat} (hn : n < 2 ^ 64) (s : Int32) (k : Nat) (hs : ((s.toInt64.toUInt64 &&& Int64.toUInt64 63).toBitVec % 64).toNat = k) : ((lN n).toUInt64 >>> (s.toInt64.toUInt64 &&& Int64.toUInt64 63)).toInt64 = lN (n / 2 ^ k) := by
  apply Int64.toBitVec_inj.mp
  apply BitVec.eq_of_toNat_eq
  have e : ((lN n).toUInt64 >>> (s.toInt64.toUInt64 &&& Int64.toUInt64 63)).toInt64.toBitVec = (lN n).toBitVec >>> k := by
    rw [← hs]
    exact UInt64.toBitVec_shiftRight _ _
  rw [e, BitVec.toNat_ushiftRight, Nat.shiftRight_eq_div_pow, pk_tL hn, pk_tL (Nat.lt_of_le_of_lt (Nat.div_le_self _ _) hn)]
theorem lm_85 : (6148914691236517205 : Int64) = lN (rep 85 8) := by decide +kernel
theorem lm_51 : (3689348814741910323 : Int64) = lN (rep 51 8) := by decide +kernel
theorem lm_15 : (1085102592571150095 : Int64) = lN (rep 15 8) := by decide +kernel
theorem fold_a {a b X y : Nat} (ha : a ≤ 8) (hy : y = a + 256 * (b + 256 * X)) : y + y / 2 ^ 8 = (a + b) + 256 * ((b + 256 * X) + X) := by omega
theorem fold_b {a b Z y : Nat} (ha : a ≤ 16) (hb : b ≤ 16) (hy : y = a + 256 * (b + 256 * Z)) : y / 2 ^ 16 = Z := by omega
theorem fold_c {a b c d R y : Nat} (ha : a ≤ 32) (hb : b ≤ 32) (hc : c ≤ 32) (hd : d ≤ 32) (hy : y = a + 256 * (b + 256 * (c + 256 * (d + 256 * R)))) : y / 2 ^ 32 = R ∧ y % 256 = a := by omega
theorem fold_d {y R a e X : Nat} (hy : y % 256 = a) (hR : R = e + 256 * X) (ha : a ≤ 32) (he : e ≤ 32) : (y + R) % 2 ^ 7 = a + e := by omega
theorem fold8 {c0 c1 c2 c3 c4 c5 c6 c7 : Nat} (b0 : c0 ≤ 8) (b1 : c1 ≤ 8) (b2 : c2 ≤ 8) (b3 : c3 ≤ 8) (b4 : c4 ≤ 8) (b5 : c5 ≤ 8) (b6 : c6 ≤ 8) (b7 : c7 ≤ 8) : ∃ y4 y5, (c0 + 256 * (c1 + 256 * (c2 + 256 * (c3 + 256 * (c4 + 256 * (c5 + 256 * (c6 + 256 * c7))))))) + (c0 + 256 * (c1 + 256 * (c2 + 256 * (c3 + 256 * (c4 + 256 * (c5 + 256 * (c6 + 256 * c7))))))) / 2 ^ 8 = y4 ∧ y4 + y4 / 2 ^ 16 = y5 ∧ (y5 + y5 / 2 ^ 32) % 2 ^ 7 = c0 + (c1 + (c2 + (c3 + (c4 + (c5 + (c6 + (c7 + 0))))))) ∧ c0 + 256 * (c1 + 256 * (c2 + 256 * (c3 + 256 * (c4 + 256 * (c5 + 256 * (c6 + 256 * c7)))))) < 2 ^ 64 ∧ y4 < 2 ^ 64 ∧ y5 < 2 ^ 64 := by
  have u6 : c6 + 256 * c7 ≤ 9 * 256 := by omega
  have u5 : c5 + 256 * (c6 + 256 * c7) ≤ 10 * 65536 := by omega
  have u4 : c4 + 256 * (c5 + 256 * (c6 + 256 * c7)) ≤ 11 * 16777216 := by omega
  have u3 : c3 + 256 * (c4 + 256 * (c5 + 256 * (c6 + 256 * c7))) ≤ 12 * 4294967296 := by omega
  have u2 : c2 + 256 * (c3 + 256 * (c4 + 256 * (c5 + 256 * (c6 + 256 * c7)))) ≤ 13 * 1099511627776 := by omega
  have e6 : ∃ X6, X6 = c6 + 256 * c7 := ⟨_, rfl⟩
  obtain ⟨X6, e6⟩ := e6
  obtain ⟨X5, e5⟩ : ∃ X5, X5 = c5 + 256 * X6 := ⟨_, rfl⟩
  obtain ⟨X4, e4⟩ : ∃ X4, X4 = c4 + 256 * X5 := ⟨_, rfl⟩
  obtain ⟨X3, e3⟩ : ∃ X3, X3 = c3 + 256 * X4 := ⟨_, rfl⟩
  obtain ⟨X2, e2⟩ : ∃ X2, X2 = c2 + 256 * X3 := ⟨_, rfl⟩
  rw [← e6] at u6 u5 u4 u3 u2 ⊢
  rw [← e5] at u5 u4 u3 u2 ⊢
  rw [← e4] at u4 u3 u2 ⊢
  rw [← e3] at u3 u2 ⊢
  rw [← e2] at u2 ⊢
  have f4 := fold_a (X := X2) (b := c1) b0 rfl
  have g4 : (c0 + c1) + 256 * ((c1 + 256 * X2) + X2) = (c0 + c1) + 256 * ((c1 + c2) + 256 * (X2 + X3)) := by
    have : X2 = c2 + 256 * X3 := e2
    clear u6 u5 u4 u3 u2 e6 e5 e4 e3 f4 b0 b1 b2 b3 b4 b5 b6 b7
    omega
  have f5 := fold_b (a := c0 + c1) (b := c1 + c2) (Z := X2 + X3) (by omega) (by omega) rfl
  have k1 : X2 + X3 = (c2 + c3) + 256 * (X3 + X4) := by
    clear u6 u5 u4 u3 u2 e6 e5 e4 f4 g4 f5 b0 b1 b2 b3 b4 b5 b6 b7
    omega
  have k2 : X3 + X4 = (c3 + c4) + 256 * (X4 + X5) := by
    clear u6 u5 u4 u3 u2 e6 e5 e2 f4 g4 f5 k1 b0 b1 b2 b3 b4 b5 b6 b7
    have : X4 = c4 + 256 * X5 := e4
    omega
  have k3 : X4 + X5 = (c4 + c5) + 256 * (X5 + X6) := by
    clear u6 u5 u4 u3 u2 e6 e3 e2 f4 g4 f5 k1 k2 b0 b1 b2 b3 b4 b5 b6 b7
    omega
  have k4 : X5 + X6 = (c5 + c6) + 256 * (X6 + c7) := by
    clear u6 u5 u4 u3 u2 e4 e3 e2 f4 g4 f5 k1 k2 k3 b0 b1 b2 b3 b4 b5 b6 b7
    omega
  have k5 : X6 + c7 = (c6 + c7) + 256 * c7 := by
    clear u6 u5 u4 u3 u2 e5 e4 e3 e2 f4 g4 f5 k1 k2 k3 k4 b0 b1 b2 b3 b4 b5 b6 b7
    omega
  obtain ⟨Z2, z2⟩ : ∃ Z2, Z2 = X2 + X3 := ⟨_, rfl⟩
  obtain ⟨Z3, z3⟩ : ∃ Z3, Z3 = X3 + X4 := ⟨_, rfl⟩
  obtain ⟨Z4, z4⟩ : ∃ Z4, Z4 = X4 + X5 := ⟨_, rfl⟩
  obtain ⟨Z5, z5⟩ : ∃ Z5, Z5 = X5 + X6 := ⟨_, rfl⟩
  obtain ⟨Z6, z6⟩ : ∃ Z6, Z6 = X6 + c7 := ⟨_, rfl⟩
  have w2 : Z2 ≤ 14 * 1099511627776 := by omega
  rw [← z2] at g4 f5 k1
  rw [← z3] at k1 k2
  rw [← z4] at k2 k3
  rw [← z5] at k3 k4
  rw [← z6] at k4 k5
  clear z2 z3 z4 z5 z6 e6 e5 e4 e3 e2 u6 u5 u4 u3
  have f6 : (c0 + c1) + 256 * ((c1 + c2) + 256 * Z2) + Z2 = (c0 + c1 + c2 + c3) + 256 * ((c1 + c2 + c3 + c4) + 256 * ((c2 + c3 + c4 + c5) + 256 * ((c3 + c4 + c5 + c6) + 256 * (Z4 + Z6)))) := by
    clear f4 g4 f5 u2 w2 b0 b1 b2 b3 b4 b5 b6 b7
    omega
  have f7 := fold_c (a := c0 + c1 + c2 + c3) (b := c1 + c2 + c3 + c4) (c := c2 + c3 + c4 + c5) (d := c3 + c4 + c5 + c6) (R := Z4 + Z6) (by omega) (by omega) (by omega) (by omega) rfl
  have k6 : Z4 + Z6 = (c4 + c5 + c6 + c7) + 256 * (Z5 + c7) := by
    clear f4 g4 f5 f6 f7 u2 w2 k1 k2 k4 b0 b1 b2 b3 b4 b5 b6 b7
    omega
  have f8 := fold_d f7.2 k6 (by omega) (by omega)
  refine ⟨(c0 + c1) + 256 * ((c1 + c2) + 256 * Z2), (c0 + c1) + 256 * ((c1 + c2) + 256 * Z2) + Z2, f4.trans g4, by rw [f5], ?_, ?_, ?_, ?_⟩
  · rw [f6, f7.1, f8]
    clear f4 g4 f5 f6 f7 f8 k1 k2 k3 k4 k5 k6 u2 w2
    omega
  · clear f4 g4 f5 f6 f7 f8 k1 k2 k3 k4 k5 k6
    omega
  · clear f4 g4 f5 f6 f7 f8 k1 k2 k3 k4 k5 k6
    omega
  · clear f4 g4 f5 f6 f7 f8 k1 k2 k3 k4 k5 k6
    omega
theorem bcL_n {V : VT} {r : List Nat} (hl : r.length = 8) (hr : ∀ a ∈ r, a < 256) : fJ13_bitCount_95d88 V (lN (nm r)) = some (nI ((r.map (fun a => fb_ct a.testBit 8)).foldr (· + ·) 0)) := by
  have hlt := nm_le hr
  rw [hl] at hlt
  have h1 : (nm r / 2) &&& rep 85 8 = nm (r.map (fun a => a / 2 &&& 85)) := by
    have := nm_h (c := 85) (by omega) (fun a => a / 2 &&& 85) (fun a => a < 256) 2 128 rfl (by omega) (by omega) (fun a ha => ⟨ha, (p_a a ha).1⟩) r hr
    rw [hl] at this
    exact this
  have h2 : nm (r.map p1) + nm (r.map (fun a => a / 2 &&& 85)) = nm r := by
    rw [nm_add, ← nm_id r]
    rw [nm_id r]
    rw [show nm r = nm (r.map (fun a => a)) from (nm_id r).symm]
    exact nm_cong r (fun a ha => by
      have := (p_a a (hr a ha)).2.1
      unfold p1
      omega)
  have hp1 : ∀ a ∈ r.map p1, a < 256 := by
    intro a ha
    obtain ⟨x, hx, rfl⟩ := List.mem_map.1 ha
    exact (p_b x (hr x hx)).2.1
  have hlp : (r.map p1).length = 8 := by rw [List.length_map]; exact hl
  have h3 : nm (r.map p1) &&& rep 51 8 = nm (r.map (fun a => p1 a &&& 51)) := by
    have := nm_and (c := 51) (by omega) (r.map p1) hp1
    rw [hlp, List.map_map] at this
    exact this
  have h4 : (nm (r.map p1) / 4) &&& rep 51 8 = nm (r.map (fun a => p1 a / 4 &&& 51)) := by
    have := nm_h (c := 51) (by omega) (fun b => b / 4 &&& 51) (fun b => ∃ a, a < 256 ∧ b = p1 a) 4 64 rfl (by omega) (by omega) (fun b ⟨a, ha, hb⟩ => by
      rw [hb]
      exact ⟨(p_b a ha).2.1, (p_b a ha).1⟩) (r.map p1) (fun b hb => by
      obtain ⟨x, hx, rfl⟩ := List.mem_map.1 hb
      exact ⟨x, hr x hx, rfl⟩)
    rw [hlp, List.map_map] at this
    exact this
  have h5 : nm (r.map (fun a => p1 a &&& 51)) + nm (r.map (fun a => p1 a / 4 &&& 51)) = nm (r.map p2) := nm_add _ _ r
  have hp2 : ∀ a ∈ r.map p2, a < 256 ∧ a % 16 ≤ 4 ∧ a / 16 ≤ 4 := by
    intro a ha
    obtain ⟨x, hx, rfl⟩ := List.mem_map.1 ha
    have := p_c x (hr x hx)
    exact ⟨this.1, this.2.1, this.2.2.1⟩
  have hlp2 : (r.map p2).length = 8 := by rw [List.length_map]; exact hl
  have h6 : (nm (r.map p2) + nm (r.map p2) / 16) &&& rep 15 8 = nm (r.map (fun a => fb_ct a.testBit 8)) := by
    have := (nm_16 (r.map p2) hp2).2
    rw [hlp2, List.map_map] at this
    rw [this]
    exact nm_cong r (fun a ha => (p_c a (hr a ha)).2.2.2)
  have l1 := nm_le hp1
  rw [hlp] at l1
  have l2 := nm_le (fun a ha => (hp2 a ha).1)
  rw [hlp2] at l2
  have hc : ∀ a ∈ r.map (fun a => fb_ct a.testBit 8), a ≤ 8 := by
    intro a ha
    obtain ⟨x, hx, rfl⟩ := List.mem_map.1 ha
    exact fb_ct_le _ 8
  have hlc : (r.map (fun a => fb_ct a.testBit 8)).length = 8 := by rw [List.length_map]; exact hl
  unfold fJ13_bitCount_95d88
  rw [pk_ushrL (by omega) 1 1 (by decide), lm_85, fb_andL, show (2 : Nat) ^ 1 = 2 from rfl, h1, lN_sub (by omega), show nm r - nm (r.map (fun a => a / 2 &&& 85)) = nm (r.map p1) by omega, q_lt]
  rw [pk_ushrL (n := nm (r.map p1)) (by omega) 2 2 (by decide), lm_51, fb_andL, fb_andL, show (2 : Nat) ^ 2 = 4 from rfl, h3, h4, lN_add, h5, q_lt]
  rw [pk_ushrL (n := nm (r.map p2)) (by omega) 4 4 (by decide), lm_15, lN_add, fb_andL, show (2 : Nat) ^ 4 = 16 from rfl, h6, q_lt]
  generalize r.map (fun a => fb_ct a.testBit 8) = cs at hc hlc ⊢
  match cs, hlc, hc with
  | [c0, c1, c2, c3, c4, c5, c6, c7], _, hc =>
    obtain ⟨y4, y5, e4, e5, e6, t3, t4, t5⟩ := fold8 (hc c0 (by simp)) (hc c1 (by simp)) (hc c2 (by simp)) (hc c3 (by simp)) (hc c4 (by simp)) (hc c5 (by simp)) (hc c6 (by simp)) (hc c7 (by simp))
    have en : nm [c0, c1, c2, c3, c4, c5, c6, c7] = c0 + 256 * (c1 + 256 * (c2 + 256 * (c3 + 256 * (c4 + 256 * (c5 + 256 * (c6 + 256 * c7)))))) := rfl
    have ef : [c0, c1, c2, c3, c4, c5, c6, c7].foldr (· + ·) 0 = c0 + (c1 + (c2 + (c3 + (c4 + (c5 + (c6 + (c7 + 0))))))) := rfl
    rw [en, ef]
    generalize c0 + 256 * (c1 + 256 * (c2 + 256 * (c3 + 256 * (c4 + 256 * (c5 + 256 * (c6 + 256 * c7)))))) = y3 at e4 t3 ⊢
    rw [pk_ushrL t3 8 8 (by decide), lN_add, e4, q_lt, pk_ushrL t4 16 16 (by decide), lN_add, e5, q_lt, pk_ushrL t5 32 32 (by decide), lN_add, q_lt, lN_i, show (127 : Int32) = nI (2 ^ 7 - 1) from rfl, fa_mask, e6]
def dg : Nat → Nat → List Nat
  | _, 0 => []
  | x, n + 1 => x % 256 :: dg (x / 256) n
theorem dg_len : ∀ n x, (dg x n).length = n
  | 0, x => rfl
  | n + 1, x => by show (dg (x / 256) n).length + 1 = n + 1; rw [dg_len n]
theorem dg_lt : ∀ n x, ∀ a ∈ dg x n, a < 256
  | 0, x, a, h => by cases h
  | n + 1, x, a, h => by
    rcases List.mem_cons.1 h with rfl | h
    · exact Nat.mod_lt _ (by omega)
    · exact dg_lt n (x / 256) a h
theorem dg_nm : ∀ n x, x < 256 ^ n → nm (dg x n) = x
  | 0, x, h => by show 0 = x; rw [Nat.pow_zero] at h; omega
  | n + 1, x, h => by
    show x % 256 + 256 * nm (dg (x / 256) n) = x
    rw [Nat.pow_succ] at h
    rw [dg_nm n (x / 256) (by omega)]
    omega
theorem dg_ct : ∀ n x, ((dg x n).map (fun a => fb_ct a.testBit 8)).foldr (· + ·) 0 = fb_ct x.testBit (8 * n)
  | 0, x => rfl
  | n + 1, x => by
    show fb_ct (x % 256).testBit 8 + ((dg (x / 256) n).map (fun a => fb_ct a.testBit 8)).foldr (· + ·) 0 = _
    rw [dg_ct n (x / 256), show 8 * (n + 1) = 8 + 8 * n by omega, fb_ct_split]
    have k0 : ∀ j, j < 8 → (x % 256).testBit j = x.testBit j := by
      intro j hj
      rw [show 256 = 2 ^ 8 from rfl, Nat.testBit_mod_two_pow]
      simp [hj]
    have k1 : (x / 256).testBit = fun j => x.testBit (8 + j) := by
      funext j
      rw [show 256 = 2 ^ 8 from rfl, Nat.testBit_div_two_pow, Nat.add_comm]
    rw [fb_ct_cong k0, k1]
theorem bcL {V : VT} {x : Nat} (h : x < 2 ^ 64) : fJ13_bitCount_95d88 V (lN x) = some (nI (fb_ct x.testBit 64)) := by
  have e := bcL_n (V := V) (dg_len 8 x) (dg_lt 8 x)
  rw [dg_nm 8 x (by omega), dg_ct 8 x] at e
  exact e
