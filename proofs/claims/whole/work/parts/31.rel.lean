/-! ===== the street as numbers: scalars (houses, deeds, texts, has a law, day, fog, mists, words, logged), rows of houses, of deeds, of the log, and the seed ===== -/
abbrev AT : Type := (Nat → Nat) × (Nat → Nat → Nat) × (Nat → Nat → Nat) × (Nat → Nat → Nat) × Int32
def aS (A : AT) : Nat → Nat := A.1
def aH (A : AT) : Nat → Nat → Nat := A.2.1
def aD (A : AT) : Nat → Nat → Nat := A.2.2.1
def aL (A : AT) : Nat → Nat → Nat := A.2.2.2.1
def aZ (A : AT) : Int32 := A.2.2.2.2
def up1 (f : Nat → Nat) (k v : Nat) : Nat → Nat := fun j => if j = k then v else f j
def up2 (f : Nat → Nat → Nat) (h k v : Nat) : Nat → Nat → Nat := fun i j => if i = h ∧ j = k then v else f i j
def pS (A : AT) (k v : Nat) : AT := (up1 A.1 k v, A.2)
def pH (A : AT) (h k v : Nat) : AT := (A.1, up2 A.2.1 h k v, A.2.2)
def pD (A : AT) (h k v : Nat) : AT := (A.1, A.2.1, up2 A.2.2.1 h k v, A.2.2.2)
def pZ (A : AT) (z : Int32) : AT := (A.1, A.2.1, A.2.2.1, A.2.2.2.1, z)
/-- what a deed hangs on: 0 none -/
def onI (n : Nat) : Int32 := if n = 0 then -1 else nI (n - 1)
def aw (A : AT) (h : Nat) : Bool := decide (aH A h 7 = 1)
def so (A : AT) (d : Nat) : Bool := decide (aD A d 5 = 1)
def pc8 (x : Nat) : Nat := fb_ct x.testBit 8
/-- the model's row of numbers holds the street -/
def RM (W : Nat → Int32) (A : AT) : Prop :=
  (∀ k, k < 9 → W k = nI (aS A k)) ∧ W 9 = aZ A ∧ (∀ h k, h < aS A 0 → k < 8 → W (10 + 8 * h + k) = nI (aH A h k)) ∧
  (∀ d k, d < aS A 1 → k < 6 → k ≠ 2 → W (74 + 6 * d + k) = nI (aD A d k)) ∧ (∀ d, d < aS A 1 → W (74 + 6 * d + 2) = onI (aD A d 2)) ∧
  (∀ j k, j < aS A 8 → k < 3 → W (134 + 3 * j + k) = nI (aL A j k))
/-- state i of the class's holds the street -/
def RS (V : VT) (i : Nat) (A : AT) : Prop :=
  (V i 3 = nI (aS A 0) ∧ V i 4 = nI (aS A 1) ∧ V i 5 = nI (aS A 2) ∧ V i 6 = nI (bs (aw A) (aS A 0)) ∧ V i 7 = nI (bs (so A) (aS A 1)) ∧ V i 8 = nI (aS A 5) ∧ V i 9 = nI (aS A 6) ∧ V i 10 = nI (aS A 4) ∧ V i 11 = aZ A ∧ V i 12 = nI (aS A 7)) ∧
  (∀ h k, h < aS A 0 → k < 7 → V (18 + 3 * i + 0) (7 * h + k) = nI (aH A h k)) ∧
  (∀ d k, d < aS A 1 → k < 5 → k ≠ 2 → V (18 + 3 * i + 1) (5 * d + k) = nI (aD A d k)) ∧ (∀ d, d < aS A 1 → V (18 + 3 * i + 1) (5 * d + 2) = onI (aD A d 2)) ∧
  (∀ j, j < aS A 8 → V (18 + 3 * i + 2) ((aS A 7 - 1 - j) % 60) = nI ((aL A j 0 * 8 + aL A j 1) * 10 + aL A j 2))
def WA (A : AT) : Prop :=
  (aS A 0 ≤ 8 ∧ aS A 1 ≤ 10 ∧ aS A 2 ≤ 12 ∧ aS A 3 ≤ 1 ∧ aS A 4 ≤ 9999 ∧ aS A 5 ≤ 9 ∧ aS A 6 ≤ 9 ∧ aS A 7 = fb_sm (fun d => pc8 (aD A d 4)) (aS A 1) ∧ aS A 8 = min 60 (aS A 7)) ∧
  (∀ h, h < aS A 0 → aH A h 0 ≤ 23 ∧ aH A h 1 ≤ aH A h 2 ∧ aH A h 2 ≤ 23 ∧ aH A h 3 ≤ 23 ∧ aH A h 4 ≤ 24 ∧ aH A h 5 ≤ 9 ∧ aH A h 6 ≤ 3 ∧ aH A h 7 ≤ 1) ∧
  (∀ d, d < aS A 1 → aD A d 0 ≤ 23 ∧ aD A d 1 ≤ 23 ∧ aD A d 2 ≤ d ∧ aD A d 3 < 256 ∧ aD A d 4 < 256 ∧ aD A d 5 ≤ 1) ∧
  (∀ j, j < aS A 8 → aL A j 0 ≤ 9999 ∧ aL A j 1 < 8 ∧ aL A j 2 < 10)
theorem WA_w {A : AT} (h : WA A) : aS A 7 ≤ 80 := by
  have h1 := h.1.2.2.2.2.2.2.2.1
  have h2 : fb_sm (fun d => pc8 (aD A d 4)) (aS A 1) ≤ aS A 1 * 8 := fb_sm_bound (fun k _ => fb_ct_le _ 8)
  have h3 := h.1.2.1
  omega
theorem WA_l {A : AT} (h : WA A) : aS A 8 ≤ 60 := by
  have h1 := h.1.2.2.2.2.2.2.2.2
  omega
theorem bs_256 (f : Nat → Bool) {n : Nat} (h : n ≤ 8) : bs f n < 256 := Nat.lt_of_lt_of_le (bs_lt f n) (Nat.pow_le_pow_right (n := 2) (by omega) h)
theorem bs_1024 (f : Nat → Bool) {n : Nat} (h : n ≤ 10) : bs f n < 1024 := Nat.lt_of_lt_of_le (bs_lt f n) (Nat.pow_le_pow_right (n := 2) (by omega) h)
theorem onI_m1 {n : Nat} (h : n < 100) : onI n = -1 ↔ n = 0 := by
  unfold onI
  by_cases h0 : n = 0
  · simp [h0]
  · rw [if_neg h0]
    exact ⟨fun e => absurd e (q_m1 (by omega)), fun e => absurd e h0⟩
theorem onI_s {n : Nat} (h : n ≠ 0) : onI n = nI (n - 1) := if_neg h
theorem onI_neg {n : Nat} (h : n < 100) : onI n < 0 ↔ n = 0 := by
  unfold onI
  by_cases h0 : n = 0
  · simp [h0]
  · rw [if_neg h0]
    exact ⟨fun e => absurd e (nI_pos (by omega)), fun e => absurd e h0⟩
/-! ===== the class's rows ===== -/
section CL
variable {V : VT} {i : Nat} {A : AT}
theorem c_ofHouse (hR : RS V i A) (hW : WA A) {h k : Nat} (hh : h < aS A 0) (hk : k < 7) : fX6_ofHouse V i (nI h) (nI k) = some (nI (aH A h k)) := by
  have h8 := hW.1.1
  unfold fX6_ofHouse
  rw [q_lit, pk_mul, nI_add, q_lt, if_neg (nI_pos (by omega)), if_neg (nI_ge (by omega) (by omega)), q_rd (by omega) (by omega), nI_clamp (by omega), show h * 7 + k = 7 * h + k by omega, hR.2.1 h k hh hk]
theorem c_ofDeed (hR : RS V i A) (hW : WA A) {d k : Nat} (hd : d < aS A 1) (hk : k < 5) (hk2 : k ≠ 2) : fX6_ofDeed V i (nI d) (nI k) = some (nI (aD A d k)) := by
  have h8 := hW.1.2.1
  unfold fX6_ofDeed
  rw [q_lit, pk_mul, nI_add, q_lt, if_neg (nI_pos (by omega)), if_neg (nI_ge (by omega) (by omega)), q_rd (by omega) (by omega), nI_clamp (by omega), show d * 5 + k = 5 * d + k by omega, hR.2.2.1 d k hd hk hk2]
theorem c_ofDeed2 (hR : RS V i A) (hW : WA A) {d : Nat} (hd : d < aS A 1) : fX6_ofDeed V i (nI d) 2 = some (onI (aD A d 2)) := by
  have h8 := hW.1.2.1
  unfold fX6_ofDeed
  rw [q_lit, q_lit, pk_mul, nI_add, q_lt, if_neg (nI_pos (by omega)), if_neg (nI_ge (by omega) (by omega)), q_rd (by omega) (by omega), nI_clamp (by omega), show d * 5 + 2 = 5 * d + 2 by omega, hR.2.2.2.1 d hd]
theorem c_bit {x k : Nat} (hx : x < 2 ^ 31) (h : k < 32) : (if ((nI x >>> (nI k &&& 31)) &&& 1) = 1 then (zo_ (1 : Int32) (some (1 : Int32))) else (zo_ (0 : Int32) (some (0 : Int32)))) = some (bI (x.testBit k)) := by
  by_cases hb : x.testBit k = true
  · rw [if_pos ((q_bit hx h).2 hb), q_zo1, hb]; rfl
  · rw [if_neg (fun e => hb ((q_bit hx h).1 e)), q_zo0]
    simp [hb, bI]
theorem c_isAway (hR : RS V i A) (hW : WA A) {h : Nat} (hh : h < aS A 0) : fX6_isAway V i (nI h) = some (bI (aw A h)) := by
  have h8 := hW.1.1
  have hb := bs_256 (aw A) h8
  unfold fX6_isAway
  rw [hR.1.2.2.2.1, c_bit (by omega) (by omega), bs_bit]
  simp [hh]
theorem c_isSo (hR : RS V i A) (hW : WA A) {d : Nat} (hd : d < aS A 1) : fX6_isSo V i (nI d) = some (bI (so A d)) := by
  have h8 := hW.1.2.1
  have hb := bs_1024 (so A) h8
  unfold fX6_isSo
  rw [hR.1.2.2.2.2.1, c_bit (by omega) (by omega), bs_bit]
  simp [hd]
theorem c_hasSeen (hR : RS V i A) (hW : WA A) {h d : Nat} (hh : h < aS A 0) (hd : d < aS A 1) : fX6_hasSeen V i (nI h) (nI d) = some (bI ((aD A d 3).testBit h)) := by
  have h8 := hW.1.1
  have h9 := (hW.2.2.1 d hd).2.2.2.1
  unfold fX6_hasSeen
  have e : fX6_ofDeed V i (nI d) 3 = some (nI (aD A d 3)) := c_ofDeed hR hW hd (k := 3) (by omega) (by omega)
  rw [e, q_R, c_bit (by omega) (by omega)]
theorem c_hasSaid (hR : RS V i A) (hW : WA A) {h d : Nat} (hh : h < aS A 0) (hd : d < aS A 1) : fX6_hasSaid V i (nI h) (nI d) = some (bI ((aD A d 4).testBit h)) := by
  have h8 := hW.1.1
  have h9 := (hW.2.2.1 d hd).2.2.2.2.1
  unfold fX6_hasSaid
  have e : fX6_ofDeed V i (nI d) 4 = some (nI (aD A d 4)) := c_ofDeed hR hW hd (k := 4) (by omega) (by omega)
  rw [e, q_R, c_bit (by omega) (by omega)]
theorem c_allHouses (hR : RS V i A) (hW : WA A) : fX6_allHouses V i = some (nI (2 ^ aS A 0 - 1)) := by
  have h8 := hW.1.1
  unfold fX6_allHouses
  rw [hR.1.1, q_all (by omega)]
/-- whether a deed is free -/
def fre (A : AT) (d : Nat) : Bool := decide (aD A d 2 = 0) || so A (aD A d 2 - 1)
theorem c_isFree (hR : RS V i A) (hW : WA A) {d : Nat} (hd : d < aS A 1) : fX6_isFree V i (nI d) = some (bI (fre A d)) := by
  have h8 := hW.1.2.1
  have h9 := (hW.2.2.1 d hd).2.2.1
  unfold fX6_isFree
  rw [c_ofDeed2 hR hW hd, q_R]
  by_cases h0 : aD A d 2 = 0
  · rw [if_pos ((onI_m1 (by omega)).2 h0), q_zo1]
    simp [fre, h0, bI]
  · rw [if_neg (fun e => h0 ((onI_m1 (by omega)).1 e)), onI_s h0, c_isSo hR hW (by omega), q_R, q_ifb]
    cases hs : so A (aD A d 2 - 1) <;> simp [fre, h0, hs, q_zo0, q_zo1, bI]
end CL
/-! ===== the model's rows ===== -/
section ML
variable {V : VT} {A : AT}
theorem m_houses (hM : RM (V 76) A) : fX10_houses V = some (nI (aS A 0)) := by
  unfold fX10_houses
  rw [q_lit, q_rd (by omega) (by omega), nI_clamp (by omega), hM.1 0 (by omega)]
theorem m_deeds (hM : RM (V 76) A) : fX10_deeds V = some (nI (aS A 1)) := by
  unfold fX10_deeds
  rw [q_lit, q_rd (by omega) (by omega), nI_clamp (by omega), hM.1 1 (by omega)]
theorem m_allHouses (hM : RM (V 76) A) (hW : WA A) : fX10_allHouses V = some (nI (2 ^ aS A 0 - 1)) := by
  have h8 := hW.1.1
  unfold fX10_allHouses
  rw [m_houses hM, q_R, q_all (by omega)]
theorem m_of (hM : RM (V 76) A) (hW : WA A) {h k : Nat} (hh : h < aS A 0) (hk : k < 8) : fX10_of V (nI h) (nI k) = some (nI (aH A h k)) := by
  have h8 := hW.1.1
  unfold fX10_of fX10_at
  rw [q_R, q_lit, q_lit, pk_mul, nI_add, nI_add, q_rd (by omega) (by omega), nI_clamp (by omega), hM.2.2.1 h k hh hk]
theorem m_ofDeed (hM : RM (V 76) A) (hW : WA A) {d k : Nat} (hd : d < aS A 1) (hk : k < 6) (hk2 : k ≠ 2) : fX10_ofDeed V (nI d) (nI k) = some (nI (aD A d k)) := by
  have h8 := hW.1.2.1
  unfold fX10_ofDeed fX10_deedAt
  rw [q_R, q_lit, q_lit, pk_mul, nI_add, nI_add, q_rd (by omega) (by omega), nI_clamp (by omega), hM.2.2.2.1 d k hd hk hk2]
theorem m_ofDeed2 (hM : RM (V 76) A) (hW : WA A) {d : Nat} (hd : d < aS A 1) : fX10_ofDeed V (nI d) 2 = some (onI (aD A d 2)) := by
  have h8 := hW.1.2.1
  unfold fX10_ofDeed fX10_deedAt
  rw [q_R, q_lit, q_lit, q_lit, pk_mul, nI_add, nI_add, q_rd (by omega) (by omega), nI_clamp (by omega), hM.2.2.2.2.1 d hd]
theorem m_isSo (hM : RM (V 76) A) (hW : WA A) {d : Nat} (hd : d < aS A 1) : fX10_isSo V (nI d) = some (bI (so A d)) := by
  have h9 := (hW.2.2.1 d hd).2.2.2.2.2
  unfold fX10_isSo
  have e : fX10_ofDeed V (nI d) 5 = some (nI (aD A d 5)) := m_ofDeed hM hW hd (k := 5) (by omega) (by omega)
  rw [e, q_R]
  by_cases h1 : aD A d 5 = 1
  · rw [h1, if_pos (show nI 1 = 1 from rfl), q_zo1]; simp [so, h1, bI]
  · have h0 : aD A d 5 = 0 := by omega
    rw [h0, if_neg (by decide), q_zo0]; simp [so, h0, bI]
theorem m_has {x k : Nat} (hx : x < 2 ^ 31) (h : k < 32) : fX10_has V (nI x) (nI k) = some (bI (x.testBit k)) := c_bit hx h
theorem m_isFree (hM : RM (V 76) A) (hW : WA A) {d : Nat} (hd : d < aS A 1) : fX10_isFree V (nI d) = some (bI (fre A d)) := by
  have h8 := hW.1.2.1
  have h9 := (hW.2.2.1 d hd).2.2.1
  unfold fX10_isFree
  rw [m_ofDeed2 hM hW hd, q_R]
  by_cases h0 : aD A d 2 = 0
  · rw [if_pos ((onI_neg (by omega)).2 h0), q_zo1]
    simp [fre, h0, bI]
  · rw [if_neg (fun e => h0 ((onI_neg (by omega)).1 e)), q_R, onI_s h0, m_isSo hM hW (by omega), q_R, q_ifb]
    cases hs : so A (aD A d 2 - 1) <;> simp [fre, h0, hs, q_zo0, q_zo1, bI]
end ML
