/-! ===== bytes, signed and not ===== -/
def ubN (x : Int32) : Nat := x.toBitVec.toNat % 256
theorem ub_and (x : Int32) : x &&& (255 : Int32) = nI (ubN x) := pk_and x 8 (by decide)
theorem ub_lt (x : Int32) : ubN x < 256 := Nat.mod_lt _ (by omega)
theorem ub_c {x : Int32} (h : by_ x) : (x < 0 ∧ 128 ≤ ubN x) ∨ (x = nI (ubN x) ∧ ubN x < 128) := by
  have hr := fb_byte_rng x
  rw [h] at hr
  by_cases c : x < 0
  · left
    refine ⟨c, ?_⟩
    rw [fa_lt] at c
    have c : x.toInt < 0 := c
    have e : x.toInt = x.toBitVec.toInt := rfl
    rw [e] at c hr
    have ht := BitVec.toInt_eq_toNat_cond (x := x.toBitVec)
    have hlt := x.toBitVec.isLt
    unfold ubN
    by_cases d : 2 * x.toBitVec.toNat < 2 ^ 32
    · rw [if_pos d] at ht; omega
    · rw [if_neg d] at ht
      omega
  · right
    obtain ⟨j, hj, rfl⟩ := nI_of c
    rw [nI_toInt hj] at hr
    have e : ubN (nI j) = j := by
      unfold ubN
      rw [pk_tn (by omega)]
      omega
    rw [e]
    exact ⟨rfl, by omega⟩
theorem ub_ix {x : Int32} (h : by_ x) {n : Nat} (hn : n ≤ 8) : ix x n = decide (ubN x < n) := by
  rcases ub_c h with ⟨a, b⟩ | ⟨a, b⟩
  · rw [decide_eq_false (by omega)]
    unfold ix
    exact decide_eq_false (fun c => c.1 a)
  · rw [a, ix_n (by omega) (by omega)]
    rw [← a]
/-! ===== what is told on the tape ===== -/
def rkB (b : Nat → Int32) (H r : Nat) : Bool := decide (ubN (b (3 * r)) ≤ ubN (b (3 * r + 1)) ∧ ubN (b (3 * r + 1)) < H)
def rwT (b : Nat → Int32) (r : Nat) : Nat := 2 ^ (ubN (b (3 * r + 1)) + 1) - 2 ^ ubN (b (3 * r))
def ftR (b : Nat → Int32) (s r : Nat) : Bool := decide (pc8 (s &&& rwT b r) = ubN (b (3 * r + 2)))
def ftB (b : Nat → Int32) (n s : Nat) : Bool := allB (ftR b s) (n / 3)
def tdB (b : Nat → Int32) (n H : Nat) : Bool := decide (n % 3 = 0 ∧ n ≤ 36) && allB (rkB b H) (n / 3)
theorem allB_s {p : Nat → Bool} {n : Nat} : allB p (n + 1) = (allB p n && p n) := by
  cases h : allB p n && p n
  · cases h2 : allB p (n + 1)
    · rfl
    · have := allB_iff.1 h2
      have h3 : allB p n = true := allB_iff.2 (fun k hk => this k (by omega))
      rw [h3, this n (by omega)] at h
      cases h
  · rw [Bool.and_eq_true] at h
    exact allB_iff.2 (fun k hk => by
      by_cases e : k = n
      · rw [e]; exact h.2
      · exact allB_iff.1 h.1 k (by omega))
theorem lt_nn {x y : Int32} {m n : Nat} (hx : x = nI m) (hy : y = nI n) (hm : m < 2 ^ 31) (hn : n < 2 ^ 31) : (x < y) = (m < n) := by
  rw [hx, hy]
  exact propext (nI_ltI hm hn)
section OP
variable {V : VT} {A : AT} {L : Fa → Bool} {b : Nat → Int32} {n : Nat}
theorem c_byteAt (h1 : V 1 1 = nI n) (hn : n ≤ 400) (hb : ∀ k, k < 400 → V 23 k = b k) {k : Nat} (hk : k < n) : fX8_byteAt V (nI k) = some (nI (ubN (b k))) := by
  unfold fX8_byteAt
  rw [if_neg (nI_pos (by omega)), h1, if_neg (nI_ge hk (by omega)), if_neg (nI_ge (show k < 400 by omega) (by omega)), q_rd (show k < 400 by omega) (by omega), nI_clamp (by omega), hb k (by omega), ub_and]
theorem c_isTold (h1 : V 1 1 = nI n) (hn : n ≤ 400) (hb : ∀ k, k < 400 → V 23 k = b k) {H : Nat} (hH : H ≤ 8) : fX2_isTold V (nI H) = some (bI (tdB b n H)) := by
  unfold fX2_isTold
  rw [h1]
  by_cases c36 : n ≤ 36
  · rw [if_neg (show ¬ (36 : Int32) < nI n from nI_nlt (a := 36) c36 (by omega)), show nI n - nI n / 3 * 3 = nI (n % 3) from pk_rem (d := 3) (by omega) (by omega) (by omega)]
    by_cases c3 : n % 3 = 0
    · rw [c3, if_pos (show nI 0 = 0 from rfl)]
      have etd : tdB b n H = allB (rkB b H) (n / 3) := by
        unfold tdB
        rw [decide_eq_true ⟨c3, c36⟩, Bool.true_and]
      rw [etd]
      obtain ⟨r, e, rfl⟩ := it_forE (F := FV) (f := iX2_isTold_L22 V) (n / 3) (fun k s => s = (nI H, nI (3 * k)) ∧ allB (rkB b H) k = true) (fun r => r = bI (allB (rkB b H) (n / 3)))
        (by
          rintro k s hk ⟨rfl, hall⟩
          have u1 := ub_lt (b (3 * k))
          have u2 := ub_lt (b (3 * k + 1))
          unfold iX2_isTold_L22 fX2_isTold_L22
          simp only []
          rw [h1, if_neg (nI_ge (by omega) (by omega)), nI_1, c_byteAt h1 hn hb (by omega), q_R, c_byteAt h1 hn hb (by omega), q_R]
          have no : rkB b H k = false → (0 : Int32) = bI (allB (rkB b H) (n / 3)) := by
            intro hr
            have : allB (rkB b H) (n / 3) = false := by
              cases h : allB (rkB b H) (n / 3)
              · rfl
              · have := allB_iff.1 h k hk
                rw [hr] at this; cases this
            rw [this]; rfl
          by_cases c1 : ubN (b (3 * k + 1)) < ubN (b (3 * k))
          · right
            rw [if_pos (nI_lt c1 (by omega)), q_zo0]
            exact ⟨_, rfl, no (decide_eq_false (by omega))⟩
          · rw [if_neg (nI_nlt (by omega) (by omega))]
            by_cases c2 : ubN (b (3 * k + 1)) < H
            · left
              rw [if_pos (nI_lt c2 (by omega)), q_add, q_lt]
              refine ⟨_, rfl, rfl, ?_⟩
              rw [allB_s, hall, show rkB b H k = true from decide_eq_true (by omega)]; rfl
            · right
              rw [if_neg (nI_nlt (by omega) (by omega)), q_zo0]
              exact ⟨_, rfl, no (decide_eq_false (by omega))⟩)
        (by
          rintro s ⟨rfl, hall⟩
          unfold iX2_isTold_L22 fX2_isTold_L22
          simp only []
          rw [h1, if_pos (nI_le (by omega) (by omega)), q_zo1]
          exact ⟨_, rfl, by rw [hall]; rfl⟩) (by have := FV_ge; omega) (s := (nI H, 0)) ⟨rfl, rfl⟩
      rw [e, q_R]
    · rw [if_neg (nI_ne0 (by omega) (by omega)), q_zo0]
      unfold tdB
      rw [decide_eq_false (fun h => c3 h.1)]; rfl
  · rw [if_pos (show (36 : Int32) < nI n from nI_lt (a := 36) (by omega) (by omega)), q_zo0]
    unfold tdB
    rw [decide_eq_false (fun h => c36 h.2)]; rfl
theorem m_isTold (hT : MT V A L) (h1 : V 22 11 = nI n) (hn : n ≤ 400) (hb : ∀ k, k < 400 → V 81 k = b k) (hy : ∀ k, k < 400 → by_ (b k)) : fX10_isTold V = some (bI (tdB b n (aS A 0))) := by
  have h8 := hT.2.1.1.1
  have zero : it_ (iX10_isTold_L26 V) FV (0, 0) = some 0 := by
    obtain ⟨r, e, rfl⟩ := it_for (F := FV) (f := iX10_isTold_L26 V) 0 (fun k s => s = (0, 0)) (fun r => r = 0) (fun k s hk => by omega)
      (by
        rintro s rfl
        refine ⟨_, ?_, rfl⟩
        unfold iX10_isTold_L26 fX10_isTold_L26
        simp only []
        rw [if_pos trivial, q_zo0]
        split <;> rfl) (by have := FV_ge; omega) rfl
    exact e
  unfold fX10_isTold
  rw [h1, show nI n - nI n / 3 * 3 = nI (n % 3) from pk_rem (d := 3) (by omega) (by omega) (by omega), zero, q_R]
  by_cases c3 : n % 3 = 0
  · rw [c3, if_pos (show nI 0 = 0 from rfl)]
    by_cases c36 : n ≤ 36
    · rw [if_neg (show ¬ (36 : Int32) < nI n from nI_nlt (a := 36) c36 (by omega))]
      have etd : tdB b n (aS A 0) = allB (rkB b (aS A 0)) (n / 3) := by
        unfold tdB
        rw [decide_eq_true ⟨c3, c36⟩, Bool.true_and]
      rw [etd]
      obtain ⟨r, e, rfl⟩ := it_forE (F := FV) (f := iX10_isTold_L26 V) (n / 3) (fun k s => s = (bI (allB (rkB b (aS A 0)) k), nI (3 * k))) (fun r => r = bI (allB (rkB b (aS A 0)) (n / 3)))
        (by
          rintro k s hk rfl
          have u1 := ub_lt (b (3 * k))
          have u2 := ub_lt (b (3 * k + 1))
          unfold iX10_isTold_L26 fX10_isTold_L26
          simp only []
          rw [h1, if_neg (nI_ge (by omega) (by omega)), q_zo, q_ifb]
          cases hall : allB (rkB b (aS A 0)) k
          · right
            rw [if_neg (by decide)]
            refine ⟨_, rfl, ?_⟩
            have : allB (rkB b (aS A 0)) (n / 3) = false := by
              cases h : allB (rkB b (aS A 0)) (n / 3)
              · rfl
              · have := allB_iff.2 (fun j (hj : j < k) => allB_iff.1 h j (by omega))
                rw [hall] at this; cases this
            rw [this]
          · left
            rw [if_pos rfl, nI_1, q_rd (show 3 * k < 400 by omega) (by omega), q_rd (show 3 * k + 1 < 400 by omega) (by omega), q_rd (show 3 * k < 400 by omega) (by omega), q_rd (show 3 * k + 1 < 400 by omega) (by omega), nI_clamp (by omega), nI_clamp (by omega), hb (3 * k) (by omega), hb (3 * k + 1) (by omega), m_noHouse hT.1 hT.2.1, m_noHouse hT.1 hT.2.1, q_R, q_R, ub_ix (hy _ (by omega)) h8, ub_ix (hy _ (by omega)) h8, q_add]
            have es : allB (rkB b (aS A 0)) (k + 1) = rkB b (aS A 0) k := by rw [allB_s, hall, Bool.true_and]
            have st : ∀ x : Int32, x = bI (allB (rkB b (aS A 0)) (k + 1)) → ∃ t, (lt_ (nI (3 * k + 3)) fun y => some (.inl (x, y))) = some (.inl t : (Int32 × Int32) ⊕ Int32) ∧ t = (bI (allB (rkB b (aS A 0)) (k + 1)), nI (3 * (k + 1))) := by
              intro x hx
              rw [q_lt, hx]
              exact ⟨_, rfl, rfl⟩
            by_cases c1 : ubN (b (3 * k)) < aS A 0
            · rw [decide_eq_true c1, if_pos (show bI (!true) = 0 from rfl)]
              by_cases c2 : ubN (b (3 * k + 1)) < aS A 0
              · rw [decide_eq_true c2, if_pos (show bI (!true) = 0 from rfl)]
                have x1 : b (3 * k) = nI (ubN (b (3 * k))) := by
                  rcases ub_c (hy (3 * k) (by omega)) with ⟨_, h⟩ | ⟨h, _⟩
                  · omega
                  · exact h
                have x2 : b (3 * k + 1) = nI (ubN (b (3 * k + 1))) := by
                  rcases ub_c (hy (3 * k + 1) (by omega)) with ⟨_, h⟩ | ⟨h, _⟩
                  · omega
                  · exact h
                have ec : (b (3 * k + 1) < b (3 * k)) = (ubN (b (3 * k + 1)) < ubN (b (3 * k))) := lt_nn x2 x1 (by omega) (by omega)
                by_cases c3 : ubN (b (3 * k + 1)) < ubN (b (3 * k))
                · rw [if_pos (by rw [ec]; exact c3)]
                  exact st 0 (by rw [es, show rkB b (aS A 0) k = false from decide_eq_false (by omega)]; rfl)
                · rw [if_neg (by rw [ec]; exact c3)]
                  exact st 1 (by rw [es, show rkB b (aS A 0) k = true from decide_eq_true (by omega)]; rfl)
              · rw [decide_eq_false c2, if_neg (show ¬ bI (!false) = 0 by decide)]
                exact st 0 (by rw [es, show rkB b (aS A 0) k = false from decide_eq_false (by omega)]; rfl)
            · rw [decide_eq_false c1, if_neg (show ¬ bI (!false) = 0 by decide)]
              exact st 0 (by rw [es, show rkB b (aS A 0) k = false from decide_eq_false (by omega)]; rfl))
        (by
          rintro s rfl
          unfold iX10_isTold_L26 fX10_isTold_L26
          simp only []
          rw [h1, if_pos (nI_le (by omega) (by omega)), q_zo]
          exact ⟨_, rfl, rfl⟩) (by have := FV_ge; omega) (s := (1, 0)) rfl
      rw [e, q_R]
    · rw [if_pos (show (36 : Int32) < nI n from nI_lt (a := 36) (by omega) (by omega))]
      unfold tdB
      rw [decide_eq_false (fun h => c36 h.2)]; rfl
  · rw [if_neg (nI_ne0 (by omega) (by omega))]
    unfold tdB
    rw [decide_eq_false (fun h => c3 h.1)]; rfl
/-! ===== sets that fit ===== -/
theorem rwT_e {H r : Nat} (hH : H ≤ 8) (hr : rkB b H r = true) : ubN (b (3 * r)) ≤ ubN (b (3 * r + 1)) ∧ ubN (b (3 * r + 1)) < 8 ∧ 2 ^ ubN (b (3 * r)) ≤ 2 ^ (ubN (b (3 * r + 1)) + 1) ∧ 2 ^ (ubN (b (3 * r + 1)) + 1) ≤ 256 ∧ rwT b r < 256 ∧ (2 ^ (ubN (b (3 * r + 1)) - ubN (b (3 * r)) + 1) - 1) * 2 ^ ubN (b (3 * r)) = rwT b r := by
  have h := of_decide_eq_true hr
  have h1 : 2 ^ ubN (b (3 * r)) ≤ 2 ^ (ubN (b (3 * r + 1)) + 1) := Nat.pow_le_pow_right (by omega) (by omega)
  have h2 : 2 ^ (ubN (b (3 * r + 1)) + 1) ≤ 2 ^ 8 := Nat.pow_le_pow_right (by omega) (by omega)
  have h3 := Nat.two_pow_pos (ubN (b (3 * r)))
  refine ⟨h.1, by omega, h1, by omega, by unfold rwT; omega, ?_⟩
  unfold rwT
  rw [Nat.sub_mul, Nat.one_mul, ← Nat.pow_add]
  congr 2
  omega
theorem c_fits (h1 : V 1 1 = nI n) (hn : n ≤ 36) (h3 : n % 3 = 0) (hb : ∀ k, k < 400 → V 23 k = b k) {H s : Nat} (hH : H ≤ 8) (hrk : ∀ r, r < n / 3 → rkB b H r = true) (hs : s < 256) : fX2_fits V (nI s) = some (bI (ftB b n s)) := by
  unfold fX2_fits
  obtain ⟨r, e, rfl⟩ := it_forE (F := FV) (f := iX2_fits_L2 V) (n / 3) (fun k q => q = (nI s, nI (3 * k)) ∧ allB (ftR b s) k = true) (fun r => r = bI (ftB b n s))
    (by
      rintro k q hk ⟨rfl, hall⟩
      obtain ⟨a1, a2, a3, a4, a5, a6⟩ := rwT_e hH (hrk k hk)
      have u1 := ub_lt (b (3 * k))
      have u2 := ub_lt (b (3 * k + 1))
      have u3 := ub_lt (b (3 * k + 2))
      have hp := Nat.two_pow_pos (ubN (b (3 * k)))
      have han : s &&& rwT b k < 256 := Nat.lt_of_le_of_lt Nat.and_le_left hs
      have hpc := pc8_le (s &&& rwT b k)
      have hpw : 2 ^ (ubN (b (3 * k + 1)) - ubN (b (3 * k)) + 1) ≤ 2 ^ 8 := Nat.pow_le_pow_right (by omega) (by omega)
      have hpp := Nat.two_pow_pos (ubN (b (3 * k + 1)) - ubN (b (3 * k)) + 1)
      unfold iX2_fits_L2 fX2_fits_L2
      simp only []
      rw [h1, if_neg (nI_ge (by omega) (by omega)), c_byteAt h1 (by omega) hb (by omega), q_R, nI_1, c_byteAt h1 (by omega) hb (by omega), q_R, pk_sub a1, nI_1, q_lt, q_all (by omega), pk_shlN (n := 2 ^ (ubN (b (3 * k + 1)) - ubN (b (3 * k)) + 1) - 1) _ (ubN (b (3 * k))) (q_sl _ (by omega)) (by rw [a6]; omega), a6, q_lt, fa_and, bc_e, q_R, bc_8 han, q_add, c_byteAt h1 (by omega) hb (by omega), q_R, q_add]
      by_cases c : pc8 (s &&& rwT b k) = ubN (b (3 * k + 2))
      · left
        rw [if_pos (by rw [c]), q_lt]
        refine ⟨_, rfl, rfl, ?_⟩
        rw [allB_s, hall, show ftR b s k = true from decide_eq_true c]; rfl
      · right
        rw [if_neg (fun e => c ((nI_eq (by omega) (by omega)).1 e)), q_zo0]
        refine ⟨_, rfl, ?_⟩
        have : ftB b n s = false := by
          cases h : ftB b n s
          · rfl
          · have := allB_iff.1 h k hk
            exact absurd (of_decide_eq_true this) c
        rw [this]; rfl)
    (by
      rintro q ⟨rfl, hall⟩
      unfold iX2_fits_L2 fX2_fits_L2
      simp only []
      rw [h1, if_pos (nI_le (by omega) (by omega)), q_zo1]
      exact ⟨_, rfl, by unfold ftB; rw [hall]; rfl⟩) (by have := FV_ge; omega) (s := (nI s, 0)) ⟨rfl, rfl⟩
  rw [e, q_R]
theorem m_fits (h1 : V 22 11 = nI n) (hn : n ≤ 36) (h3 : n % 3 = 0) (hb : ∀ k, k < 400 → V 81 k = b k) (hy : ∀ k, k < 400 → by_ (b k)) {H s : Nat} (hH : H ≤ 8) (hrk : ∀ r, r < n / 3 → rkB b H r = true) (hs : s < 256) : fX10_fits V (nI s) = some (bI (ftB b n s)) := by
  unfold fX10_fits
  obtain ⟨r, e, rfl⟩ := it_for (F := FV) (f := iX10_fits_L4 V) (n / 3) (fun k q => q = (nI s, bI (allB (ftR b s) k), nI (3 * k))) (fun r => r = bI (ftB b n s))
    (by
      rintro k q hk rfl
      obtain ⟨a1, a2, a3, a4, a5, a6⟩ := rwT_e hH (hrk k hk)
      have u3 := ub_lt (b (3 * k + 2))
      have hp := Nat.two_pow_pos (ubN (b (3 * k)))
      have han : s &&& rwT b k < 256 := Nat.lt_of_le_of_lt Nat.and_le_left hs
      have hpc := pc8_le (s &&& rwT b k)
      have x1 : b (3 * k) = nI (ubN (b (3 * k))) := by
        rcases ub_c (hy (3 * k) (by omega)) with ⟨_, h⟩ | ⟨h, _⟩
        · omega
        · exact h
      have x2 : b (3 * k + 1) = nI (ubN (b (3 * k + 1))) := by
        rcases ub_c (hy (3 * k + 1) (by omega)) with ⟨_, h⟩ | ⟨h, _⟩
        · omega
        · exact h
      have er : (1 : Int32) <<< ((b (3 * k + 1) + 1) &&& 31) - (1 : Int32) <<< (b (3 * k) &&& 31) = nI (rwT b k) := by
        have y1 : (1 : Int32) <<< ((b (3 * k + 1) + 1) &&& 31) = nI (2 ^ (ubN (b (3 * k + 1)) + 1)) := by
          rw [x2, nI_1, ← x2]; exact q_shl (by omega)
        have y2 : (1 : Int32) <<< (b (3 * k) &&& 31) = nI (2 ^ ubN (b (3 * k))) := by
          rw [x1, ← x1]
          have := q_shl (k := ubN (b (3 * k))) (by omega)
          rw [← x1] at this
          exact this
        rw [y1, y2, pk_sub a3]; rfl
      unfold iX10_fits_L4 fX10_fits_L4
      simp only []
      rw [h1, if_neg (nI_ge (by omega) (by omega)), nI_1, q_add, q_rd (show 3 * k + 1 < 400 by omega) (by omega), q_rd (show 3 * k < 400 by omega) (by omega), nI_clamp (by omega), nI_clamp (by omega), hb (3 * k) (by omega), hb (3 * k + 1) (by omega), er, q_lt, q_ifb, fa_and, bc_e, q_R, bc_8 han, q_add, q_rd (show 3 * k + 2 < 400 by omega) (by omega), nI_clamp (by omega), hb (3 * k + 2) (by omega), ub_and]
      have es : allB (ftR b s) (k + 1) = (allB (ftR b s) k && ftR b s k) := allB_s
      cases hall : allB (ftR b s) k
      · rw [if_neg (by decide), q_lt]
        refine ⟨_, rfl, ?_⟩
        rw [es, hall]; rfl
      · rw [if_pos rfl]
        by_cases c : pc8 (s &&& rwT b k) = ubN (b (3 * k + 2))
        · rw [if_pos (by rw [c]), q_lt]
          refine ⟨_, rfl, ?_⟩
          rw [es, hall, show ftR b s k = true from decide_eq_true c]; rfl
        · rw [if_neg (fun e => c ((nI_eq (by omega) (by omega)).1 e)), q_lt]
          refine ⟨_, rfl, ?_⟩
          rw [es, hall, show ftR b s k = false from decide_eq_false c]; rfl)
    (by
      rintro q rfl
      unfold iX10_fits_L4 fX10_fits_L4
      simp only []
      rw [h1, if_pos (nI_le (by omega) (by omega)), q_zo]
      exact ⟨_, rfl, rfl⟩) (by have := FV_ge; omega) (s := (nI s, 1, 0)) rfl
  rw [e, q_R]
end OP
