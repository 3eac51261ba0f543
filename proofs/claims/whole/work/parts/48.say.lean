/-! ===== a word said ===== -/
def sayA (A : AT) (h d : Nat) : AT := (up1 (up1 A.1 7 (aS A 7 + 1)) 8 (min 60 (aS A 8 + 1)), A.2.1, up2 A.2.2.1 d 4 (aD A d 4 ||| 2 ^ h), (fun j k => if j = 0 then (if k = 0 then aS A 4 else if k = 1 then h else d) else aL A (j - 1) k), A.2.2.2.2)
theorem sayA_S {A : AT} {h d q : Nat} (h7 : q ≠ 7) (h8 : q ≠ 8) : aS (sayA A h d) q = aS A q := by
  show up1 (up1 A.1 7 (aS A 7 + 1)) 8 (min 60 (aS A 8 + 1)) q = A.1 q
  unfold up1
  rw [if_neg h8, if_neg h7]
theorem sayA_7 {A : AT} {h d : Nat} : aS (sayA A h d) 7 = aS A 7 + 1 := by
  show up1 (up1 A.1 7 (aS A 7 + 1)) 8 (min 60 (aS A 8 + 1)) 7 = _
  unfold up1
  rw [if_neg (by omega), if_pos rfl]
theorem sayA_8 {A : AT} {h d : Nat} : aS (sayA A h d) 8 = min 60 (aS A 8 + 1) := by
  show up1 (up1 A.1 7 (aS A 7 + 1)) 8 (min 60 (aS A 8 + 1)) 8 = _
  unfold up1
  rw [if_pos rfl]
theorem sayA_D {A : AT} {h d : Nat} : aD (sayA A h d) = aD (pD A d 4 (aD A d 4 ||| 2 ^ h)) := rfl
theorem sayA_H {A : AT} {h d : Nat} : aH (sayA A h d) = aH A := rfl
theorem sayA_so {A : AT} {h d : Nat} : so (sayA A h d) = so A := by
  have : so (sayA A h d) = so (pD A d 4 (aD A d 4 ||| 2 ^ h)) := rfl
  rw [this, so_D (by omega)]
theorem sayA_L0 {A : AT} {h d : Nat} : aL (sayA A h d) 0 0 = aS A 4 ∧ aL (sayA A h d) 0 1 = h ∧ aL (sayA A h d) 0 2 = d := ⟨rfl, rfl, rfl⟩
theorem sayA_Ls {A : AT} {h d j k : Nat} (hj : j ≠ 0) : aL (sayA A h d) j k = aL A (j - 1) k := if_neg hj
theorem pc8_set {x h : Nat} (hh : h < 8) (hx : x.testBit h = false) : pc8 (x ||| 2 ^ h) = pc8 x + 1 := by
  have e : (x ||| 2 ^ h).testBit = fun k => if k = h then true else x.testBit k := by
    funext k
    rw [fb_bit_set]
    by_cases e : k = h <;> simp [e]
  have u := fb_ct_upd x.testBit true (i := h) (n := 8) hh
  unfold pc8
  rw [e]
  rw [hx] at u
  simp at u
  simpa using u
theorem or_256 {a b : Nat} (ha : a < 256) (hb : b < 256) : a ||| b < 256 := Nat.or_lt_two_pow (n := 8) ha hb
theorem pw_256 {h : Nat} (hh : h < 8) : 2 ^ h < 256 := Nat.pow_lt_pow_right (a := 2) (by omega) hh
theorem WA.say {A : AT} (hW : WA A) {h d : Nat} (hh : h < aS A 0) (hd : d < aS A 1) (hb : (aD A d 4).testBit h = false) : WA (sayA A h d) := by
  have hw := WA_w hW
  obtain ⟨⟨a0, a1, a2, a3, a4, a5, a6, a7, a8⟩, b, c, e⟩ := hW
  have c4 := (c d hd).2.2.2.2.1
  refine ⟨⟨?_, ?_, ?_, ?_, ?_, ?_, ?_, ?_, ?_⟩, ?_, ?_, ?_⟩
  · rw [sayA_S (by omega) (by omega)]; exact a0
  · rw [sayA_S (by omega) (by omega)]; exact a1
  · rw [sayA_S (by omega) (by omega)]; exact a2
  · rw [sayA_S (by omega) (by omega)]; exact a3
  · rw [sayA_S (by omega) (by omega)]; exact a4
  · rw [sayA_S (by omega) (by omega)]; exact a5
  · rw [sayA_S (by omega) (by omega)]; exact a6
  · rw [sayA_7, sayA_S (by omega) (by omega)]
    have u := fb_sm_upd (fun d => pc8 (aD A d 4)) (pc8 (aD A d 4 ||| 2 ^ h)) hd
    have ef : (fun k => if k = d then pc8 (aD A d 4 ||| 2 ^ h) else (fun d => pc8 (aD A d 4)) k) = fun k => pc8 (aD (sayA A h d) k 4) := by
      funext k
      rw [sayA_D, aD_p]
      by_cases e : k = d <;> simp [e]
    rw [ef, pc8_set (by omega) hb] at u
    omega
  · rw [sayA_8, sayA_7]; omega
  · rw [sayA_S (by omega) (by omega), sayA_H]; exact b
  · rw [sayA_S (by omega) (by omega), sayA_D]
    intro d' hd'
    obtain ⟨c0, c1, c2, c3, c4', c5⟩ := c d' hd'
    refine ⟨?_, ?_, ?_, ?_, ?_, ?_⟩
    · rw [aD_p, if_neg (by omega)]; exact c0
    · rw [aD_p, if_neg (by omega)]; exact c1
    · rw [aD_p, if_neg (by omega)]; exact c2
    · rw [aD_p, if_neg (by omega)]; exact c3
    · rw [aD_p]
      by_cases e : d' = d ∧ 4 = 4
      · rw [if_pos e]; exact or_256 c4 (pw_256 (by omega))
      · rw [if_neg e]; exact c4'
    · rw [aD_p, if_neg (by omega)]; exact c5
  · intro j hj
    rw [sayA_8] at hj
    by_cases e0 : j = 0
    · subst e0
      exact ⟨a4, by show h < 8; omega, by show d < 10; omega⟩
    · rw [sayA_Ls e0, sayA_Ls e0, sayA_Ls e0]
      exact e (j - 1) (by omega)
theorem q_r60 {k : Nat} (hk : k < 2 ^ 31) : nI k - nI k / 60 * 60 = nI (k % 60) := pk_rem hk (d := 60) (by omega) (by omega)
section OP
variable {V : VT} {i : Nat} {A : AT} {L : Fa → Bool}
theorem c_addWord (hR : RS V i A) (hW : WA A) (hi : i < 17) {h d : Nat} (hh : h < aS A 0) (hd : d < aS A 1) : ∃ V', fX6_addWord V i (nI h) (nI d) = some V' ∧ RS V' i (sayA A h d) ∧ Cd i V V' := by
  have h0 := hW.1.1
  have h1 := hW.1.2.1
  have h4 := hW.1.2.2.2.2.1
  have h7 := WA_w hW
  have h8 : aS A 8 = min 60 (aS A 7) := hW.1.2.2.2.2.2.2.2.2
  unfold fX6_addWord
  have e4 : fX6_ofDeed V i (nI d) 4 = some (nI (aD A d 4)) := c_ofDeed hR hW hd (k := 4) (by omega) (by omega)
  rw [e4, q_R, q_shl (by omega), q_or]
  obtain ⟨V4, e5, hR4, hq4⟩ := c_setDeed (v := aD A d 4 ||| 2 ^ h) hR hW hi hd (k := 4) (by omega)
  have e5 : fX6_setDeed V i (nI d) 4 (nI (aD A d 4 ||| 2 ^ h)) = some V4 := e5
  have e12 : V4 i 12 = nI (aS A 7) := hR4.1.2.2.2.2.2.2.2.2.2
  have e10 : V4 i 10 = nI (aS A 4) := hR4.1.2.2.2.2.2.2.2.1
  rw [e5, q_R, e12, q_r60 (by omega), q_lt, if_neg (nI_pos (by omega)), if_neg (nI_ge (show aS A 7 % 60 < 60 by omega) (by omega)), q_rd (show aS A 7 % 60 < 60 by omega) (by omega), nI_clamp (by omega), e10, q_mul, nI_add, q_mul, nI_add, q_lt, va_n (show i ≠ 18 + 3 * i + 2 by omega), e12, nI_1, q_lt]
  refine ⟨_, rfl, ?_, ?_⟩
  · have sc : ∀ k, k ≠ 12 → va_up (va_up V4 (18 + 3 * i + 2) (upd (V4 (18 + 3 * i + 2)) (aS A 7 % 60) (nI ((aS A 4 * 8 + h) * 10 + d)))) i (upd (V4 i) 12 (nI (aS A 7 + 1))) i k = V4 i k := fun k hk => by rw [va_s, pk_un hk]
    refine ⟨⟨?_, ?_, ?_, ?_, ?_, ?_, ?_, ?_, ?_, ?_⟩, ?_, ?_, ?_, ?_⟩
    · rw [sc 3 (by omega), sayA_S (by omega) (by omega)]; exact hR4.1.1
    · rw [sc 4 (by omega), sayA_S (by omega) (by omega)]; exact hR4.1.2.1
    · rw [sc 5 (by omega), sayA_S (by omega) (by omega)]; exact hR4.1.2.2.1
    · rw [sc 6 (by omega), sayA_S (by omega) (by omega)]; exact hR4.1.2.2.2.1
    · rw [sc 7 (by omega), sayA_S (by omega) (by omega), sayA_so]
      have := hR4.1.2.2.2.2.1
      rw [so_D (by omega)] at this
      exact this
    · rw [sc 8 (by omega), sayA_S (by omega) (by omega)]; exact hR4.1.2.2.2.2.2.1
    · rw [sc 9 (by omega), sayA_S (by omega) (by omega)]; exact hR4.1.2.2.2.2.2.2.1
    · rw [sc 10 (by omega), sayA_S (by omega) (by omega)]; exact hR4.1.2.2.2.2.2.2.2.1
    · rw [sc 11 (by omega)]; exact hR4.1.2.2.2.2.2.2.2.2.1
    · rw [va_s, pk_us, sayA_7]
    · intro h' k' hh' hk'
      rw [sayA_S (by omega) (by omega)] at hh'
      rw [va_n (by omega), va_n (by omega), sayA_H]; exact hR4.2.1 h' k' hh' hk'
    · intro d' k' hd' hk' h2
      rw [sayA_S (by omega) (by omega)] at hd'
      rw [va_n (by omega), va_n (by omega), sayA_D]; exact hR4.2.2.1 d' k' hd' hk' h2
    · intro d' hd'
      rw [sayA_S (by omega) (by omega)] at hd'
      rw [va_n (by omega), va_n (by omega), sayA_D]; exact hR4.2.2.2.1 d' hd'
    · intro j hj
      rw [sayA_8] at hj
      rw [va_n (by omega), va_s, sayA_7]
      by_cases e0 : j = 0
      · subst e0
        rw [show (aS A 7 + 1 - 1 - 0) % 60 = aS A 7 % 60 by omega, pk_us]
        rfl
      · rw [pk_un (by omega), sayA_Ls e0, sayA_Ls e0, sayA_Ls e0, show (aS A 7 + 1 - 1 - j) % 60 = (aS A 7 - 1 - (j - 1)) % 60 by omega]
        exact hR4.2.2.2.2 (j - 1) (by show j - 1 < aS A 8; omega)
  · exact ((Cd.of hi (Or.inr (Or.inr (Or.inl rfl))) hq4).tr (Cd.u hi (Or.inr (Or.inr (Or.inr rfl))))).tr (Cd.u hi (Or.inl rfl))
theorem m_L20 {V : VT} {x1 x2 : Int32} : it_ iX10_says_L20 FV (V, x1, x2, 179) = some (va_up V 76 (fun q => if 136 < q ∧ q ≤ 313 then V 76 (q - 3) else V 76 q), x1, x2) := by
  have e := lq (f := iX10_says_L20) (r := (va_up V 76 (fun q => if 136 < q ∧ q ≤ 313 then V 76 (q - 3) else V 76 q), x1, x2)) (fun k => va_up V 76 (fun q => if 313 - k < q ∧ q ≤ 313 then V 76 (q - 3) else V 76 q)) (fun a k => (a, x1, x2, nI (179 - k))) 177 (by omega)
    (by
      intro k hk
      unfold iX10_says_L20 fX10_says_L20
      simp only []
      rw [if_neg (show ¬ nI (179 - k) < 3 from nI_nlt (b := 3) (by omega) (by omega)), q_addL, show nI (134 + (179 - k)) - 3 = nI (134 + (179 - k) - 3) from pk_sub (b := 3) (by omega), q_rd (by omega) (by omega), q_rd (by omega) (by omega), nI_clamp (by omega), nI_clamp (by omega), va_s, va_uu, q_lt, sb_m1 (by omega), q_lt, show 179 - k - 1 = 179 - (k + 1) by omega]
      congr 4
      funext q
      show (if q = 134 + (179 - k) then (if 313 - k < 134 + (179 - k) - 3 ∧ 134 + (179 - k) - 3 ≤ 313 then V 76 (134 + (179 - k) - 3 - 3) else V 76 (134 + (179 - k) - 3)) else (if 313 - k < q ∧ q ≤ 313 then V 76 (q - 3) else V 76 q)) = _
      by_cases e : q = 134 + (179 - k)
      · rw [if_pos e, if_neg (by omega), if_pos (by omega), e]
      · rw [if_neg e]
        by_cases c : 313 - k < q ∧ q ≤ 313
        · rw [if_pos c, if_pos (by omega)]
        · rw [if_neg c, if_neg (by omega)])
    (by
      unfold iX10_says_L20 fX10_says_L20
      simp only []
      rw [if_pos (show nI (179 - 177) < 3 from nI_lt (b := 3) (by omega) (by omega))])
  have e0 : va_up V 76 (fun q => if 313 - 0 < q ∧ q ≤ 313 then V 76 (q - 3) else V 76 q) = V := by
    have : (fun q => if 313 - 0 < q ∧ q ≤ 313 then V 76 (q - 3) else V 76 q) = V 76 := by
      funext q
      rw [if_neg (by omega)]
    rw [this, va_self]
  simp only [e0] at e
  exact e
theorem m_says (hT : MT V A L) {h d : Nat} (hh : h < aS A 0) (hd : d < aS A 1) : ∃ V', fX10_says V (nI h) (nI d) = some V' ∧ RM (V' 76) (sayA A h d) ∧ Md V V' := by
  obtain ⟨hM, hW, -⟩ := hT
  have h0 := hW.1.1
  have h1 := hW.1.2.1
  have h4 := hW.1.2.2.2.2.1
  have h7 := WA_w hW
  have h8 : aS A 8 = min 60 (aS A 7) := hW.1.2.2.2.2.2.2.2.2
  unfold fX10_says
  rw [show fX10_deedAt V (nI d) 4 = some (nI (74 + 6 * d + 4)) from m_dat (k := 4), q_R, q_rd (by omega) (by omega), q_rd (by omega) (by omega), nI_clamp (by omega), hM.2.2.2.1 d 4 hd (by omega) (by omega), q_shl (by omega), q_or, q_lt]
  have hM5 := hM.d hW (h := d) (k := 4) (v := aD A d 4 ||| 2 ^ h) (by omega) (by omega)
  have hM5 : RM (upd (V 76) (74 + 6 * d + 4) (nI (aD A d 4 ||| 2 ^ h))) (pD A d 4 (aD A d 4 ||| 2 ^ h)) := hM5
  have hL := m_L20 (V := va_up V 76 (upd (V 76) (74 + 6 * d + 4) (nI (aD A d 4 ||| 2 ^ h)))) (x1 := nI h) (x2 := nI d)
  rw [va_s, va_uu] at hL
  rw [hL, q_R]
  clear hL
  simp only [dt3_]
  have hw0 : ∀ q, 314 ≤ q → upd (V 76) (74 + 6 * d + 4) (nI (aD A d 4 ||| 2 ^ h)) q = V 76 q := fun q hq => pk_un (by omega)
  generalize upd (V 76) (74 + 6 * d + 4) (nI (aD A d 4 ||| 2 ^ h)) = W at hM5 hw0 ⊢
  have hf1 : ∀ q, q ≤ 136 ∨ 314 ≤ q → (fun q => if 136 < q ∧ q ≤ 313 then W (q - 3) else W q) q = W q := fun q hq => if_neg (by omega)
  have hf2 : ∀ q, 136 < q → q ≤ 313 → (fun q => if 136 < q ∧ q ≤ 313 then W (q - 3) else W q) q = W (q - 3) := fun q a b => if_pos ⟨a, b⟩
  have hf0 : Md V (va_up V 76 (fun q => if 136 < q ∧ q ≤ 313 then W (q - 3) else W q)) := Md.f (fun k hk => by show (if 136 < k ∧ k ≤ 313 then W (k - 3) else W k) = V 76 k; rw [if_neg (by omega)]; exact hw0 k hk)
  have hv : va_up V 76 (fun q => if 136 < q ∧ q ≤ 313 then W (q - 3) else W q) 76 = (fun q => if 136 < q ∧ q ≤ 313 then W (q - 3) else W q) := va_s
  generalize va_up V 76 (fun q => if 136 < q ∧ q ≤ 313 then W (q - 3) else W q) = V15 at hf0 hv ⊢
  rw [← hv] at hf1 hf2
  clear hv
  rw [q_rdl (by omega) (by omega), q_rdl (by omega) (by omega)]
  refine lt_ex (fun V18 e18 => ?_)
  have w18 : V18 = va_up V15 76 (upd (V15 76) 134 (V15 76 4)) := e18
  rw [q_rdl (by omega) (by omega)]
  refine lt_ex (fun V20 e20 => ?_)
  have w20 : V20 = va_up V18 76 (upd (V18 76) 135 (nI h)) := e20
  rw [q_rdl (by omega) (by omega)]
  refine lt_ex (fun V22 e22 => ?_)
  have w22 : V22 = va_up V20 76 (upd (V20 76) 136 (nI d)) := e22
  rw [q_rdl (by omega) (by omega), q_rdl (by omega) (by omega)]
  refine lt_ex (fun V25 e25 => ?_)
  have w25 : V25 = va_up V22 76 (upd (V22 76) 8 (if V22 76 8 + 1 < 60 then V22 76 8 + 1 else 60)) := e25
  rw [q_rdl (by omega) (by omega), q_rdl (by omega) (by omega)]
  refine lt_ex (fun V28 e28 => ?_)
  have w28 : V28 = va_up V25 76 (upd (V25 76) 7 (V25 76 7 + 1)) := e28
  refine ⟨_, rfl, ?_, ?_⟩
  · have a8 : V22 76 8 = nI (aS A 8) := by
      rw [w22, va_s, pk_un (by omega), w20, va_s, pk_un (by omega), w18, va_s, pk_un (by omega), hf1 8 (by omega)]
      exact hM5.1 8 (by omega)
    have a7 : V25 76 7 = nI (aS A 7) := by
      rw [w25, va_s, pk_un (by omega), w22, va_s, pk_un (by omega), w20, va_s, pk_un (by omega), w18, va_s, pk_un (by omega), hf1 7 (by omega)]
      exact hM5.1 7 (by omega)
    have b8 : (if V22 76 8 + 1 < 60 then V22 76 8 + 1 else 60) = nI (min (aS A 8 + 1) 60) := by
      rw [a8, nI_1]
      exact q_mi (b := 60) (by omega) (by omega)
    have f7 : V28 76 7 = nI (aS A 7 + 1) := by rw [w28, va_s, pk_us, a7, nI_1]
    have f8 : V28 76 8 = nI (min 60 (aS A 8 + 1)) := by rw [w28, va_s, pk_un (by omega), w25, va_s, pk_us, b8, Nat.min_comm]
    have f136 : V28 76 136 = nI d := by rw [w28, va_s, pk_un (by omega), w25, va_s, pk_un (by omega), w22, va_s, pk_us]
    have f135 : V28 76 135 = nI h := by rw [w28, va_s, pk_un (by omega), w25, va_s, pk_un (by omega), w22, va_s, pk_un (by omega), w20, va_s, pk_us]
    have f134 : V28 76 134 = nI (aS A 4) := by
      rw [w28, va_s, pk_un (by omega), w25, va_s, pk_un (by omega), w22, va_s, pk_un (by omega), w20, va_s, pk_un (by omega), w18, va_s, pk_us, hf1 4 (by omega)]
      exact hM5.1 4 (by omega)
    have fo : ∀ q, q ≠ 7 → q ≠ 8 → q ≠ 134 → q ≠ 135 → q ≠ 136 → V28 76 q = V15 76 q := fun q q1 q2 q3 q4 q5 => by rw [w28, va_s, pk_un q1, w25, va_s, pk_un q2, w22, va_s, pk_un q5, w20, va_s, pk_un q4, w18, va_s, pk_un q3]
    refine ⟨fun q hq => ?_, ?_, fun h' k' hh' hk' => ?_, fun d' k' hd' hk' h2 => ?_, fun d' hd' => ?_, fun j k' hj hk' => ?_⟩
    · by_cases q7 : q = 7
      · rw [q7, sayA_7]; exact f7
      · by_cases q8 : q = 8
        · rw [q8, sayA_8]; exact f8
        · rw [sayA_S q7 q8, fo q q7 q8 (by omega) (by omega) (by omega), hf1 q (by omega)]; exact hM5.1 q hq
    · rw [fo 9 (by omega) (by omega) (by omega) (by omega) (by omega), hf1 9 (by omega)]; exact hM5.2.1
    · rw [sayA_S (by omega) (by omega)] at hh'
      rw [fo _ (by omega) (by omega) (by omega) (by omega) (by omega), hf1 _ (by omega), sayA_H]; exact hM5.2.2.1 h' k' hh' hk'
    · rw [sayA_S (by omega) (by omega)] at hd'
      rw [fo _ (by omega) (by omega) (by omega) (by omega) (by omega), hf1 _ (by omega), sayA_D]; exact hM5.2.2.2.1 d' k' hd' hk' h2
    · rw [sayA_S (by omega) (by omega)] at hd'
      rw [fo _ (by omega) (by omega) (by omega) (by omega) (by omega), hf1 _ (by omega), sayA_D]; exact hM5.2.2.2.2.1 d' hd'
    · rw [sayA_8] at hj
      by_cases e0 : j = 0
      · subst e0
        have hk3 : k' = 0 ∨ k' = 1 ∨ k' = 2 := by omega
        rcases hk3 with rfl | rfl | rfl
        · exact f134
        · exact f135
        · exact f136
      · rw [sayA_Ls e0, fo _ (by omega) (by omega) (by omega) (by omega) (by omega), hf2 _ (by omega) (by omega), show 134 + 3 * j + k' - 3 = 134 + 3 * (j - 1) + k' by omega]
        exact hM5.2.2.2.2.2 (j - 1) k' (by show j - 1 < aS A 8; omega) hk'
  · refine hf0.tr ?_
    rw [w28]
    refine Md.tr ?_ (Md.u (by omega))
    rw [w25]
    refine Md.tr ?_ (Md.u (by omega))
    rw [w22]
    refine Md.tr ?_ (Md.u (by omega))
    rw [w20]
    refine Md.tr ?_ (Md.u (by omega))
    rw [w18]
    exact Md.u (by omega)
end OP
