/-! ===== words, signs, numbers: the class ===== -/
def wdB (b : Nat → Int32) (n B w : Nat) : Bool := decide (le_ b n B - B = sL w ∧ ∀ k, k < sL w → b (B + k) = sC w k)
def nuB (b : Nat → Int32) (n B lo hi : Nat) : Bool := decide (B < di_ b n B ∧ di_ b n B - B ≤ 3 ∧ lo ≤ vN b B (di_ b n B - B) ∧ vN b B (di_ b n B - B) ≤ hi)
abbrev vl (b : Nat → Int32) (n B : Nat) : Nat := vN b B (di_ b n B - B)
theorem s_all : ∀ w, w < 65 → 16 ≤ w → 0 < sL w ∧ sL w ≤ 10 ∧ ∀ k, k < sL w → sH w (nI k) = sC w k := by decide
section CT
variable {V : VT} {b : Nat → Int32} {n p : Nat}
theorem sk_le (hp : p ≤ n) : sk b n p ≤ n := ru_le hp
theorem le_le (hp : p ≤ n) : le_ b n p ≤ n := ru_le hp
theorem di_le (hp : p ≤ n) : di_ b n p ≤ n := ru_le hp
theorem le_ge : p ≤ le_ b n p := ru_ge
theorem di_ge : p ≤ di_ b n p := ru_ge
theorem kd_lt : kd b n p < 4 := by
  unfold kd
  split
  · omega
  · split
    · omega
    · split <;> omega
theorem kd_ne (h : ¬ n ≤ p) : kd b n p ≠ 0 := by
  unfold kd
  rw [if_neg h]
  split
  · omega
  · split <;> omega
theorem c_isWord (hT : TK V b n p) (hp : p ≤ n) (hn : n ≤ 400) {w : Nat} (hw : w < 65) (hw2 : 16 ≤ w) : fX8_isWord V w = some (bI (wdB b n (sk b n p) w)) := by
  obtain ⟨h1, h2, h3, h4, h5, h6⟩ := hT
  obtain ⟨l0, l1, hs⟩ := s_all w hw hw2
  have hB := sk_le (b := b) hp
  generalize sk b n p = B at *
  have hL := le_le (b := b) hB
  unfold fX8_isWord
  rw [h4]
  by_cases c : cl b n 97 122 B = true
  · have hk : kd b n B = 1 := by
      have := of_decide_eq_true c
      unfold kd
      rw [if_neg (by omega), if_neg (by intro e; have := of_decide_eq_true e; omega), if_pos c]
    have he : eE b n B = le_ b n B := by unfold eE; rw [hk, if_neg (by omega), if_neg (by omega), if_pos rfl]
    have hg := le_ge (b := b) (n := n) (p := B)
    rw [hk, if_pos (show nI 1 = 1 from rfl), h5, h3, he, pk_sub hg]
    by_cases c2 : le_ b n B - B = sL w
    · rw [if_pos (congrArg nI c2)]
      by_cases c3 : ∀ k, k < sL w → b (B + k) = sC w k
      · obtain ⟨r, e, hr⟩ := it_for (F := FV) (f := iX8_isWord_L28 V w) (sL w) (fun k u => u = nI k) (fun r => r = 1)
          (by
            rintro k u hk rfl
            refine ⟨nI (k + 1), ?_, rfl⟩
            unfold iX8_isWord_L28 fX8_isWord_L28
            rw [if_neg (nI_ge hk (by omega)), h3, nI_add, q_lt, if_neg (nI_pos (by omega)), if_neg (nI_ge (show B + k < 400 by omega) (by omega)), q_rd (show B + k < 400 by omega) (by omega), q_rd hk (by omega), nI_clamp (by omega), h2 _ (by omega), hs k hk, if_pos (c3 k hk), nI_1, q_lt])
          (by
            rintro u rfl
            refine ⟨1, ?_, rfl⟩
            unfold iX8_isWord_L28 fX8_isWord_L28
            rw [if_pos (nI_le (Nat.le_refl _) (by omega)), q_zo1]) (by have := FV_ge; omega) (s := 0) rfl
        rw [e, q_R, hr, show wdB b n B w = true from decide_eq_true ⟨c2, c3⟩]
        rfl
      · have hx : fa_first (fun k => !decide (b (B + k) = sC w k)) (sL w) < sL w := by
          rcases Nat.lt_or_ge (fa_first (fun k => !decide (b (B + k) = sC w k)) (sL w)) (sL w) with h | h
          · exact h
          · exact absurd (fun k hk => by
              have := fa_first_no (fun k => !decide (b (B + k) = sC w k)) (sL w) k (by omega)
              exact Decidable.byContradiction fun h9 => by rw [decide_eq_false h9] at this; cases this) c3
        have hy := fa_first_yes (fun k => !decide (b (B + k) = sC w k)) (sL w) hx
        have hz := fa_first_no (fun k => !decide (b (B + k) = sC w k)) (sL w)
        generalize fa_first (fun k => !decide (b (B + k) = sC w k)) (sL w) = K at hx hy hz
        obtain ⟨r, e, hr⟩ := it_for (F := FV) (f := iX8_isWord_L28 V w) K (fun k u => u = nI k) (fun r => r = 0)
          (by
            rintro k u hk rfl
            refine ⟨nI (k + 1), ?_, rfl⟩
            have h9 : b (B + k) = sC w k := Decidable.byContradiction fun h9 => by have := hz k hk; rw [decide_eq_false h9] at this; cases this
            unfold iX8_isWord_L28 fX8_isWord_L28
            rw [if_neg (nI_ge (show k < sL w by omega) (by omega)), h3, nI_add, q_lt, if_neg (nI_pos (by omega)), if_neg (nI_ge (show B + k < 400 by omega) (by omega)), q_rd (show B + k < 400 by omega) (by omega), q_rd (show k < sL w by omega) (by omega), nI_clamp (by omega), h2 _ (by omega), hs k (by omega), if_pos h9, nI_1, q_lt])
          (by
            rintro u rfl
            refine ⟨0, ?_, rfl⟩
            have h9 : ¬ b (B + K) = sC w K := fun h9 => by rw [decide_eq_true h9] at hy; cases hy
            unfold iX8_isWord_L28 fX8_isWord_L28
            rw [if_neg (nI_ge hx (by omega)), h3, nI_add, q_lt, if_neg (nI_pos (by omega)), if_neg (nI_ge (show B + K < 400 by omega) (by omega)), q_rd (show B + K < 400 by omega) (by omega), q_rd hx (by omega), nI_clamp (by omega), h2 _ (by omega), hs K hx, if_neg h9, q_zo0]) (by have := FV_ge; omega) (s := 0) rfl
        rw [e, q_R, hr, show wdB b n B w = false from decide_eq_false (fun h => c3 h.2)]
        rfl
    · rw [if_neg (fun e => c2 ((nI_eq (by omega) (by omega)).1 e)), q_zo0, show wdB b n B w = false from decide_eq_false (fun h => c2 h.1)]
      rfl
  · have hz : ru b n 97 122 B = B := ru_0 hB (Bool.eq_false_iff.2 c)
    have hk : ¬ nI (kd b n B) = 1 := by
      unfold kd
      by_cases c1 : n ≤ B
      · rw [if_pos c1]; decide
      · rw [if_neg c1]
        by_cases c2 : cl b n 48 57 B = true
        · rw [if_pos c2]; decide
        · rw [if_neg c2, if_neg c]; decide
    rw [if_neg hk, q_zo0, show wdB b n B w = false from decide_eq_false (fun h => by
      have h7 := h.1
      have h8 : le_ b n B = B := hz
      omega)]
    rfl
theorem wd_lt (hB : p ≤ n) {w : Nat} (hw : w < 65) (hw2 : 16 ≤ w) (h : wdB b n p w = true) : p < le_ b n p ∧ kd b n p = 1 ∧ eE b n p = le_ b n p := by
  have h2 := (of_decide_eq_true h).1
  have := (s_all w hw hw2).1
  have h3 : p < le_ b n p := by omega
  have h4 := of_decide_eq_true (ru_in (b := b) (n := n) (lo := 97) (hi := 122) (Nat.le_refl p) h3)
  have hk : kd b n p = 1 := by
    unfold kd
    rw [if_neg (by omega), if_neg (by intro e; have := of_decide_eq_true e; omega), if_pos (show cl b n 97 122 p = true from decide_eq_true h4)]
  exact ⟨h3, hk, by unfold eE; rw [hk, if_neg (by omega), if_neg (by omega), if_pos rfl]⟩
theorem c_next (hT : TK V b n p) (hp : p ≤ n) (hn : n ≤ 400) (he : eE b n (sk b n p) ≤ n) : ∃ V', fX8_step V = some V' ∧ TK V' b n (eE b n (sk b n p)) ∧ Tf V V' := c_step hT.1 hn hT.2.1 he hT.2.2.2.2.1
theorem c_takeWord (hT : TK V b n p) (hp : p ≤ n) (hn : n ≤ 400) {w : Nat} (hw : w < 65) (hw2 : 16 ≤ w) : ∃ V', fX8_takeWord V w = some (bI (wdB b n (sk b n p) w), V') ∧ TK V' b n (if wdB b n (sk b n p) w = true then le_ b n (sk b n p) else p) ∧ Tf V V' := by
  unfold fX8_takeWord
  rw [c_isWord hT hp hn hw hw2, q_R, q_ifb]
  have hB := sk_le (b := b) hp
  by_cases c : wdB b n (sk b n p) w = true
  · obtain ⟨a1, a2, a3⟩ := wd_lt hB hw hw2 c
    have hL := le_le (b := b) hB
    obtain ⟨V', e, t1, t2⟩ := c_next hT hp hn (by rw [a3]; exact hL)
    rw [if_pos c, if_pos c, e, q_R, q_zo1, c]
    rw [a3] at t1
    exact ⟨_, rfl, t1, t2⟩
  · rw [if_neg c, if_neg c, q_zo0]
    cases h : wdB b n (sk b n p) w
    · exact ⟨_, rfl, hT, Tf.rf⟩
    · exact absurd h c
theorem sg_k {c : Nat} (hc : c ≠ 32 ∧ (c < 48 ∨ 57 < c) ∧ (c < 97 ∨ 122 < c)) (h : cl b n c c p = true) : kd b n p = 3 ∧ eE b n p = p + 1 ∧ p < n := by
  have h2 := of_decide_eq_true h
  have hk : kd b n p = 3 := by
    unfold kd
    rw [if_neg (by omega), if_neg (by intro e; have := of_decide_eq_true e; omega), if_neg (by intro e; have := of_decide_eq_true e; omega)]
  exact ⟨hk, by unfold eE; rw [hk, if_neg (by omega), if_neg (by omega), if_neg (by omega)], h2.1⟩
theorem c_isSign (hT : TK V b n p) (hp : p ≤ n) (hn : n ≤ 400) {c : Nat} (hc : c ≠ 32 ∧ (c < 48 ∨ 57 < c) ∧ (c < 97 ∨ 122 < c)) (hc2 : c < 256) : fX8_isSign V (nI c) = some (bI (cl b n c c (sk b n p))) := by
  obtain ⟨h1, h2, h3, h4, h5, h6⟩ := hT
  have hB := sk_le (b := b) hp
  generalize sk b n p = B at *
  unfold fX8_isSign
  rw [h4]
  by_cases k3 : kd b n B = 3
  · rw [k3, if_pos (show nI 3 = 3 from rfl), h3]
    have hlt : B < n := by
      refine Decidable.byContradiction fun h9 => ?_
      unfold kd at k3
      rw [if_pos (by omega)] at k3
      cases k3
    have hu := ub_lt (b B)
    rw [c_byteAt h1 hn h2 hlt, q_R, cl_at hlt]
    by_cases c1 : ubN (b B) = c
    · rw [if_pos (congrArg nI c1), q_zo1, decide_eq_true (by omega)]; rfl
    · rw [if_neg (fun e => c1 ((nI_eq (by omega) (by omega)).1 e)), q_zo0, decide_eq_false (by omega)]; rfl
  · have hf : cl b n c c B = false := by
      cases h : cl b n c c B
      · rfl
      · exact absurd (sg_k hc h).1 k3
    have hk9 := kd_lt (b := b) (n := n) (p := B)
    rw [if_neg (show ¬ nI (kd b n B) = 3 from fun e => k3 ((nI_eq (b := 3) (by omega) (by omega)).1 e)), q_zo0, hf]
    rfl
theorem c_takeSign (hT : TK V b n p) (hp : p ≤ n) (hn : n ≤ 400) {c : Nat} (hc : c ≠ 32 ∧ (c < 48 ∨ 57 < c) ∧ (c < 97 ∨ 122 < c)) (hc2 : c < 256) : ∃ V', fX8_takeSign V (nI c) = some (bI (cl b n c c (sk b n p)), V') ∧ TK V' b n (if cl b n c c (sk b n p) = true then sk b n p + 1 else p) ∧ Tf V V' := by
  unfold fX8_takeSign
  rw [c_isSign hT hp hn hc hc2, q_R, q_ifb]
  by_cases c1 : cl b n c c (sk b n p) = true
  · obtain ⟨a1, a3, a2⟩ := sg_k hc c1
    obtain ⟨V', e, t1, t2⟩ := c_next hT hp hn (by rw [a3]; exact a2)
    rw [if_pos c1, if_pos c1, e, q_R, q_zo1, c1]
    rw [a3] at t1
    exact ⟨_, rfl, t1, t2⟩
  · rw [if_neg c1, if_neg c1, q_zo0]
    cases h : cl b n c c (sk b n p)
    · exact ⟨_, rfl, hT, Tf.rf⟩
    · exact absurd h c1
theorem nu_k {lo hi : Nat} (h : nuB b n p lo hi = true) : kd b n p = 2 ∧ eE b n p = di_ b n p ∧ lo ≤ vl b n p ∧ vl b n p ≤ hi ∧ cN b p (di_ b n p - p) = vl b n p ∧ p < di_ b n p := by
  obtain ⟨h1, h2, h3, h4⟩ := of_decide_eq_true h
  have h5 := ru_in (b := b) (n := n) (lo := 48) (hi := 57) (Nat.le_refl p) h1
  have h6 := of_decide_eq_true h5
  have hk : kd b n p = 2 := by unfold kd; rw [if_neg (by omega), if_pos h5]
  exact ⟨hk, by unfold eE; rw [hk, if_neg (by omega), if_pos rfl], h3, h4, cN_v (n := n) (fun k a c => ru_in a c) _ h2 (by omega), h1⟩
theorem c_isNumber (hT : TK V b n p) (hp : p ≤ n) (hn : n ≤ 400) {lo hi : Nat} (hl : lo < 2 ^ 31) (hh : hi < 2 ^ 31) : fX8_isNumber V (nI lo) (nI hi) = some (bI (nuB b n (sk b n p) lo hi)) := by
  obtain ⟨h1, h2, h3, h4, h5, h6⟩ := hT
  have hB := sk_le (b := b) hp
  generalize sk b n p = B at *
  have hD := di_le (b := b) hB
  have hG := di_ge (b := b) (n := n) (p := B)
  unfold fX8_isNumber
  rw [h4]
  by_cases k2 : kd b n B = 2
  · have he : eE b n B = di_ b n B := by unfold eE; rw [k2, if_neg (by omega), if_pos rfl]
    have hc : cl b n 48 57 B = true := by
      cases h : cl b n 48 57 B
      · exfalso
        unfold kd at k2
        rw [h, if_neg (show ¬ false = true by decide)] at k2
        by_cases x1 : n ≤ B
        · rw [if_pos x1] at k2; cases k2
        · rw [if_neg x1] at k2
          by_cases x2 : cl b n 97 122 B = true
          · rw [if_pos x2] at k2; cases k2
          · rw [if_neg x2] at k2; cases k2
      · rfl
    have h9 := ru_1 hB hc
    have hv := cN_le (b := b) (B := B) (di_ b n B - B)
    rw [k2, if_pos (show nI 2 = 2 from rfl), h5, h3, h6 k2, he, pk_sub hG]
    by_cases c1 : 3 < di_ b n B - B
    · rw [if_pos (show (3 : Int32) < nI _ from nI_lt (a := 3) c1 (by omega)), q_zo0, show nuB b n B lo hi = false from decide_eq_false (by rintro ⟨x1, x2, x3, x4⟩; exact absurd x2 (by omega))]; rfl
    · have e9 : cN b B (di_ b n B - B) = vl b n B := cN_v (n := n) (fun k a c => ru_in a c) _ (by omega) (by omega)
      rw [if_neg (show ¬ (3 : Int32) < nI _ from nI_nlt (a := 3) (by omega) (by omega))]
      rw [e9] at hv ⊢
      by_cases c2 : vl b n B < lo
      · rw [if_pos (nI_lt c2 hl), q_zo0, show nuB b n B lo hi = false from decide_eq_false (by rintro ⟨x1, x2, x3, x4⟩; exact absurd x3 (Nat.not_le_of_lt c2))]; rfl
      · rw [if_neg (nI_nlt (by omega) (by omega))]
        by_cases c3 : hi < vl b n B
        · rw [if_pos (nI_lt c3 (by omega)), q_zo0, show nuB b n B lo hi = false from decide_eq_false (by rintro ⟨x1, x2, x3, x4⟩; exact absurd x4 (Nat.not_le_of_lt c3))]; rfl
        · rw [if_neg (nI_nlt (by omega) hh), q_zo1, show nuB b n B lo hi = true from decide_eq_true ⟨h9, by omega, Nat.le_of_not_lt c2, Nat.le_of_not_lt c3⟩]; rfl
  · have hf : nuB b n B lo hi = false := by
      cases h : nuB b n B lo hi
      · rfl
      · exact absurd (nu_k h).1 k2
    have hk9 := kd_lt (b := b) (n := n) (p := B)
    rw [if_neg (show ¬ nI (kd b n B) = 2 from fun e => k2 ((nI_eq (b := 2) (by omega) (by omega)).1 e)), q_zo0, hf]
    rfl
theorem nu_v (hT : TK V b n p) {lo hi : Nat} (h : nuB b n (sk b n p) lo hi = true) : V 1 5 = nI (vl b n (sk b n p)) := by
  obtain ⟨a1, a2, a3, a4, a5, a6⟩ := nu_k h
  rw [hT.2.2.2.2.2 a1, a5]
theorem nu_n (hT : TK V b n p) (hp : p ≤ n) (hn : n ≤ 400) {lo hi : Nat} (h : nuB b n (sk b n p) lo hi = true) : ∃ V', fX8_step V = some V' ∧ TK V' b n (di_ b n (sk b n p)) ∧ Tf V V' := by
  obtain ⟨a1, a2, a3, a4, a5, a6⟩ := nu_k h
  have hB := sk_le (b := b) hp
  have hD := di_le (b := b) hB
  have := c_next hT hp hn (by rw [a2]; exact hD)
  rw [a2] at this
  exact this
theorem c_isEnd (hT : TK V b n p) (hp : p ≤ n) : fX8_isEnd V = some (bI (decide (n ≤ sk b n p))) := by
  unfold fX8_isEnd
  rw [hT.2.2.2.1]
  by_cases c : n ≤ sk b n p
  · rw [show kd b n (sk b n p) = 0 by unfold kd; rw [if_pos c], if_pos (show nI 0 = 0 from rfl), q_zo1, decide_eq_true c]; rfl
  · have hk := And.intro (kd_ne (b := b) c) (kd_lt (b := b) (n := n) (p := sk b n p))
    rw [if_neg (show ¬ nI (kd b n (sk b n p)) = 0 from fun e => hk.1 ((nI_eq (b := 0) (by omega) (by omega)).1 e)), q_zo0, decide_eq_false c]; rfl
theorem c_rewind (h1 : V 1 1 = nI n) (hn : n ≤ 400) (hb : ∀ k, k < 400 → V 23 k = b k) : ∃ V', fX8_rewind V = some V' ∧ TK V' b n 0 ∧ Tf V V' := by
  unfold fX8_rewind
  rw [q_lt]
  obtain ⟨V', e, t1, t2⟩ := c_step (V := va_up V 1 (upd (V 1) 4 0)) (b := b) (n := n) (p := 0) (by rw [va_s, pk_un (by omega)]; exact h1) hn (by rw [va_n (by omega)]; exact hb) (by omega) (by rw [va_s, pk_us]; rfl)
  rw [e, q_R]
  exact ⟨_, rfl, t1, (Tf.u (by omega)).tr t2⟩
end CT
