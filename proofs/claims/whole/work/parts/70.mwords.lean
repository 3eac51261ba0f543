/-! ===== words, signs, numbers: the model ===== -/
/-- the model's reader stands at p -/
def MP (V : VT) (b : Nat → Int32) (n p : Nat) : Prop := V 22 10 = nI p ∧ V 22 11 = nI n ∧ ∀ k, k < 400 → V 81 k = b k
def Mg (V V' : VT) : Prop := (∀ q, q ≠ 22 → V' q = V q) ∧ ∀ k, k ≠ 10 → k ≠ 12 → V' 22 k = V 22 k
theorem Mg.rf {V : VT} : Mg V V := ⟨fun _ _ => rfl, fun _ _ _ => rfl⟩
theorem Mg.tr {V V1 V2 : VT} (h1 : Mg V V1) (h2 : Mg V1 V2) : Mg V V2 := ⟨fun q hq => (h2.1 q hq).trans (h1.1 q hq), fun k a c => (h2.2 k a c).trans (h1.2 k a c)⟩
theorem Mg.u {V : VT} {k : Nat} {x : Int32} (hk : k = 10 ∨ k = 12) : Mg V (va_up V 22 (upd (V 22) k x)) := ⟨fun q hq => va_n hq, fun j a c => by rw [va_s, pk_un (by omega)]⟩
theorem Mg.mp {V V' : VT} {b : Nat → Int32} {n p q : Nat} (hg : Mg V V') (h : MP V b n p) (e : V' 22 10 = nI q) : MP V' b n q := ⟨e, by rw [hg.2 11 (by omega) (by omega)]; exact h.2.1, by rw [hg.1 81 (by omega)]; exact h.2.2⟩
section MT
variable {V : VT} {b : Nat → Int32} {n p : Nat}
theorem m_isAt (hM : MP V b n p) (hy : ∀ k, k < 400 → by_ (b k)) (hp : p ≤ n) (hn : n ≤ 400) {lo hi : Nat} (hl : lo < 128) (hh : hi < 128) : fX10_isAt V (nI lo) (nI hi) = some (bI (cl b n lo hi p)) := by
  obtain ⟨h1, h2, h3⟩ := hM
  unfold fX10_isAt
  rw [h1, h2]
  by_cases c : p < n
  · rw [if_neg (nI_ge c (by omega)), q_rd (show p < 400 by omega) (by omega), q_rd (show p < 400 by omega) (by omega), nI_clamp (by omega), h3 p (by omega), cl_at c]
    rcases ub_c (hy p (by omega)) with ⟨a, d⟩ | ⟨a, d⟩
    · have h0 := Int32.lt_iff_toInt_lt.1 a
      have hl2 : b p < nI lo := Int32.lt_iff_toInt_lt.2 (by rw [nI_toInt (by omega)]; have : (0 : Int32).toInt = 0 := rfl; omega)
      rw [if_pos hl2, q_zo0, decide_eq_false (by omega)]
      rfl
    · rw [a]
      have hu : ubN (nI (ubN (b p))) = ubN (b p) := congrArg ubN a.symm
      by_cases c1 : ubN (b p) < lo
      · rw [if_pos (nI_lt c1 (by omega)), q_zo0, decide_eq_false (by rw [hu]; omega)]; rfl
      · rw [if_neg (nI_nlt (by omega) (by omega))]
        by_cases c2 : hi < ubN (b p)
        · rw [if_pos (nI_lt c2 (by omega)), q_zo0, decide_eq_false (by rw [hu]; omega)]; rfl
        · rw [if_neg (nI_nlt (by omega) (by omega)), q_zo1, decide_eq_true (by rw [hu]; omega)]; rfl
  · rw [if_pos (nI_le (by omega) (by omega)), q_zo0, show cl b n lo hi p = false from decide_eq_false (fun h => c h.1)]
    rfl
/-- a run of the model's -/
theorem m_run {σ : Type} {f : σ → Option (σ ⊕ σ)} {lo hi : Nat} (N : Nat → σ → Prop) (s : σ) (hp : p ≤ n) (hn : n ≤ 400) (hN : N p s)
    (step : ∀ k s', p ≤ k → k < ru b n lo hi p → N k s' → ∃ s2, f s' = some (.inl s2) ∧ N (k + 1) s2) (Q : σ → Prop)
    (stop : ∀ s', N (ru b n lo hi p) s' → cl b n lo hi (ru b n lo hi p) = false → ∃ r, f s' = some (.inr r) ∧ Q r) : ∃ r, it_ f FV s = some r ∧ Q r := by
  have h1 := ru_ge (b := b) (n := n) (lo := lo) (hi := hi) (p := p)
  have h2 := ru_le (b := b) (lo := lo) (hi := hi) hp
  exact it_for (F := FV) (f := f) (ru b n lo hi p - p) (fun k s' => N (p + k) s') Q
    (by
      intro k s' hk a2
      obtain ⟨s2, x1, x3⟩ := step (p + k) s' (by omega) (by omega) a2
      exact ⟨s2, x1, x3⟩)
    (by
      intro s' a2
      rw [show p + (ru b n lo hi p - p) = ru b n lo hi p by omega] at a2
      exact stop s' a2 (ru_out hp)) (by have := FV_ge; omega) (s := s) hN
theorem m_blanks (hM : MP V b n p) (hy : ∀ k, k < 400 → by_ (b k)) (hp : p ≤ n) (hn : n ≤ 400) : ∃ V', fX10_blanks V = some V' ∧ MP V' b n (sk b n p) ∧ V' 22 12 = nI (sk b n p) ∧ Mg V V' := by
  unfold fX10_blanks
  have hS := ru_le (b := b) (lo := 32) (hi := 32) hp
  obtain ⟨r, e, a1, a2, a3⟩ := m_run (b := b) (n := n) (p := p) (lo := 32) (hi := 32) (f := iX10_blanks_L0) (fun k V' => MP V' b n k ∧ Mg V V') V hp hn ⟨hM, Mg.rf⟩
    (by
      rintro k V' k1 k2 ⟨x1, x2⟩
      have hkn : k < n := by omega
      unfold iX10_blanks_L0 fX10_blanks_L0
      rw [show (32 : Int32) = nI 32 from rfl, m_isAt x1 hy (by omega) hn (by omega) (by omega), q_R, ru_in k1 k2, if_neg (show ¬ bI true = 0 by decide), x1.1, nI_1, q_lt]
      exact ⟨_, rfl, (Mg.u (by omega)).mp x1 (by rw [va_s, pk_us]), x2.tr (Mg.u (by omega))⟩)
    (fun V' => MP V' b n (sk b n p) ∧ V' 22 12 = nI (sk b n p) ∧ Mg V V')
    (by
      rintro V' ⟨x1, x2⟩ hout
      unfold iX10_blanks_L0 fX10_blanks_L0
      rw [show (32 : Int32) = nI 32 from rfl, m_isAt x1 hy hS hn (by omega) (by omega), q_R, hout, if_pos (show bI false = 0 from rfl), x1.1, q_lt]
      exact ⟨_, rfl, (Mg.u (by omega)).mp x1 (by rw [va_s, pk_un (by omega)]; exact x1.1), by rw [va_s, pk_us], x2.tr (Mg.u (by omega))⟩)
  rw [e, q_R]
  exact ⟨_, rfl, a1, a2, a3⟩
theorem m_letters (hM : MP V b n p) (hy : ∀ k, k < 400 → by_ (b k)) (hp : p ≤ n) (hn : n ≤ 400) : ∃ V', fX10_letters V = some V' ∧ MP V' b n (le_ b n (sk b n p)) ∧ V' 22 12 = nI (sk b n p) ∧ Mg V V' := by
  unfold fX10_letters
  have hB := sk_le (b := b) hp
  obtain ⟨V1, e1, b1, b2, b3⟩ := m_blanks hM hy hp hn
  rw [e1, q_R]
  generalize sk b n p = B at *
  have hS := ru_le (b := b) (lo := 97) (hi := 122) hB
  obtain ⟨r, e, a1, a2, a3⟩ := m_run (b := b) (n := n) (p := B) (lo := 97) (hi := 122) (f := iX10_letters_L4) (fun k V' => MP V' b n k ∧ V' 22 12 = nI B ∧ Mg V V') V1 hB hn ⟨b1, b2, b3⟩
    (by
      rintro k V' k1 k2 ⟨x1, x3, x2⟩
      have hkn : k < n := by omega
      unfold iX10_letters_L4 fX10_letters_L4
      rw [show (97 : Int32) = nI 97 from rfl, show (122 : Int32) = nI 122 from rfl, m_isAt x1 hy (by omega) hn (by omega) (by omega), q_R, ru_in k1 k2, if_neg (show ¬ bI true = 0 by decide), x1.1, nI_1, q_lt]
      exact ⟨_, rfl, (Mg.u (by omega)).mp x1 (by rw [va_s, pk_us]), by rw [va_s, pk_un (by omega)]; exact x3, x2.tr (Mg.u (by omega))⟩)
    (fun V' => MP V' b n (le_ b n B) ∧ V' 22 12 = nI B ∧ Mg V V')
    (by
      rintro V' ⟨x1, x3, x2⟩ hout
      unfold iX10_letters_L4 fX10_letters_L4
      rw [show (97 : Int32) = nI 97 from rfl, show (122 : Int32) = nI 122 from rfl, m_isAt x1 hy hS hn (by omega) (by omega), q_R, hout, if_pos (show bI false = 0 from rfl)]
      exact ⟨_, rfl, x1, x3, x2⟩)
  rw [e, q_R]
  exact ⟨_, rfl, a1, a2, a3⟩
/-- after letters -/
theorem m_isWord {B : Nat} (hM : MP V b n (le_ b n B)) (h12 : V 22 12 = nI B) (hB : B ≤ n) (hn : n ≤ 400) {w : Nat} (hw : w < 65) (hw2 : 16 ≤ w) : fX10_isWord V w = some (bI (wdB b n B w)) := by
  obtain ⟨l0, l1, hs⟩ := s_all w hw hw2
  have hL := le_le (b := b) hB
  have hg := le_ge (b := b) (n := n) (p := B)
  unfold fX10_isWord
  rw [hM.1, h12, pk_sub hg]
  by_cases c2 : le_ b n B - B = sL w
  · rw [if_pos (congrArg nI c2)]
    have h0 : ∀ k, k ≤ sL w → (∃ j, j < k ∧ ¬ b (B + j) = sC w j) → wdB b n B w = false := fun k hk ⟨j, j1, j2⟩ => decide_eq_false (fun h => j2 (h.2 j (by omega)))
    have z0 : ∀ x : Int32, iX10_isWord_L24 V w (0, x) = some (.inr 0) := fun x => by
      unfold iX10_isWord_L24 fX10_isWord_L24
      rw [if_pos rfl, q_zo0]
    obtain ⟨r, e, hr⟩ := it_forE (F := FV) (f := iX10_isWord_L24 V w) (sL w) (fun k u => u.2 = nI k ∧ ((u.1 = 1 ∧ ∀ j, j < k → b (B + j) = sC w j) ∨ (u.1 = 0 ∧ ∃ j, j < k ∧ ¬ b (B + j) = sC w j))) (fun r => r = bI (wdB b n B w))
      (by
        rintro k ⟨u, u3⟩ hk ⟨x1, ⟨x2, x3⟩ | ⟨x2, x3⟩⟩
        · dsimp only at x1 x2
          subst x1 x2
          left
          unfold iX10_isWord_L24 fX10_isWord_L24
          dsimp only
          rw [if_neg (show ¬ (1 : Int32) = 0 by decide), if_neg (nI_ge hk (by omega)), h12, nI_add, q_rd (show B + k < 400 by omega) (by omega), q_rd hk (by omega), nI_clamp (by omega), hM.2.2 _ (by omega), hs k hk, nI_1, q_lt]
          by_cases c3 : b (B + k) = sC w k
          · rw [if_pos c3]
            exact ⟨_, rfl, rfl, .inl ⟨rfl, fun j hj => by
              rcases Nat.lt_or_ge j k with h | h
              · exact x3 j h
              · rw [show j = k by omega]; exact c3⟩⟩
          · rw [if_neg c3]
            exact ⟨_, rfl, rfl, .inr ⟨rfl, k, by omega, c3⟩⟩
        · dsimp only at x1 x2
          subst x1 x2
          right
          exact ⟨0, z0 _, by rw [h0 k (by omega) x3]; rfl⟩)
      (by
        rintro ⟨u, u3⟩ ⟨x1, ⟨x2, x3⟩ | ⟨x2, x3⟩⟩
        · dsimp only at x1 x2
          subst x1 x2
          refine ⟨1, ?_, ?_⟩
          · unfold iX10_isWord_L24 fX10_isWord_L24
            dsimp only
            rw [if_neg (show ¬ (1 : Int32) = 0 by decide), if_pos (nI_le (Nat.le_refl _) (by omega)), q_zo1]
          · rw [show wdB b n B w = true from decide_eq_true ⟨c2, x3⟩]; rfl
        · dsimp only at x1 x2
          subst x1 x2
          exact ⟨0, z0 _, by rw [h0 _ (Nat.le_refl _) x3]; rfl⟩) (by have := FV_ge; omega) (s := (1, 0)) ⟨rfl, .inl ⟨rfl, fun j hj => by omega⟩⟩
    rw [e, q_R, hr]
  · rw [if_neg (fun e => c2 ((nI_eq (by omega) (by omega)).1 e)), show wdB b n B w = false from decide_eq_false (fun h => c2 h.1)]
    obtain ⟨r, e, hr⟩ := it_for (F := FV) (f := iX10_isWord_L24 V w) 0 (fun _ u => u.1 = 0) (fun r => r = 0) (fun k s hk => by omega)
      (by
        rintro ⟨u, u3⟩ x1
        dsimp only at x1
        subst x1
        refine ⟨0, ?_, rfl⟩
        unfold iX10_isWord_L24 fX10_isWord_L24
        rw [if_pos rfl, q_zo0]) (by have := FV_ge; omega) (s := (0, 0)) rfl
    rw [e, q_R, hr]
    rfl
theorem m_passes (hM : MP V b n p) (hy : ∀ k, k < 400 → by_ (b k)) (hp : p ≤ n) (hn : n ≤ 400) {w : Nat} (hw : w < 65) (hw2 : 16 ≤ w) : ∃ V', fX10_passes V w = some (bI (wdB b n (sk b n p) w), V') ∧ MP V' b n (if wdB b n (sk b n p) w = true then le_ b n (sk b n p) else sk b n p) ∧ V' 22 12 = nI (sk b n p) ∧ Mg V V' := by
  unfold fX10_passes
  have hB := sk_le (b := b) hp
  obtain ⟨V1, e1, b1, b2, b3⟩ := m_letters hM hy hp hn
  rw [e1, q_R, m_isWord b1 b2 hB hn hw hw2, q_R, q_ifb]
  by_cases c : wdB b n (sk b n p) w = true
  · rw [if_pos c, if_pos c, q_zo1, c]
    exact ⟨_, rfl, b1, b2, b3⟩
  · rw [if_neg c, if_neg c, b2, q_lt, q_zo0, Bool.eq_false_iff.2 c]
    exact ⟨_, rfl, (Mg.u (by omega)).mp b1 (by rw [va_s, pk_us]), by rw [va_s, pk_un (by omega)]; exact b2, b3.tr (Mg.u (by omega))⟩
theorem m_sign (hM : MP V b n p) (hy : ∀ k, k < 400 → by_ (b k)) (hp : p ≤ n) (hn : n ≤ 400) {c : Nat} (hc : c < 128) : ∃ V', fX10_sign V (nI c) = some (bI (cl b n c c (sk b n p)), V') ∧ MP V' b n (if cl b n c c (sk b n p) = true then sk b n p + 1 else sk b n p) ∧ V' 22 12 = nI (sk b n p) ∧ Mg V V' := by
  unfold fX10_sign
  have hB := sk_le (b := b) hp
  obtain ⟨V1, e1, b1, b2, b3⟩ := m_blanks hM hy hp hn
  rw [e1, q_R, m_isAt b1 hy hB hn hc hc, q_R, q_ifb]
  by_cases c1 : cl b n c c (sk b n p) = true
  · rw [if_pos c1, if_pos c1, c1, b1.1, nI_1, q_lt, q_zo1]
    exact ⟨_, rfl, (Mg.u (by omega)).mp b1 (by rw [va_s, pk_us]), by rw [va_s, pk_un (by omega)]; exact b2, b3.tr (Mg.u (by omega))⟩
  · rw [if_neg c1, if_neg c1, q_zo0, Bool.eq_false_iff.2 c1]
    exact ⟨_, rfl, b1, b2, b3⟩
theorem m_number (hM : MP V b n p) (hy : ∀ k, k < 400 → by_ (b k)) (hp : p ≤ n) (hn : n ≤ 400) {lo hi : Nat} (hl : lo < 2 ^ 31) (hh : hi < 2 ^ 31) : ∃ V', fX10_number V (nI lo) (nI hi) = some ((if nuB b n (sk b n p) lo hi = true then nI (vl b n (sk b n p)) else -1), V') ∧ MP V' b n (di_ b n (sk b n p)) ∧ V' 22 12 = nI (sk b n p) ∧ Mg V V' := by
  unfold fX10_number
  have hB := sk_le (b := b) hp
  obtain ⟨V1, e1, b1, b2, b3⟩ := m_blanks hM hy hp hn
  rw [e1, q_R]
  generalize sk b n p = B at *
  have hD := di_le (b := b) hB
  have hG := di_ge (b := b) (n := n) (p := B)
  obtain ⟨r, e, a0, a1, a2, a3, a4, a5⟩ := m_run (b := b) (n := n) (p := B) (lo := 48) (hi := 57) (f := iX10_number_L6) (fun k s => s.2.2.2 = nI (vN b B (min 3 (k - B))) ∧ s.2.1 = nI lo ∧ s.2.2.1 = nI hi ∧ MP s.1 b n k ∧ s.1 22 12 = nI B ∧ Mg V s.1) (V1, nI lo, nI hi, 0) hB hn ⟨by rw [Nat.sub_self]; rfl, rfl, rfl, b1, b2, b3⟩
    (by
      rintro k ⟨V', u1, u2, u3⟩ k1 k2 ⟨y1, y2, y3, x1, x3, x2⟩
      dsimp only at y1 y2 y3 x1 x2 x3
      have hkn : k < n := by
        have hD2 : ru b n 48 57 B ≤ n := hD
        omega
      have hc := ru_in (b := b) (n := n) (lo := 48) (hi := 57) k1 k2
      have hc2 := of_decide_eq_true hc
      show ∃ s2, fX10_number_L6 V' u1 u2 u3 = _ ∧ _
      unfold fX10_number_L6 fX10_number_j51_6
      rw [show (48 : Int32) = nI 48 from rfl, show (57 : Int32) = nI 57 from rfl, m_isAt x1 hy (by omega) hn (by omega) (by omega), q_R, hc, if_neg (show ¬ bI true = 0 by decide), x1.1, x3, pk_sub k1, nI_1, q_lt, q_lt]
      by_cases c3 : 3 ≤ k - B
      · rw [if_pos (show (3 : Int32) ≤ nI (k - B) from nI_le (a := 3) c3 (by omega))]
        exact ⟨_, rfl, by rw [y1]; exact congrArg (fun x => nI (vN b B x)) (by omega), y2, y3, (Mg.u (by omega)).mp x1 (by rw [va_s, pk_us]), by show va_up V' 22 (upd (V' 22) 10 (nI (k + 1))) 22 12 = nI B; rw [va_s, pk_un (by omega)]; exact x3, x2.tr (Mg.u (by omega))⟩
      · have hbk : b k = nI (ubN (b k)) := by
          rcases ub_c (hy k (by omega)) with ⟨a, d⟩ | ⟨a, d⟩
          · omega
          · exact a
        rw [if_neg (show ¬ (3 : Int32) ≤ nI (k - B) from nI_ge (b := 3) (by omega) (by omega)), q_rd (show k < 400 by omega) (by omega), nI_clamp (by omega), x1.2.2 k (by omega)]
        refine ⟨_, rfl, ?_, y2, y3, (Mg.u (by omega)).mp x1 (by rw [va_s, pk_us]), by show va_up V' 22 (upd (V' 22) 10 (nI (k + 1))) 22 12 = nI B; rw [va_s, pk_un (by omega)]; exact x3, x2.tr (Mg.u (by omega))⟩
        show 10 * u3 + b k - nI 48 = nI (vN b B (min 3 (k + 1 - B)))
        have hv := vN_b (b := b) (n := n) (B := B) (fun k a c => ru_in a c) (k - B) (by omega) (by have hD3 : ru b n 48 57 B = di_ b n B := rfl; omega)
        rw [y1, hbk, show min 3 (k - B) = k - B by omega, show min 3 (k + 1 - B) = (k - B) + 1 by omega, q_mulL, nI_add, pk_sub (by omega)]
        show _ = nI (10 * vN b B (k - B) + (ubN (b (B + (k - B))) - 48))
        rw [show B + (k - B) = k by omega]
        exact congrArg nI (by omega))
    (fun s => s.2.2.2 = nI (vN b B (min 3 (di_ b n B - B))) ∧ s.2.1 = nI lo ∧ s.2.2.1 = nI hi ∧ MP s.1 b n (di_ b n B) ∧ s.1 22 12 = nI B ∧ Mg V s.1)
    (by
      rintro ⟨V', u1, u2, u3⟩ ⟨y1, y2, y3, x1, x3, x2⟩ hout
      unfold iX10_number_L6 fX10_number_L6
      dsimp only at y1 y2 y3 x1 x2 x3 ⊢
      rw [show (48 : Int32) = nI 48 from rfl, show (57 : Int32) = nI 57 from rfl, m_isAt x1 hy hD hn (by omega) (by omega), q_R, hout, if_pos (show bI false = 0 from rfl)]
      exact ⟨_, rfl, y1, y2, y3, x1, x3, x2⟩)
  obtain ⟨V', u1, u2, u3⟩ := r
  dsimp only at a0 a1 a2 a3 a4 a5
  rw [e, q_R]
  show ∃ V'_1, (if V' 22 10 = V' 22 12 then some ((-1 : Int32), V') else if (3 : Int32) < V' 22 10 - V' 22 12 then some ((-1 : Int32), V') else if u3 < u1 then some ((-1 : Int32), V') else if u3 ≤ u2 then some (u3, V') else some ((-1 : Int32), V')) = _ ∧ _
  rw [a3.1, a4, pk_sub hG, a0, a1, a2]
  have hno : ∀ h : ¬ (B < di_ b n B ∧ di_ b n B - B ≤ 3 ∧ lo ≤ vN b B (di_ b n B - B) ∧ vN b B (di_ b n B - B) ≤ hi), (if nuB b n B lo hi = true then nI (vl b n B) else -1) = -1 := fun h => if_neg (fun h2 => h (of_decide_eq_true h2))
  by_cases c1 : di_ b n B = B
  · rw [if_pos (congrArg nI c1), hno (by omega)]
    exact ⟨_, rfl, a3, a4, a5⟩
  · rw [if_neg (fun e => c1 ((nI_eq (by omega) (by omega)).1 e))]
    by_cases c2 : 3 < di_ b n B - B
    · rw [if_pos (show (3 : Int32) < nI _ from nI_lt (a := 3) c2 (by omega)), hno (by omega)]
      exact ⟨_, rfl, a3, a4, a5⟩
    · have hv := vN_b (b := b) (n := n) (B := B) (fun k a c => ru_in a c) (di_ b n B - B) (by omega) (by omega)
      have hv2 : 10 ^ (di_ b n B - B) ≤ 10 ^ 3 := Nat.pow_le_pow_right (by omega) (by omega)
      rw [if_neg (show ¬ (3 : Int32) < nI _ from nI_nlt (a := 3) (by omega) (by omega)), show min 3 (di_ b n B - B) = di_ b n B - B by omega]
      by_cases c3 : vN b B (di_ b n B - B) < lo
      · rw [if_pos (nI_lt c3 hl), hno (fun h => absurd h.2.2.1 (Nat.not_le_of_lt c3))]
        exact ⟨_, rfl, a3, a4, a5⟩
      · rw [if_neg (nI_nlt (by omega) (by omega))]
        by_cases c4 : vN b B (di_ b n B - B) ≤ hi
        · rw [if_pos (nI_le c4 hh), if_pos (show nuB b n B lo hi = true from decide_eq_true ⟨by omega, by omega, Nat.le_of_not_lt c3, c4⟩)]
          exact ⟨_, rfl, a3, a4, a5⟩
        · rw [if_neg (nI_ge (by omega) (by omega)), hno (fun h => c4 h.2.2.2)]
          exact ⟨_, rfl, a3, a4, a5⟩
theorem m_after (hM : MP V b n p) (hy : ∀ k, k < 400 → by_ (b k)) (hp : p ≤ n) (hn : n ≤ 400) {lo hi : Nat} (hl : lo < 2 ^ 31) (hh : hi < 2 ^ 31) {w : Nat} (hw : w < 65) (hw2 : 16 ≤ w) : ∃ V', fX10_after V w (nI lo) (nI hi) = some ((if wdB b n (sk b n p) w = true ∧ nuB b n (sk b n (le_ b n (sk b n p))) lo hi = true then nI (vl b n (sk b n (le_ b n (sk b n p)))) else -1), V') ∧ MP V' b n (if wdB b n (sk b n p) w = true then di_ b n (sk b n (le_ b n (sk b n p))) else le_ b n (sk b n p)) ∧ V' 22 12 = nI (if wdB b n (sk b n p) w = true then sk b n (le_ b n (sk b n p)) else sk b n p) ∧ Mg V V' := by
  unfold fX10_after
  have hB := sk_le (b := b) hp
  have hL := le_le (b := b) hB
  obtain ⟨V1, e1, b1, b2, b3⟩ := m_letters hM hy hp hn
  rw [e1, q_R, m_isWord b1 b2 hB hn hw hw2, q_R, q_ifb]
  by_cases c : wdB b n (sk b n p) w = true
  · obtain ⟨V2, e2, d1, d2, d3⟩ := m_number b1 hy hL hn hl hh
    rw [if_pos c, if_pos c, if_pos c, e2, q_I]
    refine ⟨V2, ?_, d1, d2, b3.tr d3⟩
    by_cases c2 : nuB b n (sk b n (le_ b n (sk b n p))) lo hi = true
    · rw [if_pos c2, if_pos ⟨c, c2⟩]
    · rw [if_neg c2, if_neg (fun h => c2 h.2)]
  · rw [if_neg c, if_neg c, if_neg c, if_neg (fun h => c h.1)]
    exact ⟨_, rfl, b1, b2, b3⟩
end MT
