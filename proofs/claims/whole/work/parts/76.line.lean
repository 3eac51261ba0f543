/-! ===== a line of a street ===== -/
def liP (b : Nat → Int32) (n : Nat) (A : AT) (p : Nat) : Nat ⊕ (AT × Nat) :=
  if wdB b n (sk b n p) 31 = true then (if aS A 0 = 8 then .inl (sk b n p) else sb (hoP b n p) fun x => .inr (hsA A x.1, x.2))
  else if wdB b n (sk b n p) 32 = true then (if aS A 1 = 10 then .inl (sk b n p) else sb (deP b n (aS A 1) p) fun x => .inr (dsA A x.1, x.2))
  else if wdB b n (sk b n p) 33 = true then sb (wnP b n p 33 0 9) fun x => .inr (pS A 6 x.1, x.2)
  else if wdB b n (sk b n p) 34 = true then sb (wnD b n p 34 (aS A 0)) fun x => .inr (pH A x.1 7 1, x.2)
  else .inl (sk b n p)
theorem RS.mist {V : VT} {i : Nat} {A : AT} (hR : RS V i A) (hi : i < 17) (f : Nat) : RS (va_up V i (upd (V i) 9 (nI f))) i (pS A 6 f) := by
  have e : ∀ k, k ≠ 9 → va_up V i (upd (V i) 9 (nI f)) i k = V i k := fun k hk => by rw [va_s, pk_un hk]
  refine ⟨⟨(e 3 (by omega)).trans hR.1.1, (e 4 (by omega)).trans hR.1.2.1, (e 5 (by omega)).trans hR.1.2.2.1, (e 6 (by omega)).trans hR.1.2.2.2.1, (e 7 (by omega)).trans hR.1.2.2.2.2.1, (e 8 (by omega)).trans hR.1.2.2.2.2.2.1, ?_, (e 10 (by omega)).trans hR.1.2.2.2.2.2.2.2.1, (e 11 (by omega)).trans hR.1.2.2.2.2.2.2.2.2.1, (e 12 (by omega)).trans hR.1.2.2.2.2.2.2.2.2.2⟩, ?_, ?_, ?_, ?_⟩
  · rw [va_s, pk_us]; rfl
  · intro h k hh hk; rw [va_n (by omega)]; exact hR.2.1 h k hh hk
  · intro d k hd hk hk2; rw [va_n (by omega)]; exact hR.2.2.1 d k hd hk hk2
  · intro d hd; rw [va_n (by omega)]; exact hR.2.2.2.1 d hd
  · intro k hk; rw [va_n (by omega)]; exact hR.2.2.2.2 k hk
theorem WA.mist {A : AT} (hW : WA A) {f : Nat} (hf : f ≤ 9) : WA (pS A 6 f) := by
  obtain ⟨⟨a0, a1, a2, a3, a4, a5, a6, a7, a8⟩, b⟩ := hW
  exact ⟨⟨a0, a1, a2, a3, a4, a5, hf, a7, a8⟩, b⟩
theorem RS.awo {V : VT} {i : Nat} {A : AT} {h : Nat} (hR : RS V i A) (hi : i < 17) (hh : h < aS A 0) : RS (va_up V i (upd (V i) 6 (nI (bs (aw A) (aS A 0) ||| 2 ^ h)))) i (pH A h 7 1) := by
  have e : ∀ k, k ≠ 6 → va_up V i (upd (V i) 6 (nI (bs (aw A) (aS A 0) ||| 2 ^ h))) i k = V i k := fun k hk => by rw [va_s, pk_un hk]
  refine ⟨⟨(e 3 (by omega)).trans hR.1.1, (e 4 (by omega)).trans hR.1.2.1, (e 5 (by omega)).trans hR.1.2.2.1, ?_, (e 7 (by omega)).trans hR.1.2.2.2.2.1, (e 8 (by omega)).trans hR.1.2.2.2.2.2.1, (e 9 (by omega)).trans hR.1.2.2.2.2.2.2.1, (e 10 (by omega)).trans hR.1.2.2.2.2.2.2.2.1, (e 11 (by omega)).trans hR.1.2.2.2.2.2.2.2.2.1, (e 12 (by omega)).trans hR.1.2.2.2.2.2.2.2.2.2⟩, ?_, ?_, ?_, ?_⟩
  · rw [va_s, pk_us, aw_7]
    congr 1
    apply Nat.eq_of_testBit_eq
    intro k
    show _ = (bs (fun q => if q = h then decide (1 = 1) else aw A q) (aS A 0)).testBit k
    rw [bs_bit, Nat.testBit_or, Nat.testBit_two_pow, bs_bit]
    by_cases c : k = h
    · subst c
      simp [hh]
    · simp [c, show ¬ h = k from fun e => c e.symm]
  · intro h' k' hh' hk'
    rw [va_n (by omega), aH_p, if_neg (by omega)]; exact hR.2.1 h' k' hh' hk'
  · intro d k hd hk hk2; rw [va_n (by omega)]; exact hR.2.2.1 d k hd hk hk2
  · intro d hd; rw [va_n (by omega)]; exact hR.2.2.2.1 d hd
  · intro k hk; rw [va_n (by omega)]; exact hR.2.2.2.2 k hk
section CT
variable {V V1 : VT} {b : Nat → Int32} {n p : Nat} {A : AT}
/-- a number after a word that is taken -/
theorem c_nn (hT : TK V b n (le_ b n (sk b n p))) (hp : p ≤ n) (hn : n ≤ 400) {w lo hi : Nat} (hl : lo < 2 ^ 31) (hh : hi < 2 ^ 31) (hw : wdB b n (sk b n p) w = true) :
    (∃ f, wnP b n p w lo hi = .inl f ∧ fX8_isNumber V (nI lo) (nI hi) = some 0 ∧ V 1 3 = nI f) ∨
    (∃ v q, wnP b n p w lo hi = .inr (v, q) ∧ fX8_isNumber V (nI lo) (nI hi) = some 1 ∧ V 1 5 = nI v ∧ lo ≤ v ∧ v ≤ hi ∧ q ≤ n ∧ ∀ V1, TK V1 b n (le_ b n (sk b n p)) → ∃ V', fX8_step V1 = some V' ∧ TK V' b n q ∧ Tf V1 V') := by
  have hL := le_le (b := b) (sk_le (b := b) hp)
  rw [c_isNumber hT hL hn hl hh]
  by_cases c2 : nuB b n (sk b n (le_ b n (sk b n p))) lo hi = true
  · have hx : wnP b n p w lo hi = .inr (vl b n (sk b n (le_ b n (sk b n p))), di_ b n (sk b n (le_ b n (sk b n p)))) := by
      unfold wnP
      rw [if_pos hw, if_pos c2]
    obtain ⟨x1, x2, x3⟩ := wnP_b hp hx
    exact .inr ⟨_, _, hx, by rw [c2]; rfl, nu_v hT c2, x1, x2, x3, fun V1 h1 => nu_n h1 hL hn c2⟩
  · have hx : wnP b n p w lo hi = .inl (sk b n (le_ b n (sk b n p))) := by
      unfold wnP
      rw [if_pos hw, if_neg c2]
    exact .inl ⟨_, hx, by rw [Bool.eq_false_iff.2 c2]; rfl, hT.2.2.1⟩
theorem c_nD (hT : TK V b n (le_ b n (sk b n p))) (hp : p ≤ n) (hn : n ≤ 400) {w H : Nat} (hH : H ≤ 10) (hw : wdB b n (sk b n p) w = true) :
    (∃ f, wnD b n p w H = .inl f ∧ fX8_isNumber V 0 (nI H - 1) = some 0 ∧ V 1 3 = nI f) ∨
    (∃ v q, wnD b n p w H = .inr (v, q) ∧ fX8_isNumber V 0 (nI H - 1) = some 1 ∧ V 1 5 = nI v ∧ v < H ∧ q ≤ n ∧ ∀ V1, TK V1 b n (le_ b n (sk b n p)) → ∃ V', fX8_step V1 = some V' ∧ TK V' b n q ∧ Tf V1 V') := by
  unfold wnD
  by_cases h0 : H = 0
  · subst h0
    left
    rw [if_pos rfl, if_pos hw]
    exact ⟨_, rfl, c_isNumber0 hT, hT.2.2.1⟩
  · rw [if_neg h0, show nI H - 1 = nI (H - 1) from pk_sub (b := 1) (by omega)]
    rcases c_nn hT hp hn (lo := 0) (hi := H - 1) (by omega) (by omega) hw with h | ⟨v, q, a1, a2, a3, a4, a5, a6, a7⟩
    · exact .inl h
    · exact .inr ⟨v, q, a1, a2, a3, by omega, a6, a7⟩
theorem c_mists (hT : TK V b n (le_ b n (sk b n p))) (hp : p ≤ n) (hn : n ≤ 400) (hR : RS V 3 A) (hW : WA A) {w : Nat} (hw : wdB b n (sk b n p) w = true) :
    (∃ f V', wnP b n p w 0 9 = .inl f ∧ fX7_readMists V 3 = some (0, V') ∧ V' 1 3 = nI f ∧ Fs V V') ∨
    (∃ v q V', wnP b n p w 0 9 = .inr (v, q) ∧ fX7_readMists V 3 = some (1, V') ∧ TK V' b n q ∧ q ≤ n ∧ RS V' 3 (pS A 6 v) ∧ WA (pS A 6 v) ∧ Fs V V') := by
  unfold fX7_readMists
  rcases c_nn hT hp hn (lo := 0) (hi := 9) (by omega) (by omega) hw with ⟨f, a1, a2, a3⟩ | ⟨v, q, a1, a2, a3, a4, a5, a6, a7⟩
  · rw [show fX8_isNumber V 0 9 = _ from a2, q_R, if_pos rfl, q_zo0]
    exact .inl ⟨f, V, a1, rfl, a3, Tf.rf.fs⟩
  · rw [show fX8_isNumber V 0 9 = _ from a2, q_R, if_neg (show ¬ (1 : Int32) = 0 by decide), a3, q_lt]
    obtain ⟨V', e, t1, t2⟩ := a7 (va_up V 3 (upd (V 3) 9 (nI v))) (hT.u (by omega) (by omega))
    rw [e, q_R, q_zo1]
    exact .inr ⟨v, q, V', a1, rfl, t1, a6, (hR.mist (by omega) v).w (t2.1 3 (by omega)) (t2.1 _ (by omega)) (t2.1 _ (by omega)) (t2.1 _ (by omega)), hW.mist a5, (Fs.u (by omega)).tr t2.fs⟩
theorem c_away (hT : TK V b n (le_ b n (sk b n p))) (hp : p ≤ n) (hn : n ≤ 400) (hR : RS V 3 A) (hW : WA A) {w : Nat} (hw : wdB b n (sk b n p) w = true) :
    (∃ f V', wnD b n p w (aS A 0) = .inl f ∧ fX7_readAway V 3 = some (0, V') ∧ V' 1 3 = nI f ∧ Fs V V') ∨
    (∃ v q V', wnD b n p w (aS A 0) = .inr (v, q) ∧ fX7_readAway V 3 = some (1, V') ∧ TK V' b n q ∧ q ≤ n ∧ RS V' 3 (pH A v 7 1) ∧ WA (pH A v 7 1) ∧ v < aS A 0 ∧ Fs V V') := by
  have h8 := hW.1.1
  unfold fX7_readAway
  rw [hR.1.1]
  rcases c_nD hT hp hn (H := aS A 0) (by omega) hw with ⟨f, a1, a2, a3⟩ | ⟨v, q, a1, a2, a3, a4, a6, a7⟩
  · rw [a2, q_R, if_pos rfl, q_zo0]
    exact .inl ⟨f, V, a1, rfl, a3, Tf.rf.fs⟩
  · rw [a2, q_R, if_neg (show ¬ (1 : Int32) = 0 by decide), a3, hR.1.2.2.2.1, q_shl (by omega), q_or, q_lt]
    obtain ⟨V', e, t1, t2⟩ := a7 (va_up V 3 (upd (V 3) 6 (nI (bs (aw A) (aS A 0) ||| 2 ^ v)))) (hT.u (by omega) (by omega))
    rw [e, q_R, q_zo1]
    exact .inr ⟨v, q, V', a1, rfl, t1, a6, (hR.awo (by omega) a4).w (t2.1 3 (by omega)) (t2.1 _ (by omega)) (t2.1 _ (by omega)) (t2.1 _ (by omega)), hW.hq (by omega) (by omega) (by omega) (by omega) (by omega) (fun _ => by omega), a4, (Fs.u (by omega)).tr t2.fs⟩
theorem c_readLine (hT : TK V b n p) (hp : p ≤ n) (hn : n ≤ 400) (hR : RS V 3 A) (hW : WA A) :
    (∃ f V', liP b n A p = .inl f ∧ fX7_readLine V 3 = some (0, V') ∧ V' 1 3 = nI f ∧ Fs V V') ∨
    (∃ A' q V', liP b n A p = .inr (A', q) ∧ fX7_readLine V 3 = some (1, V') ∧ TK V' b n q ∧ q ≤ n ∧ RS V' 3 A' ∧ WA A' ∧ Fs V V') := by
  have hH := hW.1.1
  have hD := hW.1.2.1
  unfold fX7_readLine liP
  rw [c_isWord hT hp hn (by omega) (by omega), q_R, q_ifb, c_isWord hT hp hn (by omega) (by omega), q_R, q_ifb]
  by_cases c1 : wdB b n (sk b n p) 31 = true
  · rw [if_pos c1, if_pos c1, hR.1.1]
    by_cases c8 : aS A 0 = 8
    · rw [if_pos c8, c8, if_pos (show (8 : Int32) ≤ nI 8 by decide), q_zo0]
      exact .inl ⟨_, V, rfl, rfl, hT.2.2.1, Tf.rf.fs⟩
    · rw [if_neg c8, if_neg (show ¬ (8 : Int32) ≤ nI (aS A 0) from nI_ge (b := 8) (by omega) (by omega))]
      rcases c_readHouse hT hp hn hR hW (by omega) with ⟨f, V', w4, e4, b4, s4⟩ | ⟨r, q, V', w4, e4, t4, p4, r4, q4, s4⟩
      · rw [e4, q_I, if_pos rfl, q_zo0, w4]
        exact .inl ⟨f, V', rfl, rfl, b4, s4⟩
      · rw [e4, q_I, if_neg (show ¬ (1 : Int32) = 0 by decide), q_zo1, w4]
        exact .inr ⟨_, _, V', rfl, rfl, t4, p4, r4, q4, s4⟩
  · rw [if_neg c1, if_neg c1]
    by_cases c2 : wdB b n (sk b n p) 32 = true
    · rw [if_pos c2, if_pos c2, hR.1.2.1]
      by_cases c8 : aS A 1 = 10
      · rw [if_pos c8, c8, if_pos (show (10 : Int32) ≤ nI 10 by decide), q_zo0]
        exact .inl ⟨_, V, rfl, rfl, hT.2.2.1, Tf.rf.fs⟩
      · rw [if_neg c8, if_neg (show ¬ (10 : Int32) ≤ nI (aS A 1) from nI_ge (b := 10) (by omega) (by omega))]
        rcases c_readDeed hT hp hn hR hW (by omega) with ⟨f, V', w4, e4, b4, s4⟩ | ⟨r, q, V', w4, e4, t4, p4, r4, q4, s4⟩
        · rw [e4, q_I, if_pos rfl, q_zo0, w4]
          exact .inl ⟨f, V', rfl, rfl, b4, s4⟩
        · rw [e4, q_I, if_neg (show ¬ (1 : Int32) = 0 by decide), q_zo1, w4]
          exact .inr ⟨_, _, V', rfl, rfl, t4, p4, r4, q4, s4⟩
    · rw [if_neg c2, if_neg c2]
      obtain ⟨V2, e2, t2, f2⟩ := c_takeWord hT hp hn (w := 33) (by omega) (by omega)
      have hR2 := hR.w (f2.1 3 (by omega)) (f2.1 _ (by omega)) (f2.1 _ (by omega)) (f2.1 _ (by omega))
      rw [e2, q_I, q_ifb]
      by_cases c3 : wdB b n (sk b n p) 33 = true
      · rw [if_pos c3] at t2 ⊢
        rw [if_pos c3]
        rcases c_mists t2 hp hn hR2 hW c3 with ⟨f, V', w4, e4, b4, s4⟩ | ⟨r, q, V', w4, e4, t4, p4, r4, q4, s4⟩
        · rw [e4, q_I, q_zo0, w4]
          exact .inl ⟨f, V', rfl, rfl, b4, f2.fs.tr s4⟩
        · rw [e4, q_I, q_zo1, w4]
          exact .inr ⟨_, _, V', rfl, rfl, t4, p4, r4, q4, f2.fs.tr s4⟩
      · rw [if_neg c3] at t2 ⊢
        rw [if_neg c3]
        obtain ⟨V3, e3, t3, f3⟩ := c_takeWord t2 hp hn (w := 34) (by omega) (by omega)
        have hR3 := hR2.w (f3.1 3 (by omega)) (f3.1 _ (by omega)) (f3.1 _ (by omega)) (f3.1 _ (by omega))
        have f3 := f2.tr f3
        rw [e3, q_I, q_ifb]
        by_cases c4 : wdB b n (sk b n p) 34 = true
        · rw [if_pos c4] at t3 ⊢
          rw [if_pos c4]
          rcases c_away t3 hp hn hR3 hW c4 with ⟨f, V', w4, e4, b4, s4⟩ | ⟨r, q, V', w4, e4, t4, p4, r4, q4, u4, s4⟩
          · rw [e4, q_I, if_pos rfl, q_zo0, w4]
            exact .inl ⟨f, V', rfl, rfl, b4, f3.fs.tr s4⟩
          · rw [e4, q_I, if_neg (show ¬ (1 : Int32) = 0 by decide), q_zo1, w4]
            exact .inr ⟨_, _, V', rfl, rfl, t4, p4, r4, q4, f3.fs.tr s4⟩
        · rw [if_neg c4] at t3 ⊢
          rw [if_neg c4, q_zo0]
          exact .inl ⟨_, V3, rfl, rfl, t3.2.2.1, f3.fs⟩
end CT
