/-! ===== the street's text: deeds ===== -/
def wnD (b : Nat → Int32) (n p w D : Nat) : Nat ⊕ (Nat × Nat) :=
  if D = 0 then (if wdB b n (sk b n p) w = true then .inl (sk b n (le_ b n (sk b n p))) else .inl (sk b n p)) else wnP b n p w 0 (D - 1)
def rw6 (a c o : Nat) : Nat → Nat := fun k => if k = 0 then a else if k = 1 then c else if k = 2 then o else 0
def deP (b : Nat → Int32) (n D p : Nat) : Nat ⊕ ((Nat → Nat) × Nat) :=
  sb (wnP b n p 32 0 23) fun a => sb (wnP b n a.2 40 0 23) fun c =>
    if wdB b n (sk b n c.2) 41 = true then sb (wnD b n c.2 41 D) fun g => .inr (rw6 a.1 c.1 (g.1 + 1), g.2) else .inr (rw6 a.1 c.1 0, sk b n c.2)
/-- a deed more -/
def dsA (A : AT) (r : Nat → Nat) : AT := (up1 A.1 1 (aS A 1 + 1), A.2.1, (fun d q => if d = aS A 1 then r q else aD A d q), A.2.2.2)
theorem ds_S {A : AT} {r : Nat → Nat} {q : Nat} (hq : q ≠ 1) : aS (dsA A r) q = aS A q := if_neg hq
theorem ds_1 {A : AT} {r : Nat → Nat} : aS (dsA A r) 1 = aS A 1 + 1 := rfl
theorem ds_D {A : AT} {r : Nat → Nat} {d q : Nat} : aD (dsA A r) d q = if d = aS A 1 then r q else aD A d q := rfl
theorem ds_H {A : AT} {r : Nat → Nat} : aH (dsA A r) = aH A := rfl
theorem ds_L {A : AT} {r : Nat → Nat} : aL (dsA A r) = aL A := rfl
theorem ds_Z {A : AT} {r : Nat → Nat} : aZ (dsA A r) = aZ A := rfl
theorem ds_aw {A : AT} {r : Nat → Nat} : aw (dsA A r) = aw A := rfl
theorem ds_so {A : AT} {r : Nat → Nat} (h5 : r 5 = 0) : bs (so (dsA A r)) (aS A 1 + 1) = bs (so A) (aS A 1) := by
  rw [bs_s, show so (dsA A r) (aS A 1) = false from decide_eq_false (by rw [ds_D, if_pos rfl, h5]; omega)]
  rw [show bs (so (dsA A r)) (aS A 1) = bs (so A) (aS A 1) from bs_cong (fun k hk => by unfold so; rw [ds_D, if_neg (by omega)])]
  simp
def Ds (V V' : VT) (H : Nat) (w : Nat → Int32) : Prop := (∀ q, q ≠ 1 → q ≠ 28 → V' q = V q) ∧ V' 1 1 = V 1 1 ∧ ∀ j, V' 28 j = if 5 * H ≤ j ∧ j < 5 * H + 5 then w (j - 5 * H) else V 28 j
theorem Ds.t {V V1 V2 : VT} {H : Nat} {w : Nat → Int32} (h : Ds V V1 H w) (t : Tf V1 V2) : Ds V V2 H w := ⟨fun q a c => (t.1 q a).trans (h.1 q a c), t.2.trans h.2.1, fun j => by rw [t.1 28 (by omega)]; exact h.2.2 j⟩
theorem Ds.u {V V1 : VT} {H k : Nat} {w : Nat → Int32} {x : Int32} (h : Ds V V1 H w) (hk : k < 5) : Ds V (va_up V1 28 (upd (V1 28) (5 * H + k) x)) H (upd w k x) := by
  refine ⟨fun q a c => by rw [va_n c]; exact h.1 q a c, by rw [va_n (by omega)]; exact h.2.1, fun j => ?_⟩
  rw [va_s]
  by_cases e : j = 5 * H + k
  · rw [e, pk_us, if_pos (by omega), show 5 * H + k - 5 * H = k by omega, pk_us]
  · rw [pk_un e, h.2.2 j]
    by_cases c : 5 * H ≤ j ∧ j < 5 * H + 5
    · rw [if_pos c, if_pos c, pk_un (by omega)]
    · rw [if_neg c, if_neg c]
section MT
variable {V V1 : VT} {b : Nat → Int32} {n p : Nat} {A : AT}
theorem m_number0 (hM : MP V b n p) (hy : ∀ k, k < 400 → by_ (b k)) (hp : p ≤ n) (hn : n ≤ 400) : ∃ V', fX10_number V 0 (-1) = some (-1, V') ∧ MP V' b n (di_ b n (sk b n p)) ∧ V' 22 12 = nI (sk b n p) ∧ Mg V V' := by
  unfold fX10_number
  have hB := sk_le (b := b) hp
  obtain ⟨V1, e1, b1, b2, b3⟩ := m_blanks hM hy hp hn
  rw [e1, q_R]
  generalize sk b n p = B at *
  have hD := di_le (b := b) hB
  have hG := di_ge (b := b) (n := n) (p := B)
  obtain ⟨r, e, a0, a1, a2, a3, a4, a5⟩ := m_run (b := b) (n := n) (p := B) (lo := 48) (hi := 57) (f := iX10_number_L6) (fun k s => s.2.2.2 = nI (vN b B (min 3 (k - B))) ∧ s.2.1 = (0 : Int32) ∧ s.2.2.1 = (-1) ∧ MP s.1 b n k ∧ s.1 22 12 = nI B ∧ Mg V s.1) (V1, (0 : Int32), (-1), 0) hB hn ⟨by rw [Nat.sub_self]; rfl, rfl, rfl, b1, b2, b3⟩
    (by
      rintro k ⟨V', u1, u2, u3⟩ k1 k2 ⟨y1, y2, y3, x1, x3, x2⟩
      dsimp only at y1 y2 y3 x1 x2 x3
      have hkn : k < n := by
        have hD2 : ru b n 48 57 B ≤ n := hD
        omega
      have hc := ru_in (b := b) (n := n) (lo := 48) (hi := 57) k1 k2
      have hc2 := of_decide_eq_true hc
      show ∃ s2, fX10_number_L6 V' u1 u2 u3 = _ ∧ _
      unfold fX10_number_L6 fX10_number_j51_6
      rw [show (48 : Int32) = nI 48 from rfl, show (57 : Int32) = nI 57 from rfl, m_isAt x1 hy (by omega) hn (by omega) (by omega), q_R, hc, if_neg (show ¬ bI true = 0 by decide), x1.1, x3, pk_sub k1, nI_1, q_lt, q_lt]
      by_cases c3 : 3 ≤ k - B
      · rw [if_pos (show (3 : Int32) ≤ nI (k - B) from nI_le (a := 3) c3 (by omega))]
        exact ⟨_, rfl, by rw [y1]; exact congrArg (fun x => nI (vN b B x)) (by omega), y2, y3, (Mg.u (by omega)).mp x1 (by rw [va_s, pk_us]), by show va_up V' 22 (upd (V' 22) 10 (nI (k + 1))) 22 12 = nI B; rw [va_s, pk_un (by omega)]; exact x3, x2.tr (Mg.u (by omega))⟩
      · have hbk : b k = nI (ubN (b k)) := by
          rcases ub_c (hy k (by omega)) with ⟨a, d⟩ | ⟨a, d⟩
          · omega
          · exact a
        rw [if_neg (show ¬ (3 : Int32) ≤ nI (k - B) from nI_ge (b := 3) (by omega) (by omega)), q_rd (show k < 400 by omega) (by omega), nI_clamp (by omega), x1.2.2 k (by omega)]
        refine ⟨_, rfl, ?_, y2, y3, (Mg.u (by omega)).mp x1 (by rw [va_s, pk_us]), by show va_up V' 22 (upd (V' 22) 10 (nI (k + 1))) 22 12 = nI B; rw [va_s, pk_un (by omega)]; exact x3, x2.tr (Mg.u (by omega))⟩
        show 10 * u3 + b k - nI 48 = nI (vN b B (min 3 (k + 1 - B)))
        have hv := vN_b (b := b) (n := n) (B := B) (fun k a c => ru_in a c) (k - B) (by omega) (by have hD3 : ru b n 48 57 B = di_ b n B := rfl; omega)
        rw [y1, hbk, show min 3 (k - B) = k - B by omega, show min 3 (k + 1 - B) = (k - B) + 1 by omega, q_mulL, nI_add, pk_sub (by omega)]
        show _ = nI (10 * vN b B (k - B) + (ubN (b (B + (k - B))) - 48))
        rw [show B + (k - B) = k by omega]
        exact congrArg nI (by omega))
    (fun s => s.2.2.2 = nI (vN b B (min 3 (di_ b n B - B))) ∧ s.2.1 = (0 : Int32) ∧ s.2.2.1 = (-1) ∧ MP s.1 b n (di_ b n B) ∧ s.1 22 12 = nI B ∧ Mg V s.1)
    (by
      rintro ⟨V', u1, u2, u3⟩ ⟨y1, y2, y3, x1, x3, x2⟩ hout
      unfold iX10_number_L6 fX10_number_L6
      dsimp only at y1 y2 y3 x1 x2 x3 ⊢
      rw [show (48 : Int32) = nI 48 from rfl, show (57 : Int32) = nI 57 from rfl, m_isAt x1 hy hD hn (by omega) (by omega), q_R, hout, if_pos (show bI false = 0 from rfl)]
      exact ⟨_, rfl, y1, y2, y3, x1, x3, x2⟩)
  obtain ⟨V', u1, u2, u3⟩ := r
  dsimp only at a0 a1 a2 a3 a4 a5
  rw [e, q_R]
  show ∃ V'_1, (if V' 22 10 = V' 22 12 then some ((-1 : Int32), V') else if (3 : Int32) < V' 22 10 - V' 22 12 then some ((-1 : Int32), V') else if u3 < u1 then some ((-1 : Int32), V') else if u3 ≤ u2 then some (u3, V') else some ((-1 : Int32), V')) = _ ∧ _
  rw [a3.1, a4, pk_sub hG, a0, a1, a2]
  by_cases c1 : nI (di_ b n B) = nI B
  · rw [if_pos c1]
    exact ⟨_, rfl, a3, a4, a5⟩
  · rw [if_neg c1]
    by_cases c2 : (3 : Int32) < nI (di_ b n B - B)
    · rw [if_pos c2]
      exact ⟨_, rfl, a3, a4, a5⟩
    · rw [if_neg c2]
      have hv := vN_b (b := b) (n := n) (B := B) (fun k a c => ru_in a c) (min 3 (di_ b n B - B)) (by omega) (by omega)
      have hv2 : 10 ^ (min 3 (di_ b n B - B)) ≤ 10 ^ 3 := Nat.pow_le_pow_right (by omega) (by omega)
      rw [if_neg (nI_pos (by omega))]
      by_cases c4 : nI (vN b B (min 3 (di_ b n B - B))) ≤ -1
      · exact absurd c4 (by
          intro h
          have := Int32.le_iff_toInt_le.1 h
          rw [nI_toInt (by omega)] at this
          have h9 : (-1 : Int32).toInt = -1 := rfl
          omega)
      · rw [if_neg c4]
        exact ⟨_, rfl, a3, a4, a5⟩
end MT
section CT
variable {V V1 : VT} {b : Nat → Int32} {n p : Nat} {A : AT}
theorem c_isNumber0 (hT : TK V b n p) : fX8_isNumber V 0 (-1) = some 0 := by
  obtain ⟨h1, h2, h3, h4, h5, h6⟩ := hT
  unfold fX8_isNumber
  rw [h4]
  by_cases k2 : kd b n (sk b n p) = 2
  · have hv := cN_le (b := b) (B := sk b n p) (di_ b n (sk b n p) - sk b n p)
    rw [k2, if_pos (show nI 2 = 2 from rfl), h6 k2]
    by_cases c1 : (3 : Int32) < V 1 4 - V 1 3
    · rw [if_pos c1, q_zo0]
    · rw [if_neg c1, if_neg (nI_pos (by omega)), if_pos (Int32.lt_iff_toInt_lt.2 (by rw [nI_toInt (by omega)]; have h9 : (-1 : Int32).toInt = -1 := rfl; omega)), q_zo0]
  · have hk9 := kd_lt (b := b) (n := n) (p := sk b n p)
    rw [if_neg (show ¬ nI (kd b n (sk b n p)) = 2 from fun e => k2 ((nI_eq (b := 2) (by omega) (by omega)).1 e)), q_zo0]
theorem c_setD {h k : Nat} {v : Int32} (hh : h < 10) (hk : k < 5) : fX6_setDeed V 3 (nI h) (nI k) v = some (va_up V 28 (upd (V 28) (5 * h + k) v)) := by
  unfold fX6_setDeed
  rw [q_mul, nI_add, q_lt, if_neg (nI_pos (by omega)), if_neg (nI_ge (by omega) (by omega)), q_rd (by omega) (by omega), nI_clamp (by omega), show h * 5 + k = 5 * h + k by omega, q_lt]
theorem c_dn0 (hT : TK V1 b n p) (hp : p ≤ n) (hn : n ≤ 400) {H k w hi f : Nat} (hw : w < 65) (hw2 : 16 ≤ w) (hh : hi < 2 ^ 31) (h : wnP b n p w 0 hi = .inl f) : ∃ V', fX7_deedNumber V1 3 w (nI k) (nI hi) = some (0, V') ∧ V' 1 3 = nI f ∧ Tf V1 V' := by
  unfold wnP at h
  unfold fX7_deedNumber
  obtain ⟨V2, e2, t2, f2⟩ := c_takeWord hT hp hn hw hw2
  rw [e2, q_I, q_ifb]
  by_cases c1 : wdB b n (sk b n p) w = true
  · rw [if_pos c1] at h t2 ⊢
    by_cases c2 : nuB b n (sk b n (le_ b n (sk b n p))) 0 hi = true
    · rw [if_pos c2] at h; cases h
    · rw [if_neg c2] at h
      have h := Sum.inl.inj h
      rw [show fX8_isNumber V2 0 (nI hi) = _ from c_isNumber (lo := 0) t2 (le_le (sk_le hp)) hn (by omega) hh, q_R, q_ifb, if_neg c2, q_zo0]
      exact ⟨V2, rfl, by rw [← h]; exact t2.2.2.1, f2⟩
  · rw [if_neg c1] at h t2 ⊢
    rw [q_zo0]
    exact ⟨V2, rfl, by rw [← Sum.inl.inj h]; exact t2.2.2.1, f2⟩
theorem c_dn1 (hT : TK V1 b n p) (hp : p ≤ n) (hn : n ≤ 400) {H k w hi v q : Nat} (hw : w < 65) (hw2 : 16 ≤ w) (hh : hi < 2 ^ 31) (h3 : V1 3 4 = nI H) (hH : H < 10) (hk : k < 5) (h : wnP b n p w 0 hi = .inr (v, q)) : ∃ V' V2, fX7_deedNumber V1 3 w (nI k) (nI hi) = some (1, V') ∧ TK V' b n q ∧ Tf V1 V2 ∧ Tf (va_up V2 28 (upd (V2 28) (5 * H + k) (nI v))) V' := by
  unfold wnP at h
  unfold fX7_deedNumber
  obtain ⟨V2, e2, t2, f2⟩ := c_takeWord hT hp hn hw hw2
  rw [e2, q_I, q_ifb]
  by_cases c1 : wdB b n (sk b n p) w = true
  · rw [if_pos c1] at h t2 ⊢
    by_cases c2 : nuB b n (sk b n (le_ b n (sk b n p))) 0 hi = true
    · rw [if_pos c2] at h
      have h := Sum.inr.inj h
      have hq := congrArg Prod.snd h
      have hv := congrArg Prod.fst h
      dsimp only at hq hv
      have hL : le_ b n (sk b n p) ≤ n := le_le (sk_le hp)
      rw [show fX8_isNumber V2 0 (nI hi) = _ from c_isNumber (lo := 0) t2 hL hn (by omega) hh, q_R, q_ifb, if_pos c2, f2.1 3 (by omega), h3, nu_v t2 c2, c_setD hH hk, q_R]
      have t3 : TK (va_up V2 (28) (upd (V2 (28)) (5 * H + k) (nI (vl b n (sk b n (le_ b n (sk b n p))))))) b n (le_ b n (sk b n p)) := by
        unfold TK
        rw [va_n (by omega), va_n (by omega)]
        exact t2
      obtain ⟨V4, e4, t4, f4⟩ := nu_n t3 hL hn c2
      rw [e4, q_R, q_zo1]
      refine ⟨V4, V2, rfl, by rw [← hq]; exact t4, f2, ?_⟩
      rw [← hv]
      exact f4
    · rw [if_neg c2] at h; cases h
  · rw [if_neg c1] at h; cases h
/-- one number of a deed: the class's -/
theorem c_dn (hT : TK V1 b n p) (hp : p ≤ n) (hn : n ≤ 400) {H k w hi : Nat} (hw : w < 65) (hw2 : 16 ≤ w) (hh : hi < 2 ^ 31) (h3 : V 3 4 = nI H) (hH : H < 10) (hk : k < 5) {r : Nat → Int32} (hs : Ds V V1 H r) :
    (∃ f V', wnP b n p w 0 hi = .inl f ∧ fX7_deedNumber V1 3 w (nI k) (nI hi) = some (0, V') ∧ V' 1 3 = nI f ∧ Ds V V' H r) ∨
    (∃ v q V', wnP b n p w 0 hi = .inr (v, q) ∧ fX7_deedNumber V1 3 w (nI k) (nI hi) = some (1, V') ∧ TK V' b n q ∧ 0 ≤ v ∧ v ≤ hi ∧ q ≤ n ∧ Ds V V' H (upd r k (nI v))) := by
  have h31 : V1 3 4 = nI H := by rw [hs.1 3 (by omega) (by omega)]; exact h3
  cases h : wnP b n p w 0 hi with
  | inl f =>
    obtain ⟨V', e, a1, a2⟩ := c_dn0 (k := k) (H := H) hT hp hn hw hw2 hh h
    exact .inl ⟨f, V', rfl, e, a1, hs.t a2⟩
  | inr vq =>
    obtain ⟨v, q⟩ := vq
    obtain ⟨V', V2, e, a1, a2, a3⟩ := c_dn1 (k := k) (H := H) hT hp hn hw hw2 hh h31 hH hk h
    obtain ⟨x1, x2, x3⟩ := wnP_b hp h
    exact .inr ⟨v, q, V', rfl, e, a1, x1, x2, x3, ((hs.t a2).u hk).t a3⟩
theorem c_dD (hT : TK V1 b n p) (hp : p ≤ n) (hn : n ≤ 400) {H w : Nat} (hw : w < 65) (hw2 : 16 ≤ w) (h3 : V 3 4 = nI H) (hH : H < 10) {r : Nat → Int32} (hs : Ds V V1 H r) :
    (∃ f V', wnD b n p w H = .inl f ∧ fX7_deedNumber V1 3 w 2 (nI H - 1) = some (0, V') ∧ V' 1 3 = nI f ∧ Ds V V' H r) ∨
    (∃ v q V', wnD b n p w H = .inr (v, q) ∧ fX7_deedNumber V1 3 w 2 (nI H - 1) = some (1, V') ∧ TK V' b n q ∧ v < H ∧ q ≤ n ∧ Ds V V' H (upd r 2 (nI v))) := by
  unfold wnD
  by_cases h0 : H = 0
  · subst h0
    left
    unfold fX7_deedNumber
    obtain ⟨V2, e2, t2, f2⟩ := c_takeWord hT hp hn hw hw2
    rw [if_pos rfl, e2, q_I, q_ifb]
    by_cases c1 : wdB b n (sk b n p) w = true
    · rw [if_pos c1, if_pos c1]
      rw [if_pos c1] at t2
      rw [show fX8_isNumber V2 0 (nI 0 - 1) = _ from c_isNumber0 t2, q_R, if_pos rfl, q_zo0]
      exact ⟨_, V2, rfl, rfl, t2.2.2.1, hs.t f2⟩
    · rw [if_neg c1, if_neg c1]
      rw [if_neg c1] at t2
      rw [q_zo0]
      exact ⟨_, V2, rfl, rfl, t2.2.2.1, hs.t f2⟩
  · rw [if_neg h0, show nI H - 1 = nI (H - 1) from pk_sub (b := 1) (by omega)]
    rcases c_dn hT hp hn (k := 2) (w := w) (hi := H - 1) hw hw2 (by omega) h3 hH (by omega) hs with ⟨f, V', w4, e4, b4, s4⟩ | ⟨v, q, V', w4, e4, t4, l4, u4, p4, s4⟩
    · exact .inl ⟨f, V', w4, e4, b4, s4⟩
    · exact .inr ⟨v, q, V', w4, e4, t4, by omega, p4, s4⟩
theorem ds_end (hR : RS V 3 A) {r : Nat → Nat} {w : Nat → Int32} (hs : Ds V V1 (aS A 1) w) (hw : ∀ k, k < 5 → k ≠ 2 → w k = nI (r k)) (hw2 : w 2 = onI (r 2)) (h5 : r 5 = 0) : RS (va_up V1 3 (upd (V1 3) 4 (nI (aS A 1 + 1)))) 3 (dsA A r) := by
  obtain ⟨⟨s0, s1, s2, s3, s4, s5, s6, s7, s8, s9⟩, hh, hd, hd2, hl⟩ := hR
  have e3 : V1 3 = V 3 := hs.1 3 (by omega) (by omega)
  refine ⟨?_, ?_, ?_, ?_, ?_⟩
  · rw [va_s, e3, pk_us, pk_un (by omega), pk_un (by omega), pk_un (by omega), pk_un (by omega), pk_un (by omega), pk_un (by omega), pk_un (by omega), pk_un (by omega), pk_un (by omega), ds_1, ds_S (by omega), ds_S (by omega), ds_so h5, ds_S (by omega), ds_S (by omega), ds_S (by omega), ds_S (by omega), ds_aw, ds_Z]
    exact ⟨s0, rfl, s2, s3, s4, s5, s6, s7, s8, s9⟩
  · rw [ds_S (by omega), ds_H, va_n (by omega), hs.1 _ (by omega) (by omega)]; exact hh
  · intro h k h1 h2 h3
    rw [ds_1] at h1
    rw [va_n (by omega), ds_D]
    show V1 28 (5 * h + k) = _
    rw [hs.2.2]
    by_cases e : h = aS A 1
    · rw [if_pos e, if_pos (by omega), show 5 * h + k - 5 * aS A 1 = k by omega]; exact hw k h2 h3
    · rw [if_neg e, if_neg (by omega)]; exact hd h k (by omega) h2 h3
  · intro h h1
    rw [ds_1] at h1
    rw [va_n (by omega), ds_D]
    show V1 28 (5 * h + 2) = _
    rw [hs.2.2]
    by_cases e : h = aS A 1
    · rw [if_pos e, if_pos (by omega), show 5 * h + 2 - 5 * aS A 1 = 2 by omega]; exact hw2
    · rw [if_neg e, if_neg (by omega)]; exact hd2 h (by omega)
  · rw [ds_S (by omega), ds_S (by omega), ds_L, va_n (by omega), hs.1 _ (by omega) (by omega)]; exact hl
theorem WA.ds (hW : WA A) (h8 : aS A 1 < 10) {a c o : Nat} (ha : a ≤ 23) (hc : c ≤ 23) (ho : o ≤ aS A 1) : WA (dsA A (rw6 a c o)) := by
  obtain ⟨⟨a0, a1, a2, a3, a4, a5, a6, a7, a8⟩, b, c, d⟩ := hW
  refine ⟨⟨?_, ?_, ?_, ?_, ?_, ?_, ?_, ?_, ?_⟩, ?_, ?_, ?_⟩
  · rw [ds_S (by omega)]; exact a0
  · rw [ds_1]; omega
  · rw [ds_S (by omega)]; exact a2
  · rw [ds_S (by omega)]; exact a3
  · rw [ds_S (by omega)]; exact a4
  · rw [ds_S (by omega)]; exact a5
  · rw [ds_S (by omega)]; exact a6
  · rw [ds_S (by omega), ds_1, a7]
    show _ = fb_sm (fun d => pc8 (aD (dsA A (rw6 a _ o)) d 4)) (aS A 1) + pc8 (aD (dsA A (rw6 a _ o)) (aS A 1) 4)
    rw [ds_D, if_pos rfl, show pc8 (rw6 a _ o 4) = 0 from (by show pc8 0 = 0; decide), Nat.add_zero]
    exact fb_sm_cong (fun d hd => by rw [ds_D, if_neg (by omega)])
  · rw [ds_S (by omega), ds_S (by omega)]; exact a8
  · rw [ds_S (by omega), ds_H]; exact b
  · intro h' hh'
    rw [ds_1] at hh'
    simp only [ds_D]
    by_cases e : h' = aS A 1
    · simp only [if_pos e]
      rw [e]
      exact ⟨ha, hc, ho, by show 0 < 256; omega, by show 0 < 256; omega, by show 0 ≤ 1; omega⟩
    · simp only [if_neg e]; exact c h' (by omega)
  · rw [ds_S (by omega), ds_L]; exact d
theorem Ds.fs {V V' : VT} {H : Nat} {w : Nat → Int32} (h : Ds V V' H w) : Fs V V' := ⟨fun q a _ _ c => h.1 q a c, h.2.1⟩
theorem c_dfail {f : Nat} {w : Nat → Int32} {H : Nat} (hs : Ds V V1 H w) (h13 : V1 1 3 = nI f) : ∃ V', fX7_readDeed_j60 V1 3 = some (0, V') ∧ V' 1 3 = nI f ∧ Fs V V' := by
  unfold fX7_readDeed_j60 fX7_readDeed_j61
  rw [if_pos rfl, q_lt, q_zo0]
  exact ⟨_, rfl, by rw [va_n (by omega)]; exact h13, hs.fs.tr (Fs.u (by omega))⟩
theorem c_readDeed (hT : TK V b n p) (hp : p ≤ n) (hn : n ≤ 400) (hR : RS V 3 A) (hW : WA A) (h8 : aS A 1 < 10) :
    (∃ f V', deP b n (aS A 1) p = .inl f ∧ fX7_readDeed V 3 = some (0, V') ∧ V' 1 3 = nI f ∧ Fs V V') ∨
    (∃ r q V', deP b n (aS A 1) p = .inr (r, q) ∧ fX7_readDeed V 3 = some (1, V') ∧ TK V' b n q ∧ q ≤ n ∧ RS V' 3 (dsA A r) ∧ WA (dsA A r) ∧ Fs V V') := by
  have h3 := hR.1.2.1
  have hs0 : Ds V V (aS A 1) (fun k => V 28 (5 * aS A 1 + k)) := ⟨fun _ _ _ => rfl, rfl, fun j => by
    by_cases c : 5 * aS A 1 ≤ j ∧ j < 5 * aS A 1 + 5
    · rw [if_pos c]; exact congrArg _ (by omega)
    · rw [if_neg c]⟩
  obtain ⟨V0, V2, V3, e1, g1, e2, g2, e3, t3, s3⟩ : ∃ V0 V2 V3, fX6_setDeed V 3 (nI (aS A 1)) 2 (-1) = some V0 ∧ V0 3 4 = nI (aS A 1) ∧ fX6_setDeed V0 3 (nI (aS A 1)) 3 0 = some V2 ∧ V2 3 4 = nI (aS A 1) ∧ fX6_setDeed V2 3 (nI (aS A 1)) 4 0 = some V3 ∧ TK V3 b n p ∧ Ds V V3 (aS A 1) (upd (upd (upd (fun k => V 28 (5 * aS A 1 + k)) 2 (-1)) 3 0) 4 0) :=
    ⟨_, _, _, c_setD (k := 2) h8 (by omega), by rw [va_n (by omega)]; exact h3, c_setD (k := 3) h8 (by omega), by rw [va_n (by omega), va_n (by omega)]; exact h3, c_setD (k := 4) h8 (by omega), ((hT.u (by omega) (by omega)).u (by omega) (by omega)).u (by omega) (by omega), ((hs0.u (by omega)).u (by omega)).u (by omega)⟩
  unfold fX7_readDeed
  rw [h3, e1, q_R, g1, e2, q_R, g2, e3, q_R]
  clear e1 e2 e3 g1 g2 hs0 hT
  rcases c_dn t3 hp hn (k := 0) (w := 32) (hi := 23) (by omega) (by omega) (by omega) h3 h8 (by omega) s3 with ⟨f, V4, w4, e4, b4, s4⟩ | ⟨va, qa, V4, w4, e4, t4, l4, u4, p4, s4⟩
  · have e4 : fX7_deedNumber V3 3 32 0 23 = _ := e4
    obtain ⟨V', e, x1, x2⟩ := c_dfail s4 b4
    rw [e4, q_I, if_pos rfl, e]
    exact .inl ⟨f, V', by simp only [deP, w4, sb], rfl, x1, x2⟩
  have e4 : fX7_deedNumber V3 3 32 0 23 = _ := e4
  rw [e4, q_I, if_neg (show ¬ (1 : Int32) = 0 by decide)]
  clear e4 t3 s3
  rcases c_dn t4 p4 hn (k := 1) (w := 40) (hi := 23) (by omega) (by omega) (by omega) h3 h8 (by omega) s4 with ⟨f, V5, w5, e5, b5, s5⟩ | ⟨vc, qc, V5, w5, e5, t5, l5, u5, p5, s5⟩
  · have e5 : fX7_deedNumber V4 3 40 1 23 = _ := e5
    obtain ⟨V', e, x1, x2⟩ := c_dfail s5 b5
    rw [e5, q_I, if_pos rfl, e]
    exact .inl ⟨f, V', by simp only [deP, w4, w5, sb], rfl, x1, x2⟩
  have e5 : fX7_deedNumber V4 3 40 1 23 = _ := e5
  rw [e5, q_I, if_neg (show ¬ (1 : Int32) = 0 by decide)]
  clear e5 t4 s4
  unfold fX7_readDeed_j61
  have h38 : V5 3 4 = nI (aS A 1) := by rw [s5.1 3 (by omega) (by omega)]; exact h3
  rw [if_neg (show ¬ (1 : Int32) = 0 by decide), c_isWord t5 p5 hn (by omega) (by omega), q_R, q_ifb]
  by_cases c9 : wdB b n (sk b n qc) 41 = true
  · rw [if_pos c9, h38]
    rcases c_dD t5 p5 hn (w := 41) (by omega) (by omega) h3 h8 s5 with ⟨f, V9, w9, e9, b9, s9⟩ | ⟨vg, qg, V9, w9, e9, t9, u9, p9, s9⟩
    · rw [e9, q_I, q_lt, q_zo0]
      exact .inl ⟨f, _, by simp only [deP, w4, w5, w9, sb, if_pos c9], rfl, by rw [va_n (by omega)]; exact b9, s9.fs.tr (Fs.u (by omega))⟩
    · have h39 : V9 3 4 = nI (aS A 1) := by rw [s9.1 3 (by omega) (by omega)]; exact h3
      rw [e9, q_I, h39, nI_1, q_lt, q_zo1]
      refine .inr ⟨rw6 va vc (vg + 1), qg, _, by simp only [deP, w4, w5, w9, sb, if_pos c9], rfl, t9.u (by omega) (by omega), p9, ds_end hR s9 ?_ ?_ rfl, hW.ds h8 u4 u5 (by omega), s9.fs.tr (Fs.u (by omega))⟩
      · intro k hk hk2
        rcases (by omega : k = 0 ∨ k = 1 ∨ k = 3 ∨ k = 4) with e | e | e | e <;> subst e <;> rfl
      · rw [pk_us]; rfl
  · rw [if_neg c9, h38, nI_1, q_lt, q_zo1]
    refine .inr ⟨rw6 va vc 0, sk b n qc, _, by simp only [deP, w4, w5, sb, if_neg c9], rfl, (t5.sk p5).u (by omega) (by omega), sk_le p5, ds_end hR s5 ?_ rfl rfl, hW.ds h8 u4 u5 (by omega), s5.fs.tr (Fs.u (by omega))⟩
    intro k hk hk2
    rcases (by omega : k = 0 ∨ k = 1 ∨ k = 3 ∨ k = 4) with e | e | e | e <;> subst e <;> rfl
end CT
