/-! ===== the street's text: what both sides read ===== -/
def sb {α β : Type} (x : Nat ⊕ α) (k : α → Nat ⊕ β) : Nat ⊕ β := match x with | .inl f => .inl f | .inr a => k a
/-- a word and a number: the number and where it ends, or where it stands still -/
def wnP (b : Nat → Int32) (n p w lo hi : Nat) : Nat ⊕ (Nat × Nat) :=
  if wdB b n (sk b n p) w = true then (if nuB b n (sk b n (le_ b n (sk b n p))) lo hi = true then .inr (vl b n (sk b n (le_ b n (sk b n p))), di_ b n (sk b n (le_ b n (sk b n p)))) else .inl (sk b n (le_ b n (sk b n p)))) else .inl (sk b n p)
theorem wnP_b {b : Nat → Int32} {n p w lo hi v q : Nat} (hp : p ≤ n) (h : wnP b n p w lo hi = .inr (v, q)) : lo ≤ v ∧ v ≤ hi ∧ q ≤ n := by
  unfold wnP at h
  by_cases c1 : wdB b n (sk b n p) w = true
  · rw [if_pos c1] at h
    by_cases c2 : nuB b n (sk b n (le_ b n (sk b n p))) lo hi = true
    · rw [if_pos c2] at h
      obtain ⟨a1, a2, a3, a4, a5, a6⟩ := nu_k c2
      have h := Sum.inr.inj h
      have hq := congrArg Prod.snd h
      have hv := congrArg Prod.fst h
      dsimp only at hq hv
      subst hq hv
      exact ⟨a3, a4, di_le (sk_le (le_le (sk_le hp)))⟩
    · rw [if_neg c2] at h; cases h
  · rw [if_neg c1] at h; cases h
def rw8 (a c d e f g : Nat) : Nat → Nat := fun k => if k = 0 then a else if k = 1 then c else if k = 2 then d else if k = 3 then e else if k = 4 then f else if k = 5 then g else 0
def hoP (b : Nat → Int32) (n p : Nat) : Nat ⊕ ((Nat → Nat) × Nat) :=
  sb (wnP b n p 31 0 23) fun a => sb (wnP b n a.2 35 0 23) fun c => sb (wnP b n c.2 36 c.1 23) fun d => sb (wnP b n d.2 37 0 23) fun e => sb (wnP b n e.2 38 0 24) fun f =>
    if wdB b n (sk b n f.2) 39 = true then sb (wnP b n f.2 39 0 9) fun g => .inr (rw8 a.1 c.1 d.1 e.1 f.1 g.1, g.2) else .inr (rw8 a.1 c.1 d.1 e.1 f.1 0, sk b n f.2)
/-- a house more -/
def hsA (A : AT) (r : Nat → Nat) : AT := (up1 A.1 0 (aS A 0 + 1), (fun h q => if h = aS A 0 then r q else aH A h q), A.2.2)
theorem hs_S {A : AT} {r : Nat → Nat} {q : Nat} (hq : q ≠ 0) : aS (hsA A r) q = aS A q := if_neg hq
theorem hs_0 {A : AT} {r : Nat → Nat} : aS (hsA A r) 0 = aS A 0 + 1 := rfl
theorem hs_H {A : AT} {r : Nat → Nat} {h q : Nat} : aH (hsA A r) h q = if h = aS A 0 then r q else aH A h q := rfl
theorem hs_D {A : AT} {r : Nat → Nat} : aD (hsA A r) = aD A := rfl
theorem hs_L {A : AT} {r : Nat → Nat} : aL (hsA A r) = aL A := rfl
theorem hs_Z {A : AT} {r : Nat → Nat} : aZ (hsA A r) = aZ A := rfl
theorem hs_so {A : AT} {r : Nat → Nat} : so (hsA A r) = so A := rfl
theorem hs_aw {A : AT} {r : Nat → Nat} (h7 : r 7 = 0) : bs (aw (hsA A r)) (aS A 0 + 1) = bs (aw A) (aS A 0) := by
  rw [bs_s, show aw (hsA A r) (aS A 0) = false from decide_eq_false (by rw [hs_H, if_pos rfl, h7]; omega)]
  rw [show bs (aw (hsA A r)) (aS A 0) = bs (aw A) (aS A 0) from bs_cong (fun k hk => by unfold aw; rw [hs_H, if_neg (by omega)])]
  simp
/-- a row of houses, one of them being written -/
def Hs (V V' : VT) (H : Nat) (w : Nat → Int32) : Prop := (∀ q, q ≠ 1 → q ≠ 27 → V' q = V q) ∧ V' 1 1 = V 1 1 ∧ ∀ j, V' 27 j = if 7 * H ≤ j ∧ j < 7 * H + 7 then w (j - 7 * H) else V 27 j
theorem Hs.t {V V1 V2 : VT} {H : Nat} {w : Nat → Int32} (h : Hs V V1 H w) (t : Tf V1 V2) : Hs V V2 H w := ⟨fun q a c => (t.1 q a).trans (h.1 q a c), t.2.trans h.2.1, fun j => by rw [t.1 27 (by omega)]; exact h.2.2 j⟩
theorem Hs.u {V V1 : VT} {H k : Nat} {w : Nat → Int32} {x : Int32} (h : Hs V V1 H w) (hk : k < 7) : Hs V (va_up V1 27 (upd (V1 27) (7 * H + k) x)) H (upd w k x) := by
  refine ⟨fun q a c => by rw [va_n c]; exact h.1 q a c, by rw [va_n (by omega)]; exact h.2.1, fun j => ?_⟩
  rw [va_s]
  by_cases e : j = 7 * H + k
  · rw [e, pk_us, if_pos (by omega), show 7 * H + k - 7 * H = k by omega, pk_us]
  · rw [pk_un e, h.2.2 j]
    by_cases c : 7 * H ≤ j ∧ j < 7 * H + 7
    · rw [if_pos c, if_pos c, pk_un (by omega)]
    · rw [if_neg c, if_neg c]
section CT
variable {V V1 : VT} {b : Nat → Int32} {n p : Nat} {A : AT}
theorem c_hn0 (hT : TK V1 b n p) (hp : p ≤ n) (hn : n ≤ 400) {H k w lo hi f : Nat} (hw : w < 65) (hw2 : 16 ≤ w) (hl : lo < 2 ^ 31) (hh : hi < 2 ^ 31) (h : wnP b n p w lo hi = .inl f) : ∃ V', fX7_houseNumber V1 3 w (nI k) (nI lo) (nI hi) = some (0, V') ∧ V' 1 3 = nI f ∧ Tf V1 V' := by
  unfold wnP at h
  unfold fX7_houseNumber
  obtain ⟨V2, e2, t2, f2⟩ := c_takeWord hT hp hn hw hw2
  rw [e2, q_I, q_ifb]
  by_cases c1 : wdB b n (sk b n p) w = true
  · rw [if_pos c1] at h t2 ⊢
    by_cases c2 : nuB b n (sk b n (le_ b n (sk b n p))) lo hi = true
    · rw [if_pos c2] at h; cases h
    · rw [if_neg c2] at h
      have h := Sum.inl.inj h
      rw [c_isNumber t2 (le_le (sk_le hp)) hn hl hh, q_R, q_ifb, if_neg c2, q_zo0]
      exact ⟨V2, rfl, by rw [← h]; exact t2.2.2.1, f2⟩
  · rw [if_neg c1] at h t2 ⊢
    rw [q_zo0]
    exact ⟨V2, rfl, by rw [← Sum.inl.inj h]; exact t2.2.2.1, f2⟩
theorem c_hn1 (hT : TK V1 b n p) (hp : p ≤ n) (hn : n ≤ 400) {H k w lo hi v q : Nat} (hw : w < 65) (hw2 : 16 ≤ w) (hl : lo < 2 ^ 31) (hh : hi < 2 ^ 31) (h3 : V1 3 3 = nI H) (hH : H < 8) (hk : k < 7) (h : wnP b n p w lo hi = .inr (v, q)) : ∃ V' V2, fX7_houseNumber V1 3 w (nI k) (nI lo) (nI hi) = some (1, V') ∧ TK V' b n q ∧ Tf V1 V2 ∧ Tf (va_up V2 27 (upd (V2 27) (7 * H + k) (nI v))) V' := by
  unfold wnP at h
  unfold fX7_houseNumber
  obtain ⟨V2, e2, t2, f2⟩ := c_takeWord hT hp hn hw hw2
  rw [e2, q_I, q_ifb]
  by_cases c1 : wdB b n (sk b n p) w = true
  · rw [if_pos c1] at h t2 ⊢
    by_cases c2 : nuB b n (sk b n (le_ b n (sk b n p))) lo hi = true
    · rw [if_pos c2] at h
      have h := Sum.inr.inj h
      have hq := congrArg Prod.snd h
      have hv := congrArg Prod.fst h
      dsimp only at hq hv
      have hL : le_ b n (sk b n p) ≤ n := le_le (sk_le hp)
      rw [c_isNumber t2 hL hn hl hh, q_R, q_ifb, if_pos c2, f2.1 3 (by omega), h3, nu_v t2 c2, c_setRaw hH hk, q_R]
      have t3 : TK (va_up V2 (18 + 3 * 3 + 0) (upd (V2 (18 + 3 * 3 + 0)) (7 * H + k) (nI (vl b n (sk b n (le_ b n (sk b n p))))))) b n (le_ b n (sk b n p)) := by
        unfold TK
        rw [va_n (by omega), va_n (by omega)]
        exact t2
      obtain ⟨V4, e4, t4, f4⟩ := nu_n t3 hL hn c2
      rw [e4, q_R, q_zo1]
      refine ⟨V4, V2, rfl, by rw [← hq]; exact t4, f2, ?_⟩
      rw [← hv]
      exact f4
    · rw [if_neg c2] at h; cases h
  · rw [if_neg c1] at h; cases h
/-- one number of a house: the class's -/
theorem c_hn (hT : TK V1 b n p) (hp : p ≤ n) (hn : n ≤ 400) {H k w lo hi : Nat} (hw : w < 65) (hw2 : 16 ≤ w) (hl : lo < 2 ^ 31) (hh : hi < 2 ^ 31) (h3 : V 3 3 = nI H) (hH : H < 8) (hk : k < 7) {r : Nat → Int32} (hs : Hs V V1 H r) :
    (∃ f V', wnP b n p w lo hi = .inl f ∧ fX7_houseNumber V1 3 w (nI k) (nI lo) (nI hi) = some (0, V') ∧ V' 1 3 = nI f ∧ Hs V V' H r) ∨
    (∃ v q V', wnP b n p w lo hi = .inr (v, q) ∧ fX7_houseNumber V1 3 w (nI k) (nI lo) (nI hi) = some (1, V') ∧ TK V' b n q ∧ lo ≤ v ∧ v ≤ hi ∧ q ≤ n ∧ Hs V V' H (upd r k (nI v))) := by
  have h31 : V1 3 3 = nI H := by rw [hs.1 3 (by omega) (by omega)]; exact h3
  cases h : wnP b n p w lo hi with
  | inl f =>
    obtain ⟨V', e, a1, a2⟩ := c_hn0 (k := k) (H := H) hT hp hn hw hw2 hl hh h
    exact .inl ⟨f, V', rfl, e, a1, hs.t a2⟩
  | inr vq =>
    obtain ⟨v, q⟩ := vq
    obtain ⟨V', V2, e, a1, a2, a3⟩ := c_hn1 (k := k) (H := H) hT hp hn hw hw2 hl hh h31 hH hk h
    obtain ⟨x1, x2, x3⟩ := wnP_b hp h
    exact .inr ⟨v, q, V', rfl, e, a1, x1, x2, x3, ((hs.t a2).u hk).t a3⟩
theorem hs_end (hR : RS V 3 A) {r : Nat → Nat} {w : Nat → Int32} (hs : Hs V V1 (aS A 0) w) (hw : ∀ k, k < 7 → w k = nI (r k)) (h7 : r 7 = 0) : RS (va_up V1 3 (upd (V1 3) 3 (nI (aS A 0 + 1)))) 3 (hsA A r) := by
  obtain ⟨⟨s0, s1, s2, s3, s4, s5, s6, s7, s8, s9⟩, hh, hd, hd2, hl⟩ := hR
  have e3 : V1 3 = V 3 := hs.1 3 (by omega) (by omega)
  refine ⟨?_, ?_, ?_, ?_, ?_⟩
  · rw [va_s, e3, pk_us, pk_un (by omega), pk_un (by omega), pk_un (by omega), pk_un (by omega), pk_un (by omega), pk_un (by omega), pk_un (by omega), pk_un (by omega), pk_un (by omega), hs_0, hs_S (by omega), hs_S (by omega), hs_aw h7, hs_S (by omega), hs_S (by omega), hs_S (by omega), hs_S (by omega), hs_so, hs_Z]
    exact ⟨rfl, s1, s2, s3, s4, s5, s6, s7, s8, s9⟩
  · intro h k h1 h2
    rw [hs_0] at h1
    rw [va_n (by omega), hs_H]
    show V1 27 (7 * h + k) = _
    rw [hs.2.2]
    by_cases e : h = aS A 0
    · rw [if_pos e, if_pos (by omega), show 7 * h + k - 7 * aS A 0 = k by omega]; exact hw k h2
    · rw [if_neg e, if_neg (by omega)]; exact hh h k (by omega) h2
  · rw [hs_S (by omega), hs_D, va_n (by omega), hs.1 _ (by omega) (by omega)]; exact hd
  · rw [hs_S (by omega), hs_D, va_n (by omega), hs.1 _ (by omega) (by omega)]; exact hd2
  · rw [hs_S (by omega), hs_S (by omega), hs_L, va_n (by omega), hs.1 _ (by omega) (by omega)]; exact hl
theorem WA.hs (hW : WA A) (h8 : aS A 0 < 8) {r : Nat → Nat} (hr : r 0 ≤ 23 ∧ r 1 ≤ r 2 ∧ r 2 ≤ 23 ∧ r 3 ≤ 23 ∧ r 4 ≤ 24 ∧ r 5 ≤ 9 ∧ r 6 ≤ 3 ∧ r 7 ≤ 1) : WA (hsA A r) := by
  obtain ⟨⟨a0, a1, a2, a3, a4, a5, a6, a7, a8⟩, b, c, d⟩ := hW
  refine ⟨⟨?_, ?_, ?_, ?_, ?_, ?_, ?_, ?_, ?_⟩, ?_, ?_, ?_⟩
  · rw [hs_0]; omega
  · rw [hs_S (by omega)]; exact a1
  · rw [hs_S (by omega)]; exact a2
  · rw [hs_S (by omega)]; exact a3
  · rw [hs_S (by omega)]; exact a4
  · rw [hs_S (by omega)]; exact a5
  · rw [hs_S (by omega)]; exact a6
  · rw [hs_S (by omega), hs_S (by omega), hs_D]; exact a7
  · rw [hs_S (by omega), hs_S (by omega)]; exact a8
  · intro h' hh'
    rw [hs_0] at hh'
    simp only [hs_H]
    by_cases e : h' = aS A 0
    · simp only [if_pos e]; exact hr
    · simp only [if_neg e]; exact b h' (by omega)
  · rw [hs_S (by omega), hs_D]; exact c
  · rw [hs_S (by omega), hs_L]; exact d
/-- what reading a line may write -/
def Fs (V V' : VT) : Prop := (∀ q, q ≠ 1 → q ≠ 3 → q ≠ 27 → q ≠ 28 → V' q = V q) ∧ V' 1 1 = V 1 1
theorem Fs.tr {V V1 V2 : VT} (h1 : Fs V V1) (h2 : Fs V1 V2) : Fs V V2 := ⟨fun q a c d e => (h2.1 q a c d e).trans (h1.1 q a c d e), h2.2.trans h1.2⟩
theorem Tf.fs {V V' : VT} (h : Tf V V') : Fs V V' := ⟨fun q a _ _ _ => h.1 q a, h.2⟩
theorem Fs.u {V : VT} {j : Nat} {f : Nat → Int32} (hj : j = 3 ∨ j = 27 ∨ j = 28) : Fs V (va_up V j f) := ⟨fun q a c d e => va_n (by omega), by rw [va_n (by omega)]⟩
theorem Hs.fs {V V' : VT} {H : Nat} {w : Nat → Int32} (h : Hs V V' H w) : Fs V V' := ⟨fun q a _ c _ => h.1 q a c, h.2.1⟩
theorem TK.u {V : VT} {b : Nat → Int32} {n p j : Nat} {f : Nat → Int32} (h : TK V b n p) (h1 : j ≠ 1) (h2 : j ≠ 23) : TK (va_up V j f) b n p := by
  unfold TK
  rw [va_n (fun e => h1 e.symm), va_n (fun e => h2 e.symm)]
  exact h
theorem TK.sk {V : VT} {b : Nat → Int32} {n p : Nat} (h : TK V b n p) (hp : p ≤ n) : TK V b n (sk b n p) := by
  unfold TK
  rw [sk_sk hp]
  exact h
theorem c_hfail {f : Nat} {w : Nat → Int32} {H : Nat} (hs : Hs V V1 H w) (h13 : V1 1 3 = nI f) : ∃ V', fX7_readHouse_j99 V1 3 = some (0, V') ∧ V' 1 3 = nI f ∧ Fs V V' := by
  unfold fX7_readHouse_j99 fX7_readHouse_j100
  rw [if_pos rfl, q_lt, q_zo0]
  exact ⟨_, rfl, by rw [va_n (by omega)]; exact h13, hs.fs.tr (Fs.u (by omega))⟩
theorem c_readHouse (hT : TK V b n p) (hp : p ≤ n) (hn : n ≤ 400) (hR : RS V 3 A) (hW : WA A) (h8 : aS A 0 < 8) :
    (∃ f V', hoP b n p = .inl f ∧ fX7_readHouse V 3 = some (0, V') ∧ V' 1 3 = nI f ∧ Fs V V') ∨
    (∃ r q V', hoP b n p = .inr (r, q) ∧ fX7_readHouse V 3 = some (1, V') ∧ TK V' b n q ∧ q ≤ n ∧ RS V' 3 (hsA A r) ∧ WA (hsA A r) ∧ Fs V V') := by
  have h3 := hR.1.1
  have hs0 : Hs V V (aS A 0) (fun k => V 27 (7 * aS A 0 + k)) := ⟨fun _ _ _ => rfl, rfl, fun j => by
    by_cases c : 7 * aS A 0 ≤ j ∧ j < 7 * aS A 0 + 7
    · rw [if_pos c]; exact congrArg _ (by omega)
    · rw [if_neg c]⟩
  obtain ⟨V2, V3, e2, e3, t3, s3⟩ : ∃ V2 V3, fX6_setHouse V 3 (nI (aS A 0)) 5 0 = some V2 ∧ fX6_setHouse V2 3 (nI (aS A 0)) 6 0 = some V3 ∧ TK V3 b n p ∧ Hs V V3 (aS A 0) (upd (upd (fun k => V 27 (7 * aS A 0 + k)) 5 0) 6 0) :=
    ⟨_, _, c_setRaw (k := 5) h8 (by omega), c_setRaw (k := 6) h8 (by omega), (hT.u (by omega) (by omega)).u (by omega) (by omega), (hs0.u (by omega)).u (by omega)⟩
  unfold fX7_readHouse
  rw [h3, q_lt, e2, q_R, e3, q_R]
  clear e2 e3 hs0 hT
  rcases c_hn t3 hp hn (k := 0) (w := 31) (lo := 0) (hi := 23) (by omega) (by omega) (by omega) (by omega) h3 h8 (by omega) s3 with ⟨f, V4, w4, e4, b4, s4⟩ | ⟨va, qa, V4, w4, e4, t4, l4, u4, p4, s4⟩
  · have e4 : fX7_houseNumber V3 3 31 0 0 23 = _ := e4
    obtain ⟨V', e, x1, x2⟩ := c_hfail s4 b4
    rw [e4, q_I, if_pos rfl, e]
    exact .inl ⟨f, V', by simp only [hoP, w4, sb], rfl, x1, x2⟩
  have e4 : fX7_houseNumber V3 3 31 0 0 23 = _ := e4
  rw [e4, q_I, if_neg (show ¬ (1 : Int32) = 0 by decide)]
  clear e4 t3 s3
  rcases c_hn t4 p4 hn (k := 1) (w := 35) (lo := 0) (hi := 23) (by omega) (by omega) (by omega) (by omega) h3 h8 (by omega) s4 with ⟨f, V5, w5, e5, b5, s5⟩ | ⟨vc, qc, V5, w5, e5, t5, l5, u5, p5, s5⟩
  · have e5 : fX7_houseNumber V4 3 35 1 0 23 = _ := e5
    obtain ⟨V', e, x1, x2⟩ := c_hfail s5 b5
    rw [e5, q_I, if_pos rfl, e]
    exact .inl ⟨f, V', by simp only [hoP, w4, w5, sb], rfl, x1, x2⟩
  have e5 : fX7_houseNumber V4 3 35 1 0 23 = _ := e5
  have o5 : fX6_ofHouse V5 3 (nI (aS A 0)) 1 = some (nI vc) := by
    have := c_ofRaw (V := V5) (i := 3) (h := aS A 0) (k := 1) h8 (by omega)
    rw [show V5 (18 + 3 * 3 + 0) (7 * aS A 0 + 1) = nI vc by
      show V5 27 (7 * aS A 0 + 1) = nI vc
      rw [s5.2.2, if_pos (by omega), show 7 * aS A 0 + 1 - 7 * aS A 0 = 1 by omega, pk_us]] at this
    exact this
  rw [e5, q_I, if_neg (show ¬ (1 : Int32) = 0 by decide), o5, q_R]
  clear e5 t4 s4 o5
  rcases c_hn t5 p5 hn (k := 2) (w := 36) (lo := vc) (hi := 23) (by omega) (by omega) (by omega) (by omega) h3 h8 (by omega) s5 with ⟨f, V6, w6, e6, b6, s6⟩ | ⟨vd, qd, V6, w6, e6, t6, l6, u6, p6, s6⟩
  · have e6 : fX7_houseNumber V5 3 36 2 (nI vc) 23 = _ := e6
    obtain ⟨V', e, x1, x2⟩ := c_hfail s6 b6
    rw [e6, q_I, if_pos rfl, e]
    exact .inl ⟨f, V', by simp only [hoP, w4, w5, w6, sb], rfl, x1, x2⟩
  have e6 : fX7_houseNumber V5 3 36 2 (nI vc) 23 = _ := e6
  rw [e6, q_I, if_neg (show ¬ (1 : Int32) = 0 by decide)]
  clear e6 t5 s5
  rcases c_hn t6 p6 hn (k := 3) (w := 37) (lo := 0) (hi := 23) (by omega) (by omega) (by omega) (by omega) h3 h8 (by omega) s6 with ⟨f, V7, w7, e7, b7, s7⟩ | ⟨ve, qe, V7, w7, e7, t7, l7, u7, p7, s7⟩
  · have e7 : fX7_houseNumber V6 3 37 3 0 23 = _ := e7
    obtain ⟨V', e, x1, x2⟩ := c_hfail s7 b7
    rw [e7, q_I, if_pos rfl, e]
    exact .inl ⟨f, V', by simp only [hoP, w4, w5, w6, w7, sb], rfl, x1, x2⟩
  have e7 : fX7_houseNumber V6 3 37 3 0 23 = _ := e7
  rw [e7, q_I, if_neg (show ¬ (1 : Int32) = 0 by decide)]
  clear e7 t6 s6
  rcases c_hn t7 p7 hn (k := 4) (w := 38) (lo := 0) (hi := 24) (by omega) (by omega) (by omega) (by omega) h3 h8 (by omega) s7 with ⟨f, V8, w8, e8, b8, s8⟩ | ⟨vf, qf, V8, w8, e8, t8, l8, u8, p8, s8⟩
  · have e8 : fX7_houseNumber V7 3 38 4 0 24 = _ := e8
    obtain ⟨V', e, x1, x2⟩ := c_hfail s8 b8
    rw [e8, q_I, if_pos rfl, e]
    exact .inl ⟨f, V', by simp only [hoP, w4, w5, w6, w7, w8, sb], rfl, x1, x2⟩
  have e8 : fX7_houseNumber V7 3 38 4 0 24 = _ := e8
  rw [e8, q_I, if_neg (show ¬ (1 : Int32) = 0 by decide)]
  clear e8 t7 s7
  unfold fX7_readHouse_j100
  have h38 : V8 3 3 = nI (aS A 0) := by rw [s8.1 3 (by omega) (by omega)]; exact h3
  rw [if_neg (show ¬ (1 : Int32) = 0 by decide), c_isWord t8 p8 hn (by omega) (by omega), q_R, q_ifb]
  by_cases c9 : wdB b n (sk b n qf) 39 = true
  · rw [if_pos c9]
    rcases c_hn t8 p8 hn (k := 5) (w := 39) (lo := 0) (hi := 9) (by omega) (by omega) (by omega) (by omega) h3 h8 (by omega) s8 with ⟨f, V9, w9, e9, b9, s9⟩ | ⟨vg, qg, V9, w9, e9, t9, l9, u9, p9, s9⟩
    · have e9 : fX7_houseNumber V8 3 39 5 0 9 = _ := e9
      rw [e9, q_I, q_lt, q_zo0]
      exact .inl ⟨f, _, by simp only [hoP, w4, w5, w6, w7, w8, w9, sb, if_pos c9], rfl, by rw [va_n (by omega)]; exact b9, s9.fs.tr (Fs.u (by omega))⟩
    · have e9 : fX7_houseNumber V8 3 39 5 0 9 = _ := e9
      have h39 : V9 3 3 = nI (aS A 0) := by rw [s9.1 3 (by omega) (by omega)]; exact h3
      rw [e9, q_I, h39, nI_1, q_lt, q_zo1]
      refine .inr ⟨rw8 va vc vd ve vf vg, qg, _, by simp only [hoP, w4, w5, w6, w7, w8, w9, sb, if_pos c9], rfl, t9.u (by omega) (by omega), p9, hs_end hR s9 ?_ rfl, hW.hs h8 ⟨u4, l6, u6, u7, u8, u9, Nat.zero_le _, Nat.zero_le _⟩, s9.fs.tr (Fs.u (by omega))⟩
      intro k hk
      rcases (by omega : k = 0 ∨ k = 1 ∨ k = 2 ∨ k = 3 ∨ k = 4 ∨ k = 5 ∨ k = 6) with e | e | e | e | e | e | e <;> subst e <;> rfl
  · rw [if_neg c9, h38, nI_1, q_lt, q_zo1]
    refine .inr ⟨rw8 va vc vd ve vf 0, sk b n qf, _, by simp only [hoP, w4, w5, w6, w7, w8, sb, if_neg c9], rfl, (t8.sk p8).u (by omega) (by omega), sk_le p8, hs_end hR s8 ?_ rfl, hW.hs h8 ⟨u4, l6, u6, u7, u8, Nat.zero_le _, Nat.zero_le _, Nat.zero_le _⟩, s8.fs.tr (Fs.u (by omega))⟩
    intro k hk
    rcases (by omega : k = 0 ∨ k = 1 ∨ k = 2 ∨ k = 3 ∨ k = 4 ∨ k = 5 ∨ k = 6) with e | e | e | e | e | e | e <;> subst e <;> rfl
end CT
