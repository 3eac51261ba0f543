/-! ===== the law's text: what both sides read: codes, steps, and where they end ===== -/
abbrev RdT : Type := Nat ⊕ (List Int32 × List (Int32 × Int32) × Nat)
abbrev AtT : Type := Nat → List Int32 → List (Int32 × Int32) → RdT
theorem sb_r {α β : Type} {x : Nat ⊕ α} {k : α → Nat ⊕ β} {y : β} (h : sb x k = .inr y) : ∃ a, x = .inr a ∧ k a = .inr y := by
  cases x with
  | inl f => cases h
  | inr a => exact ⟨a, rfl, h⟩
def ptC (b : Nat → Int32) (n B : Nat) : Option (Int32 × (Int32 × Int32) × Nat) :=
  if nuB b n B 0 999 = true then some (nI (100 + vl b n B), (9, nI (vl b n B)), di_ b n B)
  else if wdB b n B 25 = true then some (12, (0, 0), le_ b n B)
  else if wdB b n B 26 = true then some (13, (1, 0), le_ b n B)
  else if wdB b n B 27 = true then some (14, (2, 0), le_ b n B)
  else if wdB b n B 28 = true then some (15, (3, 0), le_ b n B)
  else if wdB b n B 29 = true then some (16, (4, 0), le_ b n B)
  else if wdB b n B 30 = true then some (17, (5, 0), le_ b n B)
  else none
def ptP (b : Nat → Int32) (n p : Nat) (C : List Int32) (S : List (Int32 × Int32)) : RdT :=
  match ptC b n (sk b n p) with
  | some x => .inr (C ++ [x.1], S ++ [x.2.1], x.2.2)
  | none => .inl (sk b n p)
def suL (b : Nat → Int32) (n : Nat) : Nat → AtT
  | 0, q, _, _ => .inl (sk b n q)
  | m + 1, q, C, S => if cl b n 43 43 (sk b n q) = true then sb (ptP b n (sk b n q + 1) C S) fun x => suL b n m x.2.2 x.1 (x.2.1 ++ [(10, 0)]) else .inr (C, S, sk b n q)
def suP (b : Nat → Int32) (n p : Nat) (C : List Int32) (S : List (Int32 × Int32)) : RdT := sb (ptP b n p C S) fun x => suL b n 401 x.2.2 x.1 x.2.1
def kpP (b : Nat → Int32) (n p : Nat) (C : List Int32) (S : List (Int32 × Int32)) : RdT :=
  sb (suP b n p C S) fun x =>
    if cl b n 60 60 (sk b n x.2.2) = true then sb (suP b n (sk b n x.2.2 + 1) (x.1 ++ [7]) x.2.1) fun y => .inr (y.1 ++ [8], y.2.1 ++ [(11, 0)], y.2.2)
    else if cl b n 62 62 (sk b n x.2.2) = true then sb (suP b n (sk b n x.2.2 + 1) (x.1 ++ [7]) x.2.1) fun y => .inr (y.1 ++ [9], y.2.1 ++ [(12, 0)], y.2.2)
    else .inl (sk b n x.2.2)
def tgC (b : Nat → Int32) (n B : Nat) : Option (Int32 × Int32) :=
  if wdB b n B 22 = true then some (0, 6) else if wdB b n B 23 = true then some (1, 7) else if wdB b n B 24 = true then some (2, 8) else none
def alL (b : Nat → Int32) (n : Nat) (u : AtT) : Nat → AtT
  | 0, q, _, _ => .inl (sk b n q)
  | m + 1, q, C, S => if wdB b n (sk b n q) 19 = true then sb (u (le_ b n (sk b n q)) C S) fun x => alL b n u m x.2.2 (x.1 ++ [5]) (x.2.1 ++ [(14, 0)]) else .inr (C, S, sk b n q)
def coL (b : Nat → Int32) (n : Nat) (u : AtT) : Nat → AtT
  | 0, q, _, _ => .inl (sk b n q)
  | m + 1, q, C, S => if wdB b n (sk b n q) 20 = true then sb (u (le_ b n (sk b n q)) C S) fun x => sb (alL b n u 401 x.2.2 x.1 x.2.1) fun y => coL b n u m y.2.2 (y.1 ++ [6]) (y.2.1 ++ [(15, 0)]) else .inr (C, S, sk b n q)
def coP (b : Nat → Int32) (n : Nat) (u : AtT) : AtT := fun p C S => sb (u p C S) fun x => sb (alL b n u 401 x.2.2 x.1 x.2.1) fun y => coL b n u 401 y.2.2 y.1 y.2.1
def atS (b : Nat → Int32) (n : Nat) (u : Option AtT) : AtT := fun p C S =>
  if wdB b n (sk b n p) 21 = true then (match u with
    | none => .inl (sk b n p)
    | some u => sb (u (le_ b n (sk b n p)) C S) fun x => .inr (x.1 ++ [4], x.2.1 ++ [(13, 0)], x.2.2))
  else if cl b n 40 40 (sk b n p) = true then (match u with
    | none => .inl (sk b n p)
    | some u => sb (coP b n u (sk b n p + 1) C S) fun x => if cl b n 41 41 (sk b n x.2.2) = true then .inr (x.1, x.2.1, sk b n x.2.2 + 1) else .inl (sk b n x.2.2))
  else match tgC b n (sk b n p) with
    | some x => .inr (C ++ [x.1], S ++ [(x.2, 0)], le_ b n (sk b n p))
    | none => kpP b n p C S
def atP (b : Nat → Int32) (n : Nat) : Nat → AtT
  | 0 => atS b n none
  | r + 1 => atS b n (some (atP b n r))
/-! ===== what they mean ===== -/
theorem SemB.join {cs cs' : List Int32} {ss ss' : List (Int32 × Int32)} {d e : Fa → Bool} {h h' H : Nat} (a : SemB cs ss d h) (b : SemB cs' ss' e h') (h1 : h ≤ H) (h2 : h' + 1 ≤ H) (h3 : 2 ≤ H) (an : Bool) : SemB (cs ++ cs' ++ [if an then 5 else 6]) (ss ++ ss' ++ [(if an then 14 else 15, 0)]) (fun F => if an then d F && e F else d F || e F) H := by
  refine ⟨fun F t m l h1 h2 => ?_, ?_⟩
  · have hm : 2 ^ m ≤ 2 ^ 29 := Nat.pow_le_pow_right (by omega) (by omega)
    obtain ⟨l2, e2⟩ := a.1 F t m l h1 (by omega)
    obtain ⟨l3, e3⟩ := b.1 F (2 * t + (d F).toNat) (m + 1) l2 (by rw [Nat.pow_succ]; cases d F <;> simp <;> omega) (by omega)
    rw [cL_app, cL_app, e2, e3]
    refine ⟨l3, ?_⟩
    rw [show 2 * (2 * t + (d F).toNat) + (e F).toNat = 4 * t + (2 * (d F).toNat + (e F).toNat) by omega]
    have hr : 2 * (d F).toNat + (e F).toNat < 4 := by cases d F <;> cases e F <;> decide
    cases an
    · show (c2 (nI (4 * t + _)) (decide (¬ nI (4 * t + _) &&& 3 = 0)), (0 : Int32), l3) = _
      rw [a3_n hr, c2_n (by omega) hr]
      show _ = (nI (2 * t + (d F || e F).toNat), (0 : Int32), l3)
      cases d F <;> cases e F <;> rfl
    · show (c2 (nI (4 * t + _)) (decide (nI (4 * t + _) &&& 3 = 3)), (0 : Int32), l3) = _
      rw [a3_n hr, c2_n (by omega) hr]
      show _ = (nI (2 * t + (d F && e F).toNat), (0 : Int32), l3)
      cases d F <;> cases e F <;> rfl
  · exact (SemB.two (h := h + h' + 1) (h' := h') (a.up (by omega)) b (by omega) an).2
theorem SemS.one {c s x : Int32} {v : Fa → Int32} (h1 : ¬ c < 12) (h2 : ∀ F, cV F c = v F) (h3 : ¬ 9 < s) (h4 : ∀ F, mV F s x = v F) : SemS [c] [(s, x)] v := by
  refine ⟨fun F T s' l => ?_, fun F st => ?_, fun c' hc => ?_⟩
  · show cw F c (T, s', l) = _
    unfold cw
    rw [if_neg h1, h2]
  · have : mw F s x st = some (mV F s x :: st) := by
      unfold mw
      rw [if_neg h3]
    show (match mw F s x st with | some s => mL F [] s | none => none) = _
    rw [this, h4]
    rfl
  · rw [List.mem_singleton.1 hc]
    exact .inr h1
theorem SemB.tag {c s : Int32} {d : Fa → Bool} (h1 : c < 10) (h2 : ∀ F q, cw F c q = (cP q.1 (d F), q.2.1, q.2.2)) (h3 : ¬ 9 < s) (h4 : ∀ F, mV F s 0 = bI (d F)) : SemB [c] [(s, 0)] d 1 := by
  refine ⟨fun F t m l h5 h6 => ?_, fun F st => ?_, fun c' hc => ?_⟩
  · have hm : 2 ^ m ≤ 2 ^ 30 := Nat.pow_le_pow_right (by omega) (by omega)
    refine ⟨l, ?_⟩
    show cw F c (nI t, 0, l) = _
    rw [h2, cP_n (by omega)]
  · have : mw F s 0 st = some (mV F s 0 :: st) := by
      unfold mw
      rw [if_neg h3]
    show (match mw F s 0 st with | some s => mL F [] s | none => none) = _
    rw [this, h4]
    rfl
  · rw [List.mem_singleton.1 hc]
    exact .inl h1
section LT
variable {b : Nat → Int32} {n : Nat}
theorem wd_len {B w : Nat} (h : wdB b n B w = true) : le_ b n B = B + sL w := by
  have h1 := (of_decide_eq_true h).1
  have h2 := le_ge (b := b) (n := n) (p := B)
  omega
theorem wd_cl {B w c : Nat} (hB : B ≤ n) (hw : w < 65) (hw2 : 16 ≤ w) (hc : c ≠ 32 ∧ (c < 48 ∨ 57 < c) ∧ (c < 97 ∨ 122 < c)) (h : wdB b n B w = true) : cl b n c c B = false := by
  cases e : cl b n c c B
  · rfl
  · have h1 := (wd_lt hB hw hw2 h).2.1
    have h2 := (sg_k hc e).1
    omega
theorem ptC_ok {B : Nat} {c : Int32} {s : Int32 × Int32} {q : Nat} (hB : B ≤ n) (h : ptC b n B = some (c, s, q)) : B < q ∧ q ≤ n ∧ ∃ v, SemS [c] [s] v := by
  unfold ptC at h
  by_cases c0 : nuB b n B 0 999 = true
  · rw [if_pos c0] at h
    cases h
    obtain ⟨a1, a2, a3, a4, a5, a6⟩ := nu_k c0
    refine ⟨a6, di_le hB, fun _ => nI (vl b n B), SemS.one ?_ (fun F => ?_) (by decide) (fun F => ?_)⟩
    · exact nI_nlt (b := 12) (by omega) (by omega)
    · have hv : vN b B (di_ b n B - B) ≤ 999 := a4
      have ne : ∀ k : Nat, k < 100 → ¬ nI (100 + vl b n B) = nI k := fun k hk e => by
        have := (nI_eq (by omega) (by omega)).1 e
        omega
      unfold cV
      rw [if_neg (show ¬ nI (100 + vl b n B) = 12 from ne 12 (by omega)), if_neg (show ¬ nI (100 + vl b n B) = 13 from ne 13 (by omega)), if_neg (show ¬ nI (100 + vl b n B) = 14 from ne 14 (by omega)), if_neg (show ¬ nI (100 + vl b n B) = 15 from ne 15 (by omega)), if_neg (show ¬ nI (100 + vl b n B) = 16 from ne 16 (by omega)), if_neg (show ¬ nI (100 + vl b n B) = 17 from ne 17 (by omega))]
      show nI (100 + vN b B (di_ b n B - B)) - nI 100 = nI (vN b B (di_ b n B - B))
      rw [pk_sub (by omega)]
      exact congrArg nI (by omega)
    · rfl
  · rw [if_neg c0] at h
    have key : ∀ w, w < 65 → 16 ≤ w → wdB b n B w = true → B < le_ b n B ∧ le_ b n B ≤ n := fun w h1 h2 h3 => ⟨(wd_lt hB h1 h2 h3).1, le_le hB⟩
    by_cases c1 : wdB b n B 25 = true
    · rw [if_pos c1] at h
      cases h
      exact ⟨(key 25 (by omega) (by omega) c1).1, le_le hB, fun F => F.1, SemS.one (by decide) (fun F => rfl) (by decide) (fun F => rfl)⟩
    rw [if_neg c1] at h
    by_cases c2 : wdB b n B 26 = true
    · rw [if_pos c2] at h
      cases h
      exact ⟨(key 26 (by omega) (by omega) c2).1, le_le hB, fun F => F.2.1, SemS.one (by decide) (fun F => rfl) (by decide) (fun F => rfl)⟩
    rw [if_neg c2] at h
    by_cases c3 : wdB b n B 27 = true
    · rw [if_pos c3] at h
      cases h
      exact ⟨(key 27 (by omega) (by omega) c3).1, le_le hB, fun F => F.2.2.1, SemS.one (by decide) (fun F => rfl) (by decide) (fun F => rfl)⟩
    rw [if_neg c3] at h
    by_cases c4 : wdB b n B 28 = true
    · rw [if_pos c4] at h
      cases h
      exact ⟨(key 28 (by omega) (by omega) c4).1, le_le hB, fun F => F.2.2.2.1, SemS.one (by decide) (fun F => rfl) (by decide) (fun F => rfl)⟩
    rw [if_neg c4] at h
    by_cases c5 : wdB b n B 29 = true
    · rw [if_pos c5] at h
      cases h
      exact ⟨(key 29 (by omega) (by omega) c5).1, le_le hB, fun F => F.2.2.2.2.1, SemS.one (by decide) (fun F => rfl) (by decide) (fun F => rfl)⟩
    rw [if_neg c5] at h
    by_cases c6 : wdB b n B 30 = true
    · rw [if_pos c6] at h
      cases h
      exact ⟨(key 30 (by omega) (by omega) c6).1, le_le hB, fun F => F.2.2.2.2.2.1, SemS.one (by decide) (fun F => rfl) (by decide) (fun F => rfl)⟩
    rw [if_neg c6] at h
    cases h
theorem ptP_ok {p : Nat} {C C' : List Int32} {S S' : List (Int32 × Int32)} {q : Nat} (hp : p ≤ n) (h : ptP b n p C S = .inr (C', S', q)) : p < q ∧ q ≤ n ∧ ∃ c s v, C' = C ++ [c] ∧ S' = S ++ [s] ∧ SemS [c] [s] v := by
  unfold ptP at h
  have hB := sk_le (b := b) hp
  have hg := ru_ge (b := b) (n := n) (lo := 32) (hi := 32) (p := p)
  cases e : ptC b n (sk b n p) with
  | none => rw [e] at h; cases h
  | some x =>
    rw [e] at h
    obtain ⟨c, s, q'⟩ := x
    cases h
    obtain ⟨x1, x2, v, x3⟩ := ptC_ok hB e
    exact ⟨Nat.lt_of_le_of_lt hg x1, x2, c, s, v, rfl, rfl, x3⟩
theorem suL_ok : ∀ (m q : Nat) (C0 cs : List Int32) (S0 ss : List (Int32 × Int32)) (v : Fa → Int32) (C' : List Int32) (S' : List (Int32 × Int32)) (q' : Nat), q ≤ n → SemS cs ss v → suL b n m q (C0 ++ cs) (S0 ++ ss) = .inr (C', S', q') →
    q ≤ q' ∧ q' ≤ n ∧ ∃ cs' ss' v', C' = C0 ++ cs' ∧ S' = S0 ++ ss' ∧ SemS cs' ss' v' ∧ cs'.length + q ≤ cs.length + q' ∧ ss'.length + q ≤ ss.length + q'
  | 0, q, C0, cs, S0, ss, v, C', S', q', hq, hS, h => by cases h
  | m + 1, q, C0, cs, S0, ss, v, C', S', q', hq, hS, h => by
    have hB := sk_le (b := b) hq
    have hg : q ≤ sk b n q := ru_ge
    unfold suL at h
    by_cases c1 : cl b n 43 43 (sk b n q) = true
    · rw [if_pos c1] at h
      obtain ⟨⟨C1, S1, q1⟩, x1, x2⟩ := sb_r h
      have h2 : sk b n q + 1 ≤ n := by have := of_decide_eq_true c1; omega
      obtain ⟨y1, y2, c, s, w, y3, y4, y5⟩ := ptP_ok h2 x1
      subst y3 y4
      have x2 : suL b n m q1 (C0 ++ cs ++ [c]) (S0 ++ ss ++ [s] ++ [(10, 0)]) = .inr (C', S', q') := x2
      rw [List.append_assoc C0, List.append_assoc S0, List.append_assoc S0] at x2
      obtain ⟨z1, z2, cs', ss', v', z3, z4, z5, z6, z7⟩ := suL_ok m q1 C0 (cs ++ [c]) S0 (ss ++ [s] ++ [(10, 0)]) _ C' S' q' y2 (hS.plus y5) x2
      refine ⟨by omega, z2, cs', ss', v', z3, z4, z5, ?_, ?_⟩
      · simp only [List.length_append, List.length_singleton] at z6
        omega
      · simp only [List.length_append, List.length_singleton] at z7
        omega
    · rw [if_neg c1] at h
      cases h
      exact ⟨hg, hB, cs, ss, v, rfl, rfl, hS, by omega, by omega⟩
theorem suP_ok {p : Nat} {C C' : List Int32} {S S' : List (Int32 × Int32)} {q : Nat} (hp : p ≤ n) (h : suP b n p C S = .inr (C', S', q)) : p < q ∧ q ≤ n ∧ ∃ cs ss v, C' = C ++ cs ∧ S' = S ++ ss ∧ SemS cs ss v ∧ cs.length + p ≤ q ∧ ss.length + p ≤ q := by
  obtain ⟨⟨C1, S1, q1⟩, x1, x2⟩ := sb_r h
  obtain ⟨y1, y2, c, s, v, y3, y4, y5⟩ := ptP_ok hp x1
  subst y3 y4
  obtain ⟨z1, z2, cs', ss', v', z3, z4, z5, z6, z7⟩ := suL_ok 401 q1 C [c] S [s] v C' S' q y2 y5 x2
  simp only [List.length_singleton] at z6 z7
  exact ⟨by omega, z2, cs', ss', v', z3, z4, z5, by omega, by omega⟩
/-- what holds of a reader of conditions -/
def AtOK (b : Nat → Int32) (n : Nat) (u : AtT) (h : Nat) : Prop := ∀ p C S C' S' q, p ≤ n → u p C S = .inr (C', S', q) → p < q ∧ q ≤ n ∧ ∃ cs ss d, C' = C ++ cs ∧ S' = S ++ ss ∧ SemB cs ss d h ∧ cs.length + p ≤ q + 1 ∧ ss.length + p ≤ q
theorem AtOK.len {u : AtT} {h : Nat} (a : AtOK b n u h) {p : Nat} {C C' : List Int32} {S S' : List (Int32 × Int32)} {q : Nat} (hp : p ≤ n) (e : u p C S = .inr (C', S', q)) : p < q ∧ q ≤ n ∧ C'.length + p ≤ C.length + q + 1 ∧ S'.length + p ≤ S.length + q := by
  obtain ⟨x1, x2, cs, ss, d, x3, x4, x5, x6, x7⟩ := a p C S C' S' q hp e
  subst x3 x4
  simp only [List.length_append]
  exact ⟨x1, x2, by omega, by omega⟩
theorem kpP_ok : AtOK b n (kpP b n) 1 := by
  intro p C S C' S' q hp h
  obtain ⟨⟨C1, S1, q1⟩, x1, x2⟩ := sb_r h
  obtain ⟨y1, y2, cs, ss, v, y3, y4, y5, y6, y7⟩ := suP_ok hp x1
  have hg : q1 ≤ sk b n q1 := ru_ge
  subst y3 y4
  have key : ∀ (lt : Bool), sk b n q1 + 1 ≤ n → (sb (suP b n (sk b n q1 + 1) (C ++ cs ++ [7]) (S ++ ss)) fun y => (.inr (y.1 ++ [if lt then 8 else 9], y.2.1 ++ [(if lt then 11 else 12, 0)], y.2.2) : RdT)) = .inr (C', S', q) → p < q ∧ q ≤ n ∧ ∃ cs ss d, C' = C ++ cs ∧ S' = S ++ ss ∧ SemB cs ss d 1 ∧ cs.length + p ≤ q + 1 ∧ ss.length + p ≤ q := by
    intro lt h2 x3
    obtain ⟨⟨C2, S2, q2⟩, x4, x5⟩ := sb_r x3
    obtain ⟨z1, z2, cs', ss', w, z3, z4, z5, z6, z7⟩ := suP_ok h2 x4
    subst z3 z4
    simp only [Sum.inr.injEq, Prod.mk.injEq] at x5
    obtain ⟨rfl, rfl, rfl⟩ := x5
    refine ⟨by omega, z2, cs ++ [7] ++ cs' ++ [if lt then 8 else 9], ss ++ ss' ++ [(if lt then 11 else 12, 0)], _, by simp only [List.append_assoc], by simp only [List.append_assoc], y5.cmp z5 lt, ?_, ?_⟩
    · simp only [List.length_append, List.length_singleton]
      omega
    · simp only [List.length_append, List.length_singleton]
      omega
  have x2 : (if cl b n 60 60 (sk b n q1) = true then sb (suP b n (sk b n q1 + 1) (C ++ cs ++ [7]) (S ++ ss)) fun y => (.inr (y.1 ++ [8], y.2.1 ++ [(11, 0)], y.2.2) : RdT)
    else if cl b n 62 62 (sk b n q1) = true then sb (suP b n (sk b n q1 + 1) (C ++ cs ++ [7]) (S ++ ss)) fun y => .inr (y.1 ++ [9], y.2.1 ++ [(12, 0)], y.2.2)
    else .inl (sk b n q1)) = .inr (C', S', q) := x2
  by_cases c1 : cl b n 60 60 (sk b n q1) = true
  · rw [if_pos c1] at x2
    exact key true (by have := of_decide_eq_true c1; omega) x2
  · rw [if_neg c1] at x2
    by_cases c2 : cl b n 62 62 (sk b n q1) = true
    · rw [if_pos c2] at x2
      exact key false (by have := of_decide_eq_true c2; omega) x2
    · rw [if_neg c2] at x2
      cases x2
theorem alL_ok {u : AtT} {h : Nat} (hu : AtOK b n u h) (h1 : 1 ≤ h) : ∀ (m q : Nat) (C0 cs : List Int32) (S0 ss : List (Int32 × Int32)) (d : Fa → Bool) (C' : List Int32) (S' : List (Int32 × Int32)) (q' : Nat), q ≤ n → SemB cs ss d (h + 1) → alL b n u m q (C0 ++ cs) (S0 ++ ss) = .inr (C', S', q') →
    q ≤ q' ∧ q' ≤ n ∧ ∃ cs' ss' d', C' = C0 ++ cs' ∧ S' = S0 ++ ss' ∧ SemB cs' ss' d' (h + 1) ∧ cs'.length + q ≤ cs.length + q' ∧ ss'.length + q ≤ ss.length + q'
  | 0, q, C0, cs, S0, ss, d, C', S', q', hq, hS, h => by cases h
  | m + 1, q, C0, cs, S0, ss, d, C', S', q', hq, hS, h => by
    have hB := sk_le (b := b) hq
    have hg : q ≤ sk b n q := ru_ge
    unfold alL at h
    by_cases c1 : wdB b n (sk b n q) 19 = true
    · rw [if_pos c1] at h
      obtain ⟨⟨C1, S1, q1⟩, x1, x2⟩ := sb_r h
      have h2 : le_ b n (sk b n q) = sk b n q + 3 := wd_len c1
      obtain ⟨y1, y2, cs2, ss2, e, y3, y4, y5, y6, y7⟩ := hu _ _ _ _ _ _ (le_le hB) x1
      subst y3 y4
      have x2 : alL b n u m q1 (C0 ++ cs ++ cs2 ++ [5]) (S0 ++ ss ++ ss2 ++ [(14, 0)]) = .inr (C', S', q') := x2
      rw [List.append_assoc C0, List.append_assoc C0, List.append_assoc S0, List.append_assoc S0] at x2
      obtain ⟨z1, z2, cs', ss', v', z3, z4, z5, z6, z7⟩ := alL_ok hu h1 m q1 C0 (cs ++ cs2 ++ [5]) S0 (ss ++ ss2 ++ [(14, 0)]) _ C' S' q' y2 (hS.join y5 (H := _) (by omega) (by omega) (by omega) true) x2
      refine ⟨by omega, z2, cs', ss', v', z3, z4, z5, ?_, ?_⟩
      · simp only [List.length_append, List.length_singleton] at z6
        omega
      · simp only [List.length_append, List.length_singleton] at z7
        omega
    · rw [if_neg c1] at h
      cases h
      exact ⟨hg, hB, cs, ss, d, rfl, rfl, hS, by omega, by omega⟩
theorem coL_ok {u : AtT} {h : Nat} (hu : AtOK b n u h) (h1 : 1 ≤ h) : ∀ (m q : Nat) (C0 cs : List Int32) (S0 ss : List (Int32 × Int32)) (d : Fa → Bool) (C' : List Int32) (S' : List (Int32 × Int32)) (q' : Nat), q ≤ n → SemB cs ss d (h + 2) → coL b n u m q (C0 ++ cs) (S0 ++ ss) = .inr (C', S', q') →
    q ≤ q' ∧ q' ≤ n ∧ ∃ cs' ss' d', C' = C0 ++ cs' ∧ S' = S0 ++ ss' ∧ SemB cs' ss' d' (h + 2) ∧ cs'.length + q ≤ cs.length + q' ∧ ss'.length + q ≤ ss.length + q'
  | 0, q, C0, cs, S0, ss, d, C', S', q', hq, hS, h => by cases h
  | m + 1, q, C0, cs, S0, ss, d, C', S', q', hq, hS, h => by
    have hB := sk_le (b := b) hq
    have hg : q ≤ sk b n q := ru_ge
    unfold coL at h
    by_cases c1 : wdB b n (sk b n q) 20 = true
    · rw [if_pos c1] at h
      obtain ⟨⟨C1, S1, q1⟩, x1, x2⟩ := sb_r h
      have h2 : le_ b n (sk b n q) = sk b n q + 2 := wd_len c1
      obtain ⟨y1, y2, cs2, ss2, e, y3, y4, y5, y6, y7⟩ := hu _ _ _ _ _ _ (le_le hB) x1
      subst y3 y4
      obtain ⟨⟨C3, S3, q3⟩, x3, x4⟩ := sb_r x2
      obtain ⟨w1, w2, cs3, ss3, e3, w3, w4, w5, w6, w7⟩ := alL_ok hu h1 401 q1 (C0 ++ cs) cs2 (S0 ++ ss) ss2 e C3 S3 q3 y2 (y5.up (by omega)) x3
      subst w3 w4
      have x4 : coL b n u m q3 (C0 ++ cs ++ cs3 ++ [6]) (S0 ++ ss ++ ss3 ++ [(15, 0)]) = .inr (C', S', q') := x4
      rw [List.append_assoc C0, List.append_assoc C0, List.append_assoc S0, List.append_assoc S0] at x4
      obtain ⟨z1, z2, cs', ss', v', z3, z4, z5, z6, z7⟩ := coL_ok hu h1 m q3 C0 (cs ++ cs3 ++ [6]) S0 (ss ++ ss3 ++ [(15, 0)]) _ C' S' q' w2 (hS.join w5 (H := _) (by omega) (by omega) (by omega) false) x4
      refine ⟨by omega, z2, cs', ss', v', z3, z4, z5, ?_, ?_⟩
      · simp only [List.length_append, List.length_singleton] at z6
        omega
      · simp only [List.length_append, List.length_singleton] at z7
        omega
    · rw [if_neg c1] at h
      cases h
      exact ⟨hg, hB, cs, ss, d, rfl, rfl, hS, by omega, by omega⟩
theorem coP_ok {u : AtT} {h : Nat} (hu : AtOK b n u h) (h1 : 1 ≤ h) : AtOK b n (coP b n u) (h + 2) := by
  intro p C S C' S' q hp e
  obtain ⟨⟨C1, S1, q1⟩, x1, x2⟩ := sb_r e
  obtain ⟨y1, y2, cs2, ss2, e, y3, y4, y5, y6, y7⟩ := hu _ _ _ _ _ _ hp x1
  subst y3 y4
  obtain ⟨⟨C3, S3, q3⟩, x3, x4⟩ := sb_r x2
  obtain ⟨w1, w2, cs3, ss3, e3, w3, w4, w5, w6, w7⟩ := alL_ok hu h1 401 q1 C cs2 S ss2 e C3 S3 q3 y2 (y5.up (by omega)) x3
  subst w3 w4
  obtain ⟨z1, z2, cs', ss', v', z3, z4, z5, z6, z7⟩ := coL_ok hu h1 401 q3 C cs3 S ss3 _ C' S' q w2 (w5.up (by omega)) x4
  exact ⟨by omega, z2, cs', ss', v', z3, z4, z5, by omega, by omega⟩
theorem tgC_ok {B : Nat} {c s : Int32} (hB : B ≤ n) (h : tgC b n B = some (c, s)) : B + 1 < le_ b n B ∧ le_ b n B ≤ n ∧ ∃ d, SemB [c] [(s, 0)] d 1 := by
  unfold tgC at h
  have hl := le_le (b := b) hB
  by_cases c1 : wdB b n B 22 = true
  · rw [if_pos c1] at h
    cases h
    have h2 : le_ b n B = B + 2 := wd_len c1
    exact ⟨by omega, hl, fun F => F.2.2.2.2.2.2.1, SemB.tag (by decide) (fun F q => rfl) (by decide) (fun F => rfl)⟩
  rw [if_neg c1] at h
  by_cases c2 : wdB b n B 23 = true
  · rw [if_pos c2] at h
    cases h
    have h2 : le_ b n B = B + 4 := wd_len c2
    exact ⟨by omega, hl, fun F => F.2.2.2.2.2.2.2.1, SemB.tag (by decide) (fun F q => rfl) (by decide) (fun F => rfl)⟩
  rw [if_neg c2] at h
  by_cases c3 : wdB b n B 24 = true
  · rw [if_pos c3] at h
    cases h
    have h2 : le_ b n B = B + 6 := wd_len c3
    exact ⟨by omega, hl, fun F => F.2.2.2.2.2.2.2.2, SemB.tag (by decide) (fun F q => rfl) (by decide) (fun F => rfl)⟩
  rw [if_neg c3] at h
  cases h
theorem atS_ok {u : Option AtT} {h : Nat} (h1 : 1 ≤ h) (hu : ∀ v, u = some v → ∃ h', AtOK b n v h' ∧ 1 ≤ h' ∧ h' + 2 ≤ h) : AtOK b n (atS b n u) h := by
  intro p C S C' S' q hp e
  have hB := sk_le (b := b) hp
  have hg : p ≤ sk b n p := ru_ge
  unfold atS at e
  by_cases c1 : wdB b n (sk b n p) 21 = true
  · rw [if_pos c1] at e
    cases u with
    | none => cases e
    | some v =>
      obtain ⟨h', a1, a2, a3⟩ := hu v rfl
      obtain ⟨⟨C1, S1, q1⟩, x1, x2⟩ := sb_r e
      have h2 : le_ b n (sk b n p) = sk b n p + 3 := wd_len c1
      obtain ⟨y1, y2, cs, ss, d, y3, y4, y5, y6, y7⟩ := a1 _ _ _ _ _ _ (le_le hB) x1
      subst y3 y4
      simp only [Sum.inr.injEq, Prod.mk.injEq] at x2
      obtain ⟨rfl, rfl, rfl⟩ := x2
      refine ⟨by omega, y2, cs ++ [4], ss ++ [(13, 0)], _, List.append_assoc .., List.append_assoc .., (y5.up (by omega)).neg h1, ?_, ?_⟩
      · simp only [List.length_append, List.length_singleton]
        omega
      · simp only [List.length_append, List.length_singleton]
        omega
  rw [if_neg c1] at e
  by_cases c2 : cl b n 40 40 (sk b n p) = true
  · rw [if_pos c2] at e
    cases u with
    | none => cases e
    | some v =>
      obtain ⟨h', a1, a2, a3⟩ := hu v rfl
      obtain ⟨⟨C1, S1, q1⟩, x1, x2⟩ := sb_r e
      obtain ⟨y1, y2, cs, ss, d, y3, y4, y5, y6, y7⟩ := coP_ok a1 a2 _ _ _ _ _ _ (by have := of_decide_eq_true c2; omega) x1
      subst y3 y4
      have hg2 : q1 ≤ sk b n q1 := ru_ge
      have x2 : (if cl b n 41 41 (sk b n q1) = true then (.inr (C ++ cs, S ++ ss, sk b n q1 + 1) : RdT) else .inl (sk b n q1)) = .inr (C', S', q) := x2
      by_cases c3 : cl b n 41 41 (sk b n q1) = true
      · rw [if_pos c3] at x2
        have h3 := (of_decide_eq_true c3).1
        simp only [Sum.inr.injEq, Prod.mk.injEq] at x2
        obtain ⟨rfl, rfl, rfl⟩ := x2
        exact ⟨by omega, h3, cs, ss, d, rfl, rfl, y5.up a3, by omega, by omega⟩
      · rw [if_neg c3] at x2
        cases x2
  rw [if_neg c2] at e
  cases e2 : tgC b n (sk b n p) with
  | some x =>
    rw [e2] at e
    obtain ⟨c, s⟩ := x
    obtain ⟨x1, x2, d, x3⟩ := tgC_ok hB e2
    simp only [Sum.inr.injEq, Prod.mk.injEq] at e
    obtain ⟨rfl, rfl, rfl⟩ := e
    exact ⟨by omega, x2, [c], [(s, 0)], d, rfl, rfl, x3.up h1, by simp only [List.length_singleton]; omega, by simp only [List.length_singleton]; omega⟩
  | none =>
    rw [e2] at e
    obtain ⟨y1, y2, cs, ss, d, y3, y4, y5, y6, y7⟩ := kpP_ok _ _ _ _ _ _ hp e
    exact ⟨y1, y2, cs, ss, d, y3, y4, y5.up h1, y6, y7⟩
theorem atP_ok : ∀ r, AtOK b n (atP b n r) (1 + 2 * r)
  | 0 => atS_ok (by omega) (fun v h => by cases h)
  | r + 1 => atS_ok (by omega) (fun v h => by cases h; exact ⟨1 + 2 * r, atP_ok r, by omega, by omega⟩)
end LT
