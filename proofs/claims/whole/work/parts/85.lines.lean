/-! ===== a law's lines: what both sides read, and what it means ===== -/
abbrev YT : Type := Nat → Bool × Nat × Nat
def upY (Y : YT) (j : Nat) (v : Bool × Nat × Nat) : YT := fun i => if i = j then v else Y i
def lbP (b : Nat → Int32) (n : Nat) : AtT := fun q C S => if wdB b n (sk b n q) 18 = true then coP b n (atP b n 6) (le_ b n (sk b n q)) C S else .inr (C ++ [3], S, sk b n q)
def liL (b : Nat → Int32) (n j p : Nat) (C : List Int32) (S : List (Int32 × Int32)) (Y : YT) : Nat ⊕ (List Int32 × List (Int32 × Int32) × YT × Nat) :=
  if wdB b n (sk b n p) 16 = true ∨ wdB b n (sk b n p) 17 = true then sb (lbP b n (le_ b n (sk b n p)) C S) fun x => .inr (x.1 ++ [if wdB b n (sk b n p) 17 then 11 else 10], x.2.1, upY Y j (wdB b n (sk b n p) 17, S.length, x.2.1.length), x.2.2)
  else .inl (sk b n p)
def laL (b : Nat → Int32) (n : Nat) : Nat → Nat → Nat → List Int32 → List (Int32 × Int32) → YT → Nat ⊕ (List Int32 × List (Int32 × Int32) × YT × Nat)
  | 0, _, p, _, _, _ => .inl (sk b n p)
  | m + 1, j, p, C, S, Y => sb (liL b n j p C S Y) fun z => if n ≤ sk b n z.2.2.2 then .inr (z.1, z.2.1, z.2.2.1, j + 1) else if cl b n 59 59 (sk b n z.2.2.2) = true then laL b n m (j + 1) (sk b n z.2.2.2 + 1) z.1 z.2.1 z.2.2.1 else .inl (sk b n z.2.2.2)
def laP (b : Nat → Int32) (n : Nat) : Nat ⊕ (List Int32 × List (Int32 × Int32) × YT × Nat) := if n ≤ sk b n 0 then .inr ([], [], fun _ => (false, 0, 0), 0) else laL b n 12 0 (sk b n 0) [] [] (fun _ => (false, 0, 0))
def LineOK (cs : List Int32) (ss : List (Int32 × Int32)) (t : Fa → Bool) : Prop := (∀ c, c ∈ cs → c < 10 ∨ ¬ c < 12) ∧ (∀ F l, ∃ T l2, cL F cs (0, 0, l) = (T, 0, l2) ∧ ((T &&& 1 = 1) ↔ t F = true)) ∧ ∀ F, (mL F ss [] = some [] ∧ t F = true) ∨ mL F ss [] = some [bI (t F)]
theorem SemB.line {cs : List Int32} {ss : List (Int32 × Int32)} {d : Fa → Bool} {h : Nat} (a : SemB cs ss d h) (hh : h ≤ 31) : LineOK cs ss d := by
  refine ⟨a.2.2, fun F l => ?_, fun F => .inr (a.2.1 F [])⟩
  obtain ⟨l2, e⟩ := a.1 F 0 0 l (by omega) (by omega)
  refine ⟨_, l2, e, ?_⟩
  cases d F <;> decide
theorem LineOK.always : LineOK [3] [] (fun _ => true) := by
  refine ⟨fun c h => by rw [List.mem_singleton.1 h]; decide, fun F l => ⟨cP 0 true, l, rfl, ?_⟩, fun F => .inl ⟨rfl, rfl⟩⟩
  show cP 0 true &&& 1 = 1 ↔ true = true
  decide
section LT
variable {b : Nat → Int32} {n : Nat}
theorem lbP_ok {q : Nat} {C C' : List Int32} {S S' : List (Int32 × Int32)} {q' : Nat} (hq : q ≤ n) (h : lbP b n q C S = .inr (C', S', q')) : q ≤ q' ∧ q' ≤ n ∧ ∃ cs ss d, C' = C ++ cs ∧ S' = S ++ ss ∧ LineOK cs ss d ∧ cs.length + q ≤ q' + 1 ∧ ss.length + q ≤ q' := by
  have hB := sk_le (b := b) hq
  have hg : q ≤ sk b n q := ru_ge
  unfold lbP at h
  by_cases c1 : wdB b n (sk b n q) 18 = true
  · rw [if_pos c1] at h
    have hk : le_ b n (sk b n q) = sk b n q + 2 := wd_len c1
    obtain ⟨y1, y2, cs, ss, d, y3, y4, y5, y6, y7⟩ := coP_ok (atP_ok 6) (by omega) _ _ _ _ _ _ (le_le hB) h
    exact ⟨by omega, y2, cs, ss, d, y3, y4, y5.line (by omega), by omega, by omega⟩
  · rw [if_neg c1] at h
    cases h
    exact ⟨hg, hB, [3], [], _, rfl, (List.append_nil _).symm, LineOK.always, by simp only [List.length_singleton]; omega, by simp only [List.length_nil]; omega⟩
end LT
/-- line with codes from c0 to c1 and steps from y.2.1 to y.2.2 -/
def LnOK (C : List Int32) (S : List (Int32 × Int32)) (c0 c1 : Nat) (y : Bool × Nat × Nat) (t : Fa → Bool) : Prop :=
  ∃ cs ss, c1 = c0 + cs.length + 1 ∧ c1 ≤ C.length ∧ (∀ k, k < cs.length → C.getD (c0 + k) 0 = cs.getD k 0) ∧ C.getD (c0 + cs.length) 0 = (if y.1 then 11 else 10) ∧
    y.2.2 = y.2.1 + ss.length ∧ y.2.2 ≤ S.length ∧ (∀ k, k < ss.length → S.getD (y.2.1 + k) (0, 0) = ss.getD k (0, 0)) ∧ LineOK cs ss t
def JL (C : List Int32) (S : List (Int32 × Int32)) (Y : YT) (n : Nat) : Prop := ∃ (t : Nat → Fa → Bool) (c : Nat → Nat), c 0 = 0 ∧ C.length = c n ∧ ∀ j, j < n → LnOK C S (c j) (c (j + 1)) (Y j) (t j)
theorem LnOK.app {C C2 : List Int32} {S S2 : List (Int32 × Int32)} {c0 c1 : Nat} {y : Bool × Nat × Nat} {t : Fa → Bool} (h : LnOK C S c0 c1 y t) : LnOK (C ++ C2) (S ++ S2) c0 c1 y t := by
  obtain ⟨cs, ss, h1, h2, h3, h4, h5, h6, h7, h8⟩ := h
  refine ⟨cs, ss, h1, by rw [List.length_append]; omega, fun k hk => by rw [gD_l (by omega)]; exact h3 k hk, by rw [gD_l (by omega)]; exact h4, h5, by rw [List.length_append]; omega, fun k hk => by rw [gD_l (by omega)]; exact h7 k hk, h8⟩
theorem gD_m {α : Type} {a : List α} {d : α} {k : Nat} (h : k < a.length) : a.getD k d ∈ a := by
  rw [List.getD_eq_getElem?_getD, List.getElem?_eq_getElem h]
  exact List.getElem_mem h
theorem gD_r {α : Type} {a c : List α} {d : α} {k : Nat} : (a ++ c).getD (a.length + k) d = c.getD k d := by
  rw [List.getD_eq_getElem?_getD, List.getD_eq_getElem?_getD, List.getElem?_append_right (by omega), Nat.add_sub_cancel_left]
theorem JL.add {C cs : List Int32} {S ss : List (Int32 × Int32)} {Y : YT} {n : Nat} {d : Fa → Bool} (h : JL C S Y n) (hl : LineOK cs ss d) (y : Bool) : JL (C ++ cs ++ [if y then 11 else 10]) (S ++ ss) (upY Y n (y, S.length, (S ++ ss).length)) (n + 1) := by
  obtain ⟨t, c, h1, h2, h3⟩ := h
  refine ⟨fun i => if i = n then d else t i, fun i => if i = n + 1 then (C ++ cs ++ [if y then 11 else 10]).length else c i, ?_, ?_, ?_⟩
  · show (if 0 = n + 1 then _ else c 0) = 0
    rw [if_neg (by omega), h1]
  · show _ = (if n + 1 = n + 1 then _ else c (n + 1))
    rw [if_pos rfl]
  · intro j hj
    show LnOK _ _ (if j = n + 1 then _ else c j) (if j + 1 = n + 1 then _ else c (j + 1)) (if j = n then _ else Y j) (if j = n then d else t j)
    rw [if_neg (show ¬ j = n + 1 by omega)]
    by_cases e : j = n
    · subst e
      rw [if_pos rfl, if_pos rfl, if_pos rfl]
      refine ⟨cs, ss, ?_, Nat.le_refl _, ?_, ?_, ?_, Nat.le_refl _, ?_, hl⟩
      · rw [List.length_append, List.length_append, h2, List.length_singleton]
      · intro k hk
        rw [← h2, gD_l (by rw [List.length_append]; omega), gD_r]
      · rw [← h2, show C.length + cs.length = (C ++ cs).length from List.length_append.symm, gD_e]
      · show (S ++ ss).length = S.length + ss.length
        rw [List.length_append]
      · intro k hk
        exact gD_r
    · rw [if_neg (show ¬ j + 1 = n + 1 by omega), if_neg e, if_neg e, List.append_assoc C]
      exact (h3 j (by omega)).app
theorem JL.nil {Y : YT} : JL [] [] Y 0 := ⟨fun _ _ => true, fun _ => 0, rfl, rfl, fun j hj => absurd hj (Nat.not_lt_zero _)⟩
section LT
variable {b : Nat → Int32} {n : Nat}
theorem liL_ok {j p : Nat} {C C' : List Int32} {S S' : List (Int32 × Int32)} {Y Y' : YT} {q : Nat} (hp : p ≤ n) (h : liL b n j p C S Y = .inr (C', S', Y', q)) : p < q ∧ q ≤ n ∧ (JL C S Y j → JL C' S' Y' (j + 1)) ∧ C'.length + p + 1 ≤ C.length + q ∧ S'.length + p + 3 ≤ S.length + q := by
  have hB := sk_le (b := b) hp
  have hg : p ≤ sk b n p := ru_ge
  unfold liL at h
  by_cases c1 : wdB b n (sk b n p) 16 = true ∨ wdB b n (sk b n p) 17 = true
  · have hk : sk b n p + 3 ≤ le_ b n (sk b n p) := by
      rcases c1 with c | c
      · have hk : le_ b n (sk b n p) = sk b n p + 3 := wd_len c
        omega
      · have hk : le_ b n (sk b n p) = sk b n p + 5 := wd_len c
        omega
    rw [if_pos c1] at h
    obtain ⟨⟨C1, S1, q1⟩, x1, x2⟩ := sb_r h
    obtain ⟨y1, y2, cs, ss, d, y3, y4, y5, y6, y7⟩ := lbP_ok (le_le hB) x1
    subst y3 y4
    simp only [Sum.inr.injEq, Prod.mk.injEq] at x2
    obtain ⟨rfl, rfl, rfl, rfl⟩ := x2
    refine ⟨by omega, y2, fun hJ => hJ.add y5 _, ?_, ?_⟩
    · rw [List.length_append, List.length_append, List.length_singleton]
      omega
    · rw [List.length_append]
      omega
  · rw [if_neg c1] at h
    cases h
theorem laL_ok : ∀ (m j p : Nat) (C : List Int32) (S : List (Int32 × Int32)) (Y : YT) (C' : List Int32) (S' : List (Int32 × Int32)) (Y' : YT) (k : Nat), p ≤ n → JL C S Y j → C.length ≤ p → S.length ≤ p → laL b n m j p C S Y = .inr (C', S', Y', k) → JL C' S' Y' k ∧ k ≤ j + m ∧ C'.length ≤ n ∧ S'.length ≤ n
  | 0, j, p, C, S, Y, C', S', Y', k, hp, hJ, hc, hs, h => by cases h
  | m + 1, j, p, C, S, Y, C', S', Y', k, hp, hJ, hc, hs, h => by
    unfold laL at h
    obtain ⟨⟨C1, S1, Y1, q⟩, x1, x2⟩ := sb_r h
    obtain ⟨y1, y2, y3, y4, y5⟩ := liL_ok hp x1
    have hS := sk_le (b := b) y2
    have hg : q ≤ sk b n q := ru_ge
    have x2 : (if n ≤ sk b n q then Sum.inr (C1, S1, Y1, j + 1) else if cl b n 59 59 (sk b n q) = true then laL b n m (j + 1) (sk b n q + 1) C1 S1 Y1 else .inl (sk b n q)) = Sum.inr (C', S', Y', k) := x2
    by_cases c1 : n ≤ sk b n q
    · rw [if_pos c1] at x2
      cases x2
      exact ⟨y3 hJ, by omega, by omega, by omega⟩
    · rw [if_neg c1] at x2
      by_cases c2 : cl b n 59 59 (sk b n q) = true
      · rw [if_pos c2] at x2
        have := laL_ok m (j + 1) (sk b n q + 1) C1 S1 Y1 C' S' Y' k (of_decide_eq_true c2).1 (y3 hJ) (by omega) (by omega) x2
        exact ⟨this.1, by omega, this.2.2⟩
      · rw [if_neg c2] at x2
        cases x2
theorem laP_ok {C' : List Int32} {S' : List (Int32 × Int32)} {Y' : YT} {k : Nat} (h : laP b n = .inr (C', S', Y', k)) : JL C' S' Y' k ∧ k ≤ 12 ∧ C'.length ≤ n ∧ S'.length ≤ n := by
  unfold laP at h
  by_cases c1 : n ≤ sk b n 0
  · rw [if_pos c1] at h
    cases h
    exact ⟨JL.nil, by omega, Nat.zero_le _, Nat.zero_le _⟩
  · rw [if_neg c1] at h
    have := laL_ok 12 0 (sk b n 0) [] [] _ C' S' Y' k (sk_le (Nat.zero_le _)) JL.nil (Nat.zero_le _) (Nat.zero_le _) h
    exact ⟨this.1, by omega, this.2.2⟩
end LT
/-! ===== rows of numbers that hold them ===== -/
theorem tk_s {α : Type} {d : α} : ∀ (l : List α) (m : Nat), m < l.length → l.take (m + 1) = l.take m ++ [l.getD m d]
  | [], m, h => absurd h (Nat.not_lt_zero _)
  | a :: l, 0, h => by simp
  | a :: l, m + 1, h => by
    have := tk_s (d := d) l m (Nat.lt_of_succ_lt_succ h)
    rw [List.take_succ_cons, this, List.take_succ_cons, List.getD_cons_succ]
    rfl
theorem cR_cL {F : Fa} {codes : Nat → Int32} {i : Nat} {cs : List Int32} {q : Tr} (h : ∀ k, k < cs.length → codes (i + k) = cs.getD k 0) : ∀ m, m ≤ cs.length → cR F codes i m q = cL F (cs.take m) q
  | 0, _ => by rw [List.take_zero]; rfl
  | m + 1, hm => by
    rw [tk_s (d := 0) cs m (by omega), cL_app, ← cR_cL h m (by omega), ← h m (by omega)]
    rfl
theorem mL_app0 {F : Fa} : ∀ {a b : List (Int32 × Int32)} {st : List Int32}, mL F a st = none → mL F (a ++ b) st = none
  | [], b, st, h => by cases h
  | c :: a, b, st, h => by
    show (match mw F c.1 c.2 st with | some s => mL F (a ++ b) s | none => none) = _
    have h : (match mw F c.1 c.2 st with | some s => mL F a s | none => none) = none := h
    cases e : mw F c.1 c.2 st with
    | none => rfl
    | some s1 => rw [e] at h; exact mL_app0 h
theorem mR_mL {F : Fa} {W : Nat → Int32} {i : Nat} {ss : List (Int32 × Int32)} {st : List Int32} (h : ∀ k, k < ss.length → W (351 + 2 * (i + k)) = (ss.getD k (0, 0)).1 ∧ W (352 + 2 * (i + k)) = (ss.getD k (0, 0)).2) : ∀ m, m ≤ ss.length → mR F W i m st = mL F (ss.take m) st
  | 0, _ => by rw [List.take_zero]; rfl
  | m + 1, hm => by
    rw [tk_s (d := (0, 0)) ss m (by omega)]
    unfold mR
    rw [mR_mL h m (by omega), (h m (by omega)).1, (h m (by omega)).2]
    cases e : mL F (ss.take m) st with
    | none => exact (mL_app0 e).symm
    | some s =>
      rw [mL_app e]
      show mw F (ss.getD m (0, 0)).1 (ss.getD m (0, 0)).2 s = (match mw F (ss.getD m (0, 0)).1 (ss.getD m (0, 0)).2 s with | some s => mL F [] s | none => none)
      cases mw F (ss.getD m (0, 0)).1 (ss.getD m (0, 0)).2 s <;> rfl
theorem mL_pre {F : Fa} {ss : List (Int32 × Int32)} {st s : List Int32} (h : mL F ss st = some s) (m : Nat) : ∃ s', mL F (ss.take m) st = some s' := by
  cases e : mL F (ss.take m) st with
  | some s' => exact ⟨s', rfl⟩
  | none =>
    have := mL_app0 (b := ss.drop m) e
    rw [List.take_append_drop, h] at this
    cases this
/-- both sides' rows say the same law -/
theorem JL.law {C : List Int32} {S : List (Int32 × Int32)} {Y : YT} {n : Nat} (h : JL C S Y n) (hC : C.length ≤ 400) (hS : S.length ≤ 400) : ∃ t, (∀ (sz : Int32) (codes : Nat → Int32), sz = nI C.length → (∀ k, k < C.length → codes k = C.getD k 0) → LawD sz codes n (fun j => (Y j).1) t) ∧
    (∀ W : Nat → Int32, W 314 = nI n → (∀ j, j < n → W (315 + 3 * j) = bI (Y j).1 ∧ W (316 + 3 * j) = nI (Y j).2.1 ∧ W (317 + 3 * j) = nI (Y j).2.2) → (∀ k, k < S.length → W (351 + 2 * k) = (S.getD k (0, 0)).1 ∧ W (352 + 2 * k) = (S.getD k (0, 0)).2) → LawW W n (fun j => (Y j).1) t) := by
  obtain ⟨t, c, h1, h2, h3⟩ := h
  refine ⟨t, fun sz codes e1 e2 => ⟨c, h1, by rw [e1, h2], by omega, fun j hj => ?_⟩, fun W w1 w2 w3 => ⟨w1, fun j => (Y j).2.1, fun j => (Y j).2.2, fun j hj => ?_⟩⟩
  · obtain ⟨cs, ss, x1, x2, x3, x4, x5, x6, x7, x8⟩ := h3 j hj
    have k : ∀ k, k < cs.length → codes (c j + k) = cs.getD k 0 := fun k hk => by rw [e2 _ (by omega)]; exact x3 k hk
    refine ⟨by omega, ?_, fun i hi hi2 => ?_, fun F l => ?_⟩
    · rw [show c (j + 1) - 1 = c j + cs.length by omega, e2 _ (by omega)]
      exact x4
    · have hk := k (i - c j) (by omega)
      rw [show c j + (i - c j) = i by omega] at hk
      rw [hk]
      apply x8.1
      exact gD_m (by omega)
    · rw [show c (j + 1) - 1 - c j = cs.length by omega, cR_cL k cs.length (Nat.le_refl _), List.take_length]
      exact x8.2.1 F l
  · obtain ⟨cs, ss, x1, x2, x3, x4, x5, x6, x7, x8⟩ := h3 j hj
    obtain ⟨y1, y2, y3⟩ := w2 j hj
    have k : ∀ k, k < ss.length → W (351 + 2 * ((Y j).2.1 + k)) = (ss.getD k (0, 0)).1 ∧ W (352 + 2 * ((Y j).2.1 + k)) = (ss.getD k (0, 0)).2 := fun k hk => by
      have := w3 ((Y j).2.1 + k) (by omega)
      rw [x7 k hk] at this
      exact this
    refine ⟨y1, y2, y3, by show (Y j).2.1 ≤ (Y j).2.2; omega, by show (Y j).2.2 ≤ 400; omega, fun F => ?_⟩
    show (∀ m, m ≤ (Y j).2.2 - (Y j).2.1 → ∃ st, mR F W (Y j).2.1 m [] = some st) ∧ ((mR F W (Y j).2.1 ((Y j).2.2 - (Y j).2.1) [] = some [] ∧ t j F = true) ∨ mR F W (Y j).2.1 ((Y j).2.2 - (Y j).2.1) [] = some [bI (t j F)])
    rw [show (Y j).2.2 - (Y j).2.1 = ss.length by omega, mR_mL k ss.length (Nat.le_refl _), List.take_length]
    refine ⟨fun m hm => ?_, x8.2.2 F⟩
    rw [mR_mL k m hm]
    rcases x8.2.2 F with ⟨z, -⟩ | z
    · exact mL_pre z m
    · exact mL_pre z m
