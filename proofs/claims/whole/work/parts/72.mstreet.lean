/-! ===== the model reads a house ===== -/
theorem wd_eq {b : Nat → Int32} {n B w w' : Nat} (h : sY.getD w' [] = sY.getD w []) : wdB b n B w' = wdB b n B w := by
  unfold wdB sL sC
  rw [h]
theorem lt_e1 {α : Type} {e : α} {c : Int32} {k : α → Option (Int32 × VT)} {P : VT → Prop} (h : ∀ x, x = e → ∃ r, k x = some (c, r) ∧ P r) : ∃ r, lt_ e k = some (c, r) ∧ P r := h e rfl
/-- a row of the model's, from a on, being written -/
def Ws (V V' : VT) (a m : Nat) (w : Nat → Int32) : Prop := (∀ q, q ≠ 76 → V' q = V q) ∧ ∀ j, V' 76 j = if a ≤ j ∧ j < a + m then w (j - a) else V 76 j
theorem Ws.u {V V1 : VT} {a m k : Nat} {w : Nat → Int32} {x : Int32} (h : Ws V V1 a m w) (hk : k < m) : Ws V (va_up V1 76 (upd (V1 76) (a + k) x)) a m (upd w k x) := by
  refine ⟨fun q c => by rw [va_n c]; exact h.1 q c, fun j => ?_⟩
  rw [va_s]
  by_cases e : j = a + k
  · rw [e, pk_us, if_pos (by omega), show a + k - a = k by omega, pk_us]
  · rw [pk_un e, h.2 j]
    by_cases c : a ≤ j ∧ j < a + m
    · rw [if_pos c, if_pos c, pk_un (by omega)]
    · rw [if_neg c, if_neg c]
theorem Ws.rf {V : VT} {a m : Nat} : Ws V V a m (fun k => V 76 (a + k)) := ⟨fun _ _ => rfl, fun j => by
    by_cases c : a ≤ j ∧ j < a + m
    · rw [if_pos c]; exact congrArg _ (by omega)
    · rw [if_neg c]⟩
/-- what reading a line may write -/
def Gs (V V' : VT) : Prop := (∀ q, q ≠ 22 → q ≠ 76 → V' q = V q) ∧ (∀ k, 314 ≤ k → V' 76 k = V 76 k) ∧ ∀ k, k ≠ 10 → k ≠ 12 → V' 22 k = V 22 k
theorem Gs.rf {V : VT} : Gs V V := ⟨fun _ _ _ => rfl, fun _ _ => rfl, fun _ _ _ => rfl⟩
theorem Gs.tr {V V1 V2 : VT} (h1 : Gs V V1) (h2 : Gs V1 V2) : Gs V V2 := ⟨fun q a c => (h2.1 q a c).trans (h1.1 q a c), fun k hk => (h2.2.1 k hk).trans (h1.2.1 k hk), fun k a c => (h2.2.2 k a c).trans (h1.2.2 k a c)⟩
theorem Mg.gs {V V' : VT} (h : Mg V V') : Gs V V' := ⟨fun q a _ => h.1 q a, fun k _ => by rw [h.1 76 (by omega)], h.2⟩
theorem Ws.gs {V V' : VT} {a m : Nat} {w : Nat → Int32} (h : Ws V V' a m w) (ha : a + m ≤ 314) : Gs V V' := ⟨fun q _ c => h.1 q c, fun k hk => by rw [h.2, if_neg (by omega)], fun k _ _ => by rw [h.1 22 (by omega)]⟩
theorem Gs.u {V : VT} {k : Nat} {x : Int32} (hk : k < 314) : Gs V (va_up V 76 (upd (V 76) k x)) := ⟨fun q _ c => va_n c, fun j hj => by rw [va_s, pk_un (by omega)], fun j _ _ => by rw [va_n (by omega)]⟩
theorem MP.u {V : VT} {b : Nat → Int32} {n p : Nat} {f : Nat → Int32} (h : MP V b n p) : MP (va_up V 76 f) b n p := by
  unfold MP
  rw [va_n (by omega), va_n (by omega)]
  exact h
section MT
variable {V V1 : VT} {b : Nat → Int32} {n p : Nat} {A : AT}
theorem m_an (hM : MP V b n p) (hy : ∀ k, k < 400 → by_ (b k)) (hp : p ≤ n) (hn : n ≤ 400) {w w' lo hi : Nat} (hl : lo < 2 ^ 31) (hh : hi < 2 ^ 31) (hw : w' < 65) (hw2 : 16 ≤ w') (hww : sY.getD w' [] = sY.getD w []) :
    (∃ f V', wnP b n p w lo hi = .inl f ∧ fX10_after V w' (nI lo) (nI hi) = some (-1, V') ∧ V' 22 12 = nI f ∧ Mg V V') ∨
    (∃ v q V', wnP b n p w lo hi = .inr (v, q) ∧ fX10_after V w' (nI lo) (nI hi) = some (nI v, V') ∧ MP V' b n q ∧ lo ≤ v ∧ v ≤ hi ∧ q ≤ n ∧ Mg V V') := by
  obtain ⟨V', e, a1, a2, a3⟩ := m_after hM hy hp hn hl hh hw hw2
  rw [wd_eq hww] at e a1 a2
  cases h : wnP b n p w lo hi with
  | inl f =>
    left
    refine ⟨f, V', rfl, ?_, ?_, a3⟩
    · rw [e]
      unfold wnP at h
      by_cases c1 : wdB b n (sk b n p) w = true
      · rw [if_pos c1] at h
        by_cases c2 : nuB b n (sk b n (le_ b n (sk b n p))) lo hi = true
        · rw [if_pos c2] at h; cases h
        · rw [if_neg (fun h => c2 h.2)]
      · rw [if_neg (fun h => c1 h.1)]
    · rw [a2]
      unfold wnP at h
      by_cases c1 : wdB b n (sk b n p) w = true
      · rw [if_pos c1] at h ⊢
        by_cases c2 : nuB b n (sk b n (le_ b n (sk b n p))) lo hi = true
        · rw [if_pos c2] at h; cases h
        · rw [if_neg c2] at h
          rw [Sum.inl.inj h]
      · rw [if_neg c1] at h ⊢
        rw [Sum.inl.inj h]
  | inr vq =>
    obtain ⟨v, q⟩ := vq
    right
    obtain ⟨x1, x2, x3⟩ := wnP_b hp h
    unfold wnP at h
    by_cases c1 : wdB b n (sk b n p) w = true
    · rw [if_pos c1] at h a1
      by_cases c2 : nuB b n (sk b n (le_ b n (sk b n p))) lo hi = true
      · rw [if_pos c2] at h
        rw [if_pos ⟨c1, c2⟩] at e
        have h := Sum.inr.inj h
        have hq := congrArg Prod.snd h
        have hv := congrArg Prod.fst h
        dsimp only at hq hv
        subst hq hv
        exact ⟨_, _, V', rfl, e, a1, x1, x2, x3, a3⟩
      · rw [if_neg c2] at h; cases h
    · rw [if_neg c1] at h; cases h
theorem q_ge {α : Type} {k : Nat} (hk : k < 2 ^ 31) {x y : α} : (if 0 ≤ nI k then x else y) = x := if_pos (nI_le (a := 0) (by omega) hk)
theorem q_gm {α : Type} {x y : α} : (if (0 : Int32) ≤ -1 then x else y) = y := if_neg (by decide)
theorem m_hsend (hM : RM (V 76) A) (h8 : aS A 0 < 8) {a c d e f g : Nat} (hg : g < 2 ^ 31) : ∃ V', fX10_readHouse_j125 V (nI (aS A 0)) (nI a) (nI c) (nI d) (nI e) (nI f) (nI g) = some (1, V') ∧ RM (V' 76) (hsA A (rw8 a c d e f g)) ∧ Gs V V' ∧ V' 22 = V 22 := by
  have hat : ∀ (V : VT) (k : Nat), fX10_at V (nI (aS A 0)) (nI k) = some (nI (10 + 8 * aS A 0 + k)) := fun V k => by
    unfold fX10_at
    rw [q_mulL, q_addL, nI_add]
  unfold fX10_readHouse_j125
  rw [q_ge hg]
  have z0 : Ws V V (10 + 8 * aS A 0) 8 _ := Ws.rf
  rw [show (0 : Int32) = nI 0 from rfl, show (1 : Int32) = nI 1 from rfl, show (2 : Int32) = nI 2 from rfl, show (3 : Int32) = nI 3 from rfl, show (4 : Int32) = nI 4 from rfl, show (5 : Int32) = nI 5 from rfl, show (6 : Int32) = nI 6 from rfl, show (7 : Int32) = nI 7 from rfl]
  simp only [hat, q_R]
  rw [q_rd (by omega) (by omega), nI_clamp (by omega)]
  refine lt_e1 (fun W1 e1 => ?_)
  have z1 := z0.u (k := 0) (x := nI a) (by omega); rw [← e1] at z1; clear e1
  rw [q_rd (by omega) (by omega), nI_clamp (by omega)]
  refine lt_e1 (fun W2 e1 => ?_)
  have z2 := z1.u (k := 1) (x := nI c) (by omega); rw [← e1] at z2; clear e1
  rw [q_rd (by omega) (by omega), nI_clamp (by omega)]
  refine lt_e1 (fun W3 e1 => ?_)
  have z3 := z2.u (k := 2) (x := nI d) (by omega); rw [← e1] at z3; clear e1
  rw [q_rd (by omega) (by omega), nI_clamp (by omega)]
  refine lt_e1 (fun W4 e1 => ?_)
  have z4 := z3.u (k := 3) (x := nI e) (by omega); rw [← e1] at z4; clear e1
  rw [q_rd (by omega) (by omega), nI_clamp (by omega)]
  refine lt_e1 (fun W5 e1 => ?_)
  have z5 := z4.u (k := 4) (x := nI f) (by omega); rw [← e1] at z5; clear e1
  rw [q_rd (by omega) (by omega), nI_clamp (by omega)]
  refine lt_e1 (fun W6 e1 => ?_)
  have z6 := z5.u (k := 5) (x := nI g) (by omega); rw [← e1] at z6; clear e1
  rw [q_rd (by omega) (by omega), nI_clamp (by omega)]
  refine lt_e1 (fun W7 e1 => ?_)
  have z7 := z6.u (k := 6) (x := nI 0) (by omega); rw [← e1] at z7; clear e1
  rw [q_rd (by omega) (by omega), nI_clamp (by omega)]
  refine lt_e1 (fun W8 e1 => ?_)
  have z8 := z7.u (k := 7) (x := nI 0) (by omega); rw [← e1] at z8; clear e1
  clear z0 z1 z2 z3 z4 z5 z6 z7
  rw [q_rd (by omega) (by omega), q_rd (by omega) (by omega), nI_clamp (by omega), z8.2 0, if_neg (by omega), hM.1 0 (by omega), nI_add, q_lt, show nI 1 = (1 : Int32) from rfl, q_zo1]
  refine ⟨_, rfl, ?_, (z8.gs (by omega)).tr (Gs.u (by omega)), by rw [va_n (by omega)]; exact z8.1 22 (by omega)⟩
  rw [va_s]
  obtain ⟨m0, m9, mh, md, md2, ml⟩ := hM
  refine ⟨?_, ?_, ?_, ?_, ?_, ?_⟩
  · intro k hk
    by_cases e0 : k = 0
    · rw [e0, pk_us, hs_0]
    · rw [pk_un e0, hs_S e0, z8.2, if_neg (by omega)]; exact m0 k hk
  · rw [pk_un (by omega), z8.2, if_neg (by omega)]; exact m9
  · intro h k h1 h2
    rw [hs_0] at h1
    rw [pk_un (by omega), z8.2, hs_H]
    by_cases e0 : h = aS A 0
    · rw [if_pos e0, if_pos (by omega), show 10 + 8 * h + k - (10 + 8 * aS A 0) = k by omega]
      rcases (by omega : k = 0 ∨ k = 1 ∨ k = 2 ∨ k = 3 ∨ k = 4 ∨ k = 5 ∨ k = 6 ∨ k = 7) with e | e | e | e | e | e | e | e <;> subst e <;> rfl
    · rw [if_neg e0, if_neg (by omega)]; exact mh h k (by omega) h2
  · intro d k h1 h2 h3
    rw [hs_S (by omega)] at h1
    rw [pk_un (by omega), z8.2, if_neg (by omega), hs_D]; exact md d k h1 h2 h3
  · intro d h1
    rw [hs_S (by omega)] at h1
    rw [pk_un (by omega), z8.2, if_neg (by omega), hs_D]; exact md2 d h1
  · intro j k h1 h2
    rw [hs_S (by omega)] at h1
    rw [pk_un (by omega), z8.2, if_neg (by omega), hs_L]; exact ml j k h1 h2
end MT
