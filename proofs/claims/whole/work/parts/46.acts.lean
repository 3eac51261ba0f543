/-! ===== acts: what was is kept ===== -/
theorem va_self {α : Type} (f : Nat → α) (k : Nat) : va_up f k (f k) = f := by
  funext j
  by_cases h : j = k
  · rw [h, va_s]
  · rw [va_n h]
theorem va_uu {α : Type} (f : Nat → α) (k : Nat) (a b : α) : va_up (va_up f k a) k b = va_up f k b := by
  funext j
  by_cases h : j = k
  · rw [h, va_s, va_s]
  · rw [va_n h, va_n h, va_n h]
def sA (g : GA) (A' : AT) : GA := (A', g.2)
def remG (g : GA) : GA := (g.1, g.2.1, g.2.2.1, g.2.2.2.1, g.2.2.2.2.1, (min (xc g + 1) 12, fun j => if j = 0 then xA g else xa g (j - 1)))
def fgG (g : GA) : GA := (g.1, g.2.1, g.2.2.1, g.2.2.2.1, g.2.2.2.2.1, (0, xa g))
theorem op_g {f9 : VT → Option ((String ⊕ Int32) × VT)} {f10 : VT → Option (Int32 × VT)} {cd : String → Int32} {V : VT} {g g' : GA} (hM : MIN V g) (x : Int32) (h9 : ∃ V1, f9 V = some (.inr x, V1) ∧ CIN V1 g' ∧ V1 22 = V 22 ∧ ∀ j, 76 ≤ j → V1 j = V j) (h10 : ∀ V1, MIN V1 g → ∃ V2, f10 V1 = some (x, V2) ∧ MIN V2 g' ∧ (∀ j, j < 76 → j ≠ 22 → V2 j = V1 j) ∧ V2 22 0 = 0) : OpE f9 f10 cd V := by
  obtain ⟨V1, e1, c1, a1, a2⟩ := h9
  obtain ⟨V2, e2, m2, b1, b2⟩ := h10 V1 (hM.c a1 a2)
  exact ⟨_, V1, x, V2, e1, e2, ⟨g', c1.w (fun j hj => b1 j (by omega) (by omega)) (by rw [b1 1 (by omega) (by omega)]) (fun k _ => by rw [b1 17 (by omega) (by omega)]), m2⟩, Or.inl ⟨x, rfl, rfl, b2⟩⟩
theorem op_gi {f9 : VT → Option (Int32 × VT)} {f10 : VT → Option (Int32 × VT)} {V : VT} {g g' : GA} (hM : MIN V g) (x : Int32) (h9 : ∃ V1, f9 V = some (x, V1) ∧ CIN V1 g' ∧ V1 22 = V 22 ∧ ∀ j, 76 ≤ j → V1 j = V j) (h10 : ∀ V1, MIN V1 g → ∃ V2, f10 V1 = some (x, V2) ∧ MIN V2 g' ∧ ∀ j, j < 76 → j ≠ 22 → V2 j = V1 j) : OpI f9 f10 V := by
  obtain ⟨V1, e1, c1, a1, a2⟩ := h9
  obtain ⟨V2, e2, m2, b1⟩ := h10 V1 (hM.c a1 a2)
  exact ⟨x, V1, V2, e1, e2, ⟨g', c1.w (fun j hj => b1 j (by omega) (by omega)) (by rw [b1 1 (by omega) (by omega)]) (fun k _ => by rw [b1 17 (by omega) (by omega)]), m2⟩⟩
theorem sl_in {α : Type} {n : Nat} {a : Option α} {b : Nat → Option α} (h : n < 12) : sl_ (nI n) a b = b (5 + n) := by
  unfold sl_
  rw [if_neg (nI_in h (by omega)), nI_clamp (by omega)]
theorem q_r12 {k : Nat} (hk : k < 2 ^ 31) : nI k - nI k / 12 * 12 = nI (k % 12) := pk_rem hk (d := 12) (by omega) (by omega)
section OP
variable {V : VT} {g : GA}
theorem c_remember (hC : CIN V g) : ∃ V1, fX0_remember V 2 = some V1 ∧ CIN V1 (remG g) ∧ ∀ j, j = 22 ∨ 76 ≤ j → V1 j = V j := by
  obtain ⟨h1, h2, h3, h4, h5, h6, h7, h8, h9, h10, nx, h11, h12, h13⟩ := hC
  unfold fX0_remember
  rw [h12, sl_in h11]
  obtain ⟨V4, e4, hR4, hq4⟩ := c_copy (i := 5 + nx) h1 h2 (by omega) (by omega) (by omega)
  have e20 : V4 20 = V 20 := hq4 20 ⟨by omega, by omega, by omega, by omega⟩
  rw [e4, q_R, e20, h12, nI_1, q_r12 (by omega), q_lt]
  have e5 : (va_up V4 20 (upd (V 20) 1 (nI ((nx + 1) % 12)))) 20 2 = nI (xc g) := by rw [va_s, pk_un (by omega)]; exact h10
  rw [e5, nI_1]
  have e6 : (if (12 : Int32) < nI (xc g + 1) then (12 : Int32) else nI (xc g + 1)) = nI (min 12 (xc g + 1)) := q_mi (a := 12) (by omega) (by omega)
  rw [e6, q_lt, va_uu, va_s]
  have f1 : upd (upd (V 20) 1 (nI ((nx + 1) % 12))) 2 (nI (min 12 (xc g + 1))) 1 = nI ((nx + 1) % 12) := by rw [pk_un (by omega), pk_us]
  have f2 : upd (upd (V 20) 1 (nI ((nx + 1) % 12))) 2 (nI (min 12 (xc g + 1))) 2 = nI (min (xc g + 1) 12) := by rw [pk_us, Nat.min_comm]
  generalize upd (upd (V 20) 1 (nI ((nx + 1) % 12))) 2 (nI (min 12 (xc g + 1))) = f at f1 f2 ⊢
  have e : ∀ j, j ≠ 20 → StN (5 + nx) j → va_up V4 20 f j = V j := fun j a b => by rw [va_n a]; exact hq4 j b
  refine ⟨_, rfl, ⟨h1.w (e _ (by omega) ⟨by omega, by omega, by omega, by omega⟩) (e _ (by omega) ⟨by omega, by omega, by omega, by omega⟩) (e _ (by omega) ⟨by omega, by omega, by omega, by omega⟩) (e _ (by omega) ⟨by omega, by omega, by omega, by omega⟩), h2, ?_, ?_, ?_, ?_, ?_, fun hk => ?_, ?_, ?_, (nx + 1) % 12, Nat.mod_lt _ (by omega), ?_, fun j hj => ?_⟩, fun j hj => e j (by omega) ⟨by omega, by omega, by omega, by omega⟩⟩
  · rw [e 17 (by omega) ⟨by omega, by omega, by omega, by omega⟩]; exact h3
  · rw [e 17 (by omega) ⟨by omega, by omega, by omega, by omega⟩, e 69 (by omega) ⟨by omega, by omega, by omega, by omega⟩]; exact h4
  · rw [e 1 (by omega) ⟨by omega, by omega, by omega, by omega⟩, e 23 (by omega) ⟨by omega, by omega, by omega, by omega⟩]; exact h5
  · rw [e 0 (by omega) ⟨by omega, by omega, by omega, by omega⟩]; exact h6
  · rw [e 0 (by omega) ⟨by omega, by omega, by omega, by omega⟩]; exact h7
  · obtain ⟨x1, x2, x3, x4⟩ := h8 hk
    refine ⟨x1.w (e _ (by omega) ⟨by omega, by omega, by omega, by omega⟩) (e _ (by omega) ⟨by omega, by omega, by omega, by omega⟩) (e _ (by omega) ⟨by omega, by omega, by omega, by omega⟩) (e _ (by omega) ⟨by omega, by omega, by omega, by omega⟩), x2, ?_, ?_⟩
    · rw [e 19 (by omega) ⟨by omega, by omega, by omega, by omega⟩]; exact x3
    · rw [e 19 (by omega) ⟨by omega, by omega, by omega, by omega⟩, e 71 (by omega) ⟨by omega, by omega, by omega, by omega⟩]; exact x4
  · show min (xc g + 1) 12 ≤ 12
    omega
  · rw [va_s]; exact f2
  · rw [va_s]; exact f1
  · have hj : j < min (xc g + 1) 12 := hj
    show RS _ _ (if j = 0 then xA g else xa g (j - 1)) ∧ WA (if j = 0 then xA g else xa g (j - 1))
    by_cases e0 : j = 0
    · rw [if_pos e0, e0, show 5 + ((nx + 1) % 12 + 11 - 0) % 12 = 5 + nx by omega]
      exact ⟨hR4.w (va_n (by omega)) (va_n (by omega)) (va_n (by omega)) (va_n (by omega)), h2⟩
    · rw [if_neg e0]
      obtain ⟨y1, y2⟩ := h13 (j - 1) (by omega)
      rw [show 5 + ((nx + 1) % 12 + 11 - j) % 12 = 5 + (nx + 11 - (j - 1)) % 12 by omega]
      exact ⟨y1.w (e _ (by omega) ⟨by omega, by omega, by omega, by omega⟩) (e _ (by omega) ⟨by omega, by omega, by omega, by omega⟩) (e _ (by omega) ⟨by omega, by omega, by omega, by omega⟩) (e _ (by omega) ⟨by omega, by omega, by omega, by omega⟩), y2⟩
theorem m_L55 {V : VT} {c : Nat} (hc : c < 12) (h7 : V 22 7 = nI (c + 1)) : it_ iX10_remembers_L55 FV (V, 0) = some (va_up V 80 (fb_put (V 80) (V 76) (314 * c) 314)) := by
  have e := lq (f := iX10_remembers_L55) (r := va_up V 80 (fb_put (V 80) (V 76) (314 * c) 314)) (fun k => va_up V 80 (fb_put (V 80) (V 76) (314 * c) k)) (fun a k => (a, nI k)) 314 (by omega)
    (by
      intro k hk
      unfold iX10_remembers_L55 fX10_remembers_L55
      simp only []
      rw [if_neg (show ¬ (314 : Int32) ≤ nI k from nI_ge (b := 314) hk (by omega)), va_n (show (22 : Nat) ≠ 80 by omega), h7, nI_pred, q_mulL, nI_add, q_rd (by omega) (by omega), q_rd (by omega) (by omega), nI_clamp (by omega), nI_clamp (by omega), va_n (show (76 : Nat) ≠ 80 by omega), va_s, va_uu, q_lt, q_lt, nI_1, fb_put_succ])
    (by
      unfold iX10_remembers_L55 fX10_remembers_L55
      simp only []
      rw [if_pos (show (314 : Int32) ≤ nI 314 from nI_le (Nat.le_refl _) (by omega))])
  simp only [fb_put_0, va_self] at e
  exact e
theorem m_L11 {V : VT} : it_ iX10_remembers_L11 FV (V, 0) = some (va_up V 80 (fa_fill (fun q => V 80 (q + 314)) (V 80) 3454)) := by
  have e := lq (f := iX10_remembers_L11) (r := va_up V 80 (fa_fill (fun q => V 80 (q + 314)) (V 80) 3454)) (fun k => va_up V 80 (fa_fill (fun q => V 80 (q + 314)) (V 80) k)) (fun a k => (a, nI k)) 3454 (by omega)
    (by
      intro k hk
      unfold iX10_remembers_L11 fX10_remembers_L11
      simp only []
      rw [if_neg (show ¬ (3454 : Int32) ≤ nI k from nI_ge (b := 3454) hk (by omega)), q_add, q_rd (by omega) (by omega), q_rd (by omega) (by omega), nI_clamp (by omega), nI_clamp (by omega), va_s, fa_fill_out (k := k + 314) (by omega), va_uu, q_lt, q_lt, nI_1]
      have this : upd (fa_fill (fun q => V 80 (q + 314)) (V 80) k) k (V 80 (k + 314)) = _ := fa_fill_succ (fun q => V 80 (q + 314)) (V 80) k
      rw [this])
    (by
      unfold iX10_remembers_L11 fX10_remembers_L11
      simp only []
      rw [if_pos (show (3454 : Int32) ≤ nI 3454 from nI_le (Nat.le_refl _) (by omega))])
  simp only [fa_fill_0, va_self] at e
  exact e
theorem m_remembers (hM : MIN V g) : ∃ V2, fX10_remembers V = some V2 ∧ MIN V2 (remG g) ∧ (∀ j, j ≠ 22 → j ≠ 80 → V2 j = V j) ∧ ∀ k, k ≠ 7 → V2 22 k = V 22 k := by
  obtain ⟨h1, h2, h3, h4, h5, h6, h7, h8, h9, h10, h11⟩ := hM
  unfold fX10_remembers
  rw [h10]
  have fin : ∀ V2 : VT, (∀ j, j ≠ 22 → j ≠ 80 → V2 j = V j) → (∀ k, k ≠ 7 → V2 22 k = V 22 k) → V2 22 7 = nI (min (xc g + 1) 12) → (∀ j, j < min (xc g + 1) 12 → ∀ q, q < 314 → V2 80 (314 * (min (xc g + 1) 12 - 1 - j) + q) = if j = 0 then V 76 q else V 80 (314 * (xc g - 1 - (j - 1)) + q)) → MIN V2 (remG g) := by
    intro V2 a1 a2 a3 a4
    refine ⟨?_, h2, ?_, ?_, ?_, ?_, ?_, ?_, ?_, a3, fun j hj => ?_⟩
    · rw [a1 76 (by omega) (by omega)]; exact h1
    · rw [a1 76 (by omega) (by omega)]; exact h3
    · rw [a1 76 (by omega) (by omega)]; exact h4
    · rw [a2 9 (by omega), a1 81 (by omega) (by omega)]; exact h5
    · rw [a2 14 (by omega)]; exact h6
    · rw [a2 6 (by omega)]; exact h7
    · rw [a1 77 (by omega) (by omega)]; exact h8
    · show min (xc g + 1) 12 ≤ 12
      omega
    · have hj : j < min (xc g + 1) 12 := hj
      have b := a4 j hj
      show RM (fun q => V2 80 (314 * (min (xc g + 1) 12 - 1 - j) + q)) (if j = 0 then xA g else xa g (j - 1)) ∧ WA (if j = 0 then xA g else xa g (j - 1)) ∧ aS (if j = 0 then xA g else xa g (j - 1)) 3 = aS (xA g) 3
      by_cases e0 : j = 0
      · simp only [if_pos e0] at b ⊢
        exact ⟨h1.w h2 b, h2, trivial⟩
      · simp only [if_neg e0] at b ⊢
        obtain ⟨y1, y2, y3⟩ := h11 (j - 1) (by omega)
        exact ⟨y1.w y2 b, y2, y3⟩
  by_cases h12 : xc g = 12
  · rw [h12, if_pos (show nI 12 = 12 from rfl), m_L11, q_R, q_lt]
    rw [m_L55 (c := 11) (by omega) (by rw [va_n (by omega), h10, h12]), q_R, va_s, va_uu, va_n (show (76 : Nat) ≠ 80 by omega)]
    refine ⟨_, rfl, fin _ (fun j _ a => va_n a) (fun k _ => by rw [va_n (by omega)]) (by rw [va_n (by omega), h10, h12]; rfl) (fun j hj q hq => ?_), fun j _ a => va_n a, fun k _ => by rw [va_n (by omega)]⟩
    rw [va_s]
    by_cases e0 : j = 0
    · rw [if_pos e0, fb_put_in (by omega) (by omega)]
      exact congrArg (V 76) (by omega)
    · rw [if_neg e0, fb_put_out (by omega), fa_fill_in (by omega)]
      exact congrArg (V 80) (by omega)
  · rw [if_neg (show ¬ nI (xc g) = 12 from fun e => h12 ((nI_eq (b := 12) (by omega) (by omega)).1 e)), nI_1, q_lt]
    rw [m_L55 (c := xc g) (by omega) (by rw [va_s, pk_us]), q_R, va_n (show (80 : Nat) ≠ 22 by omega), va_n (show (76 : Nat) ≠ 22 by omega)]
    refine ⟨_, rfl, fin _ (fun j a b => by rw [va_n b, va_n a]) (fun k hk => by rw [va_n (by omega), va_s, pk_un hk]) (by rw [va_n (by omega), va_s, pk_us, Nat.min_eq_left (by omega)]) (fun j hj q hq => ?_), fun j a b => by rw [va_n b, va_n a], fun k hk => by rw [va_n (by omega), va_s, pk_un hk]⟩
    rw [va_s]
    by_cases e0 : j = 0
    · rw [if_pos e0, fb_put_in (by omega) (by omega)]
      exact congrArg (V 76) (by omega)
    · rw [if_neg e0, fb_put_out (by omega)]
      exact congrArg (V 80) (by omega)
/-- what a day of state i writes -/
def Cd (i : Nat) (V V' : VT) : Prop := (∀ q, StN i q → q ≠ 17 → V' q = V q) ∧ ∀ k, k < 3 → V' 17 k = V 17 k
theorem Cd.rf {i : Nat} {V : VT} : Cd i V V := ⟨fun _ _ _ => rfl, fun _ _ => rfl⟩
theorem Cd.tr {i : Nat} {V V1 V2 : VT} (h1 : Cd i V V1) (h2 : Cd i V1 V2) : Cd i V V2 := ⟨fun q a b => (h2.1 q a b).trans (h1.1 q a b), fun k hk => (h2.2 k hk).trans (h1.2 k hk)⟩
theorem Ly.d {i : Nat} {V V' : VT} (h : Ly V V') : Cd i V V' := ⟨fun q _ b => h.1 q b, h.2⟩
theorem Cd.u {i j : Nat} {V : VT} {f : Nat → Int32} (hi : i < 17) (h : j = i ∨ j = 18 + 3 * i + 0 ∨ j = 18 + 3 * i + 1 ∨ j = 18 + 3 * i + 2) : Cd i V (va_up V j f) := ⟨fun q a b => va_n (by obtain ⟨a1, a2, a3, a4⟩ := a; omega), fun k _ => by rw [va_n (by omega)]⟩
theorem Cd.of {i j : Nat} {V V' : VT} (hi : i < 17) (h : j = i ∨ j = 18 + 3 * i + 0 ∨ j = 18 + 3 * i + 1 ∨ j = 18 + 3 * i + 2) (e : ∀ q, q ≠ j → V' q = V q) : Cd i V V' := ⟨fun q a b => e q (by obtain ⟨a1, a2, a3, a4⟩ := a; omega), fun k _ => by rw [e 17 (by omega)]⟩
theorem CT.d {V V' : VT} {i : Nat} {A A' : AT} {L : Fa → Bool} (h : CT V i A L) (hd : Cd i V V') (hR : RS V' i A') (hW : WA A') : CT V' i A' L := by
  obtain ⟨h1, h2, h3, h4⟩ := h
  refine ⟨hR, hW, ?_, h4⟩
  rw [hd.2 2 (by omega), hd.2 1 (by omega), hd.1 69 ⟨by omega, by omega, by omega, by omega⟩ (by omega)]
  exact h3
def Md (V V' : VT) : Prop := (∀ j, j ≠ 22 → j ≠ 76 → j ≠ 83 → V' j = V j) ∧ (∀ k, 314 ≤ k → V' 76 k = V 76 k) ∧ ∀ k, k < 18 ∨ 24 < k → V' 22 k = V 22 k
theorem Md.rf {V : VT} : Md V V := ⟨fun _ _ _ _ => rfl, fun _ _ => rfl, fun _ _ => rfl⟩
theorem Md.tr {V V1 V2 : VT} (h1 : Md V V1) (h2 : Md V1 V2) : Md V V2 := ⟨fun j a b c => (h2.1 j a b c).trans (h1.1 j a b c), fun k hk => (h2.2.1 k hk).trans (h1.2.1 k hk), fun k hk => (h2.2.2 k hk).trans (h1.2.2 k hk)⟩
theorem My.d {V V' : VT} (h : My V V') : Md V V' := ⟨fun j a _ c => h.1 j a c, fun k _ => by rw [h.1 76 (by omega) (by omega)], h.2⟩
theorem Md.u {V : VT} {k : Nat} {x : Int32} (hk : k < 314) : Md V (va_up V 76 (upd (V 76) k x)) := ⟨fun j _ b _ => va_n b, fun q hq => by rw [va_s, pk_un (by omega)], fun q _ => by rw [va_n (by omega)]⟩
theorem Md.f {V : VT} {f : Nat → Int32} (hf : ∀ k, 314 ≤ k → f k = V 76 k) : Md V (va_up V 76 f) := ⟨fun j _ b _ => va_n b, fun q hq => by rw [va_s]; exact hf q hq, fun q _ => by rw [va_n (by omega)]⟩
theorem MT.d {V V' : VT} {A A' : AT} {L : Fa → Bool} (h : MT V A L) (hd : Md V V') (hR : RM (V' 76) A') (hW : WA A') (h3 : aS A' 3 = aS A 3) : MT V' A' L := by
  refine ⟨hR, hW, h.2.2.w ?_ (fun k a _ => hd.2.1 k a)⟩
  rw [hR.1 3 (by omega), h.1.1 3 (by omega), h3]
theorem CIN.A {V V' : VT} {g : GA} {A' : AT} (h : CIN V g) (hR : RS V' 2 A') (hW : WA A') (hd : Cd 2 V V') : CIN V' (sA g A') := by
  obtain ⟨h1, h2, h3, h4, h5, h6, h7, h8, h9, h10, nx, h11, h12, h13⟩ := h
  have e : ∀ j, j ≠ 2 → j ≠ 24 → j ≠ 25 → j ≠ 26 → j ≠ 17 → V' j = V j := fun j a b c d f => hd.1 j ⟨a, b, c, d⟩ f
  refine ⟨hR, hW, by rw [hd.2 2 (by omega)]; exact h3, by rw [hd.2 2 (by omega), hd.2 1 (by omega), e 69 (by omega) (by omega) (by omega) (by omega) (by omega)]; exact h4, by rw [e 1 (by omega) (by omega) (by omega) (by omega) (by omega), e 23 (by omega) (by omega) (by omega) (by omega) (by omega)]; exact h5, by rw [e 0 (by omega) (by omega) (by omega) (by omega) (by omega)]; exact h6, by rw [e 0 (by omega) (by omega) (by omega) (by omega) (by omega)]; exact h7, fun hk => ?_, h9, by rw [e 20 (by omega) (by omega) (by omega) (by omega) (by omega)]; exact h10, nx, h11, by rw [e 20 (by omega) (by omega) (by omega) (by omega) (by omega)]; exact h12, fun j hj => ⟨(h13 j hj).1.w (e _ (by omega) (by omega) (by omega) (by omega) (by omega)) (e _ (by omega) (by omega) (by omega) (by omega) (by omega)) (e _ (by omega) (by omega) (by omega) (by omega) (by omega)) (e _ (by omega) (by omega) (by omega) (by omega) (by omega)), (h13 j hj).2⟩⟩
  obtain ⟨x1, x2, x3, x4⟩ := h8 hk
  exact ⟨x1.w (e _ (by omega) (by omega) (by omega) (by omega) (by omega)) (e _ (by omega) (by omega) (by omega) (by omega) (by omega)) (e _ (by omega) (by omega) (by omega) (by omega) (by omega)) (e _ (by omega) (by omega) (by omega) (by omega) (by omega)), x2, by rw [e 19 (by omega) (by omega) (by omega) (by omega) (by omega)]; exact x3, by rw [e 19 (by omega) (by omega) (by omega) (by omega) (by omega), e 71 (by omega) (by omega) (by omega) (by omega) (by omega)]; exact x4⟩
theorem MIN.A {V V' : VT} {g : GA} {A' : AT} (h : MIN V g) (hR : RM (V' 76) A') (hW : WA A') (hs : aS A' 3 = aS (xA g) 3) (hd : Md V V') : MIN V' (sA g A') := by
  obtain ⟨h1, h2, h3, h4, h5, h6, h7, h8, h9, h10, h11⟩ := h
  have e3 : V' 76 3 = V 76 3 := by rw [hR.1 3 (by omega), h1.1 3 (by omega), hs]
  refine ⟨hR, hW, ?_, h4.w e3 (fun k a _ => hd.2.1 k a), by rw [hd.2.2 9 (by omega), hd.1 81 (by omega) (by omega) (by omega)]; exact h5, by rw [hd.2.2 14 (by omega)]; exact h6, by rw [hd.2.2 6 (by omega)]; exact h7, by rw [hd.1 77 (by omega) (by omega) (by omega)]; exact h8, h9, by rw [hd.2.2 7 (by omega)]; exact h10, fun j hj => ?_⟩
  · unfold lnW
    rw [e3, hd.2.1 314 (by omega)]
    exact h3
  · rw [hd.1 80 (by omega) (by omega) (by omega)]
    obtain ⟨a, b, c⟩ := h11 j hj
    exact ⟨a, b, c.trans hs.symm⟩
theorem sA_rem {A' : AT} : xA (remG g) = xA g := rfl
/-- an act: what was is kept, and the street becomes another -/
theorem op_a {f9 : VT → Option ((String ⊕ Int32) × VT)} {f10 : VT → Option (Int32 × VT)} {cd : String → Int32} (hC : CIN V g) (hM : MIN V g) (x : Int32) (A' : AT) (hW : WA A') (hs : aS A' 3 = aS (xA g) 3)
    (h9 : ∀ V1, fX0_remember V 2 = some V1 → CT V1 2 (xA g) (xL g) → ∃ V', f9 V = some (.inr x, V') ∧ RS V' 2 A' ∧ Cd 2 V1 V')
    (h10 : ∀ V1 V2, MT (t0 V1) (xA g) (xL g) → fX10_remembers (t0 V1) = some V2 → MT V2 (xA g) (xL g) → ∃ V', f10 V1 = some (x, V') ∧ RM (V' 76) A' ∧ Md V2 V') : OpE f9 f10 cd V := by
  refine op_g (g := g) (g' := sA (remG g) A') hM x ?_ ?_
  · obtain ⟨V1, e1, c1, a1⟩ := c_remember hC
    obtain ⟨V', e, hR, hd⟩ := h9 V1 e1 c1.t
    exact ⟨V', e, c1.A hR hW hd, by rw [hd.1 22 ⟨by omega, by omega, by omega, by omega⟩ (by omega)]; exact a1 22 (by omega), fun j hj => by rw [hd.1 j ⟨by omega, by omega, by omega, by omega⟩ (by omega)]; exact a1 j (by omega)⟩
  · intro V1 hM1
    obtain ⟨V2, e2, m2, b1, b2⟩ := m_remembers (hM1.m t0_m)
    obtain ⟨V', e, hR, hd⟩ := h10 V1 V2 hM1.t0 e2 m2.t
    refine ⟨V', e, m2.A hR hW hs hd, fun j hj h22 => ?_, ?_⟩
    · rw [hd.1 j h22 (by omega) (by omega), b1 j h22 (by omega)]
      exact va_n h22
    · rw [hd.2.2 0 (by omega), b2 0 (by omega)]
      exact t0_0
end OP
/-! ===== one number of the model's row put ===== -/
theorem RM.h {W : Nat → Int32} {A : AT} (hM : RM W A) (hW : WA A) {h k v : Nat} (hh : h < 8) (hk : k < 8) : RM (upd W (10 + 8 * h + k) (nI v)) (pH A h k v) := by
  have h0 := hW.1.1
  have h1 := hW.1.2.1
  refine ⟨fun q hq => ?_, ?_, fun h' k' hh' hk' => ?_, fun d k' hd hk' h2 => ?_, fun d hd => ?_, fun j k' hj hk' => ?_⟩
  · rw [pk_un (by omega)]; exact hM.1 q hq
  · rw [pk_un (by omega)]; exact hM.2.1
  · rw [aH_p]
    by_cases e : h' = h ∧ k' = k
    · rw [if_pos e, e.1, e.2, pk_us]
    · rw [if_neg e, pk_un (by omega)]; exact hM.2.2.1 h' k' hh' hk'
  · rw [pk_un (by omega)]; exact hM.2.2.2.1 d k' hd hk' h2
  · rw [pk_un (by omega)]; exact hM.2.2.2.2.1 d hd
  · rw [pk_un (by omega)]; exact hM.2.2.2.2.2 j k' hj hk'
theorem RM.d {W : Nat → Int32} {A : AT} (hM : RM W A) (hW : WA A) {h k v : Nat} (hh : h < 10) (hk : k < 6) : RM (upd W (74 + 6 * h + k) (dI k v)) (pD A h k v) := by
  have h0 := hW.1.1
  have h1 := hW.1.2.1
  refine ⟨fun q hq => ?_, ?_, fun h' k' hh' hk' => ?_, fun d k' hd hk' h2 => ?_, fun d hd => ?_, fun j k' hj hk' => ?_⟩
  · rw [pk_un (by omega)]; exact hM.1 q hq
  · rw [pk_un (by omega)]; exact hM.2.1
  · have hh' : h' < aS A 0 := hh'
    rw [pk_un (by omega)]; exact hM.2.2.1 h' k' hh' hk'
  · rw [aD_p]
    by_cases e : d = h ∧ k' = k
    · rw [if_pos e, e.1, e.2, pk_us, dI, if_neg (by omega)]
    · rw [if_neg e, pk_un (by omega)]; exact hM.2.2.2.1 d k' hd hk' h2
  · rw [aD_p]
    by_cases e : d = h ∧ 2 = k
    · rw [if_pos e, e.1, e.2, pk_us, dI, if_pos (by omega)]
    · rw [if_neg e, pk_un (by omega)]; exact hM.2.2.2.2.1 d hd
  · rw [pk_un (by omega)]; exact hM.2.2.2.2.2 j k' hj hk'
theorem aS_p {A : AT} {k v q : Nat} : aS (pS A k v) q = if q = k then v else aS A q := rfl
theorem RM.s {W : Nat → Int32} {A : AT} (hM : RM W A) {k v : Nat} (hk : k < 9) (k0 : k ≠ 0) (k1 : k ≠ 1) (k8 : k ≠ 8) : RM (upd W k (nI v)) (pS A k v) := by
  refine ⟨fun q hq => ?_, ?_, fun h' k' hh' hk' => ?_, fun d k' hd hk' h2 => ?_, fun d hd => ?_, fun j k' hj hk' => ?_⟩
  · rw [aS_p]
    by_cases e : q = k
    · rw [if_pos e, e, pk_us]
    · rw [if_neg e, pk_un e]; exact hM.1 q hq
  · rw [pk_un (by omega)]; exact hM.2.1
  · rw [aS_p, if_neg (by omega)] at hh'
    rw [pk_un (by omega)]; exact hM.2.2.1 h' k' hh' hk'
  · rw [aS_p, if_neg (by omega)] at hd
    rw [pk_un (by omega)]; exact hM.2.2.2.1 d k' hd hk' h2
  · rw [aS_p, if_neg (by omega)] at hd
    rw [pk_un (by omega)]; exact hM.2.2.2.2.1 d hd
  · rw [aS_p, if_neg (by omega)] at hj
    rw [pk_un (by omega)]; exact hM.2.2.2.2.2 j k' hj hk'
theorem RM.z {W : Nat → Int32} {A : AT} (hM : RM W A) (z : Int32) : RM (upd W 9 z) (pZ A z) := by
  refine ⟨fun q hq => ?_, ?_, fun h' k' hh' hk' => ?_, fun d k' hd hk' h2 => ?_, fun d hd => ?_, fun j k' hj hk' => ?_⟩
  · rw [pk_un (by omega)]; exact hM.1 q hq
  · rw [pk_us]; rfl
  · rw [pk_un (by omega)]; exact hM.2.2.1 h' k' hh' hk'
  · rw [pk_un (by omega)]; exact hM.2.2.2.1 d k' hd hk' h2
  · rw [pk_un (by omega)]; exact hM.2.2.2.2.1 d hd
  · rw [pk_un (by omega)]; exact hM.2.2.2.2.2 j k' hj hk'
