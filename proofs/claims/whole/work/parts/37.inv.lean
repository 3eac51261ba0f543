/-! ===== what stands between two calls: the street, the law (lines and what it says), the tape, the fault, the image, the acts ===== -/
abbrev GA : Type := AT × (Int32 × (Fa → Bool)) × (Nat × (Nat → Int32)) × Int32 × (Bool × AT × (Int32 × (Fa → Bool))) × (Nat × (Nat → AT))
def xA (g : GA) : AT := g.1
def xl (g : GA) : Int32 := g.2.1.1
def xL (g : GA) : Fa → Bool := g.2.1.2
def xn (g : GA) : Nat := g.2.2.1.1
def xb (g : GA) : Nat → Int32 := g.2.2.1.2
def xf (g : GA) : Int32 := g.2.2.2.1
def xk (g : GA) : Bool := g.2.2.2.2.1.1
def xi (g : GA) : AT := g.2.2.2.2.1.2.1
def xil (g : GA) : Int32 := g.2.2.2.2.1.2.2.1
def xiL (g : GA) : Fa → Bool := g.2.2.2.2.1.2.2.2
def xc (g : GA) : Nat := g.2.2.2.2.2.1
def xa (g : GA) : Nat → AT := g.2.2.2.2.2.2
def by_ (x : Int32) : Prop := x.toInt8.toInt32 = x
def lnW (W : Nat → Int32) (ln : Int32) : Prop := (W 3 = 0 ∧ ln = -1) ∨ (W 3 = 1 ∧ W 314 = ln)
def CIN (V : VT) (g : GA) : Prop :=
  RS V 2 (xA g) ∧ WA (xA g) ∧ V 17 2 = xl g ∧ LD (V 17 2) (V 17 1) (V 69) (xL g) ∧
  (V 1 1 = nI (xn g) ∧ xn g ≤ 400 ∧ (∀ k, k < 400 → V 23 k = xb g k) ∧ ∀ k, k < 400 → by_ (xb g k)) ∧
  V 0 10 = xf g ∧ V 0 9 = bI (xk g) ∧ (xk g = true → RS V 4 (xi g) ∧ WA (xi g) ∧ V 19 2 = xil g ∧ LD (V 19 2) (V 19 1) (V 71) (xiL g)) ∧
  (xc g ≤ 12 ∧ V 20 2 = nI (xc g) ∧ ∃ nx, nx < 12 ∧ V 20 1 = nI nx ∧ ∀ j, j < xc g → RS V (5 + (nx + 11 - j) % 12) (xa g j) ∧ WA (xa g j))
def MIN (V : VT) (g : GA) : Prop :=
  RM (V 76) (xA g) ∧ WA (xA g) ∧ lnW (V 76) (xl g) ∧ LM (V 76) (xL g) ∧
  (V 22 9 = nI (xn g) ∧ xn g ≤ 400 ∧ (∀ k, k < 400 → V 81 k = xb g k) ∧ ∀ k, k < 400 → by_ (xb g k)) ∧
  V 22 14 = xf g ∧ V 22 6 = bI (xk g) ∧ (xk g = true → RM (V 77) (xi g) ∧ WA (xi g) ∧ lnW (V 77) (xil g) ∧ LM (V 77) (xiL g)) ∧
  (xc g ≤ 12 ∧ V 22 7 = nI (xc g) ∧ ∀ j, j < xc g → RM (fun q => V 80 (314 * (xc g - 1 - j) + q)) (xa g j) ∧ WA (xa g j) ∧ aS (xa g j) 3 = aS (xA g) 3)
def INV (V : VT) : Prop := ∃ g, CIN V g ∧ MIN V g
/-- what the class's questions may write -/
def Cs (V V' : VT) : Prop := (∀ j, j ≠ 1 → j ≠ 3 → j ≠ 17 → j ≠ 18 → j ≠ 27 → j ≠ 28 → j ≠ 29 → j ≠ 70 → j ≠ 73 → j ≠ 74 → j ≠ 75 → V' j = V j) ∧ V' 1 1 = V 1 1 ∧ ∀ k, k < 3 → V' 17 k = V 17 k
theorem Cs.rf {V : VT} : Cs V V := ⟨fun _ _ _ _ _ _ _ _ _ _ _ _ => rfl, rfl, fun _ _ => rfl⟩
theorem Cs.tr {V V1 V2 : VT} (h1 : Cs V V1) (h2 : Cs V1 V2) : Cs V V2 := ⟨fun j a b c d e f g h i k l => (h2.1 j a b c d e f g h i k l).trans (h1.1 j a b c d e f g h i k l), h2.2.1.trans h1.2.1, fun k hk => (h2.2.2 k hk).trans (h1.2.2 k hk)⟩
theorem Cq.c {V V' : VT} (h : Cq V V') : Cs V V' := ⟨fun j _ _ c _ _ _ _ _ i k l => h.1 j c i k l, by rw [h.1 1 (by omega) (by omega) (by omega) (by omega)], h.2⟩
theorem Ly.c {V V' : VT} (h : Ly V V') : Cs V V' := h.q.c
theorem Cs.e {V V' : VT} (h : Cs V V') {j : Nat} (hj : j = 0 ∨ j = 2 ∨ (4 ≤ j ∧ j < 17) ∨ (19 ≤ j ∧ j < 27) ∨ (30 ≤ j ∧ j < 70) ∨ j = 71 ∨ j = 72 ∨ 76 ≤ j) : V' j = V j := h.1 j (by omega) (by omega) (by omega) (by omega) (by omega) (by omega) (by omega) (by omega) (by omega) (by omega) (by omega)
/-- what the model's questions may write -/
def Ms (V V' : VT) : Prop := (∀ j, j ≠ 22 → j ≠ 76 → j ≠ 78 → j ≠ 79 → (j < 82 ∨ 87 < j) → V' j = V j) ∧ (∀ k, k < 1151 → V' 76 k = V 76 k) ∧ V' 22 6 = V 22 6 ∧ V' 22 7 = V 22 7 ∧ V' 22 9 = V 22 9 ∧ V' 22 14 = V 22 14
theorem Ms.rf {V : VT} : Ms V V := ⟨fun _ _ _ _ _ _ => rfl, fun _ _ => rfl, rfl, rfl, rfl, rfl⟩
theorem Ms.tr {V V1 V2 : VT} (h1 : Ms V V1) (h2 : Ms V1 V2) : Ms V V2 := ⟨fun j a b c d e => (h2.1 j a b c d e).trans (h1.1 j a b c d e), fun k hk => (h2.2.1 k hk).trans (h1.2.1 k hk), h2.2.2.1.trans h1.2.2.1, h2.2.2.2.1.trans h1.2.2.2.1, h2.2.2.2.2.1.trans h1.2.2.2.2.1, h2.2.2.2.2.2.trans h1.2.2.2.2.2⟩
theorem My.m {V V' : VT} (h : My V V') : Ms V V' := ⟨fun j a _ _ _ b => h.1 j a (by omega), fun k _ => by rw [h.1 76 (by omega) (by omega)], h.2 6 (by omega), h.2 7 (by omega), h.2 9 (by omega), h.2 14 (by omega)⟩
theorem Ms.a {V : VT} {j : Nat} {f : Nat → Int32} (h : j = 78 ∨ j = 79 ∨ (82 ≤ j ∧ j ≤ 87)) : Ms V (va_up V j f) := ⟨fun i _ _ c d e => va_n (by omega), fun k _ => by rw [va_n (by omega)], by rw [va_n (by omega)], by rw [va_n (by omega)], by rw [va_n (by omega)], by rw [va_n (by omega)]⟩
theorem Ms.n {V : VT} {k : Nat} {x : Int32} (h6 : k ≠ 6) (h7 : k ≠ 7) (h9 : k ≠ 9) (h14 : k ≠ 14) : Ms V (va_up V 22 (upd (V 22) k x)) := ⟨fun i a _ _ _ _ => va_n a, fun k _ => by rw [va_n (by omega)], by rw [va_s, pk_un (by omega)], by rw [va_s, pk_un (by omega)], by rw [va_s, pk_un (by omega)], by rw [va_s, pk_un (by omega)]⟩
theorem RM.w {W W' : Nat → Int32} {A : AT} (h : RM W A) (hW : WA A) (e : ∀ k, k < 314 → W' k = W k) : RM W' A := by
  have h0 := hW.1.1
  have h1 := hW.1.2.1
  have h8 := WA_l hW
  refine ⟨fun k hk => by rw [e k (by omega)]; exact h.1 k hk, by rw [e 9 (by omega)]; exact h.2.1, fun a b ha hb => by rw [e _ (by omega)]; exact h.2.2.1 a b ha hb, fun a b ha hb hc => by rw [e _ (by omega)]; exact h.2.2.2.1 a b ha hb hc, fun a ha => by rw [e _ (by omega)]; exact h.2.2.2.2.1 a ha, fun a b ha hb => by rw [e _ (by omega)]; exact h.2.2.2.2.2 a b ha hb⟩
theorem mR_w {F : Fa} {W W' : Nat → Int32} {a : Nat} : ∀ {m : Nat} {st : List Int32}, a + m ≤ 400 → (∀ k, 314 ≤ k → k < 1151 → W' k = W k) → mR F W' a m st = mR F W a m st
  | 0, st, _, _ => rfl
  | m + 1, st, h, e => by
    unfold mR
    rw [mR_w (by omega) e, e _ (by omega) (by omega), e _ (by omega) (by omega)]
theorem LawW.w {W W' : Nat → Int32} {n : Nat} {ty : Nat → Bool} {t : Nat → Fa → Bool} (h : LawW W n ty t) (hn : n ≤ 12) (e : ∀ k, 314 ≤ k → k < 1151 → W' k = W k) : LawW W' n ty t := by
  obtain ⟨h1, a, b, h2⟩ := h
  refine ⟨by rw [e _ (by omega) (by omega)]; exact h1, a, b, fun j hj => ?_⟩
  obtain ⟨x1, x2, x3, x4, x5, x6⟩ := h2 j hj
  refine ⟨by rw [e _ (by omega) (by omega)]; exact x1, by rw [e _ (by omega) (by omega)]; exact x2, by rw [e _ (by omega) (by omega)]; exact x3, x4, x5, fun F => ?_⟩
  rw [mR_w (by omega) e]
  exact ⟨fun m hm => by rw [mR_w (by omega) e]; exact (x6 F).1 m hm, (x6 F).2⟩
theorem LM.w {W W' : Nat → Int32} {L : Fa → Bool} (h : LM W L) (e3 : W' 3 = W 3) (e : ∀ k, 314 ≤ k → k < 1151 → W' k = W k) : LM W' L := by
  rcases h with ⟨h1, h2⟩ | ⟨n, ty, t, h1, h2, h3, h4⟩
  · exact Or.inl ⟨by rw [e3]; exact h1, h2⟩
  · exact Or.inr ⟨n, ty, t, by rw [e3]; exact h1, h2, h3.w h2 e, h4⟩
theorem MT.m {V V' : VT} {A : AT} {L : Fa → Bool} (h : MT V A L) (hm : Ms V V') : MT V' A L := ⟨h.1.w h.2.1 (fun k hk => hm.2.1 k (by omega)), h.2.1, h.2.2.w (hm.2.1 3 (by omega)) (fun k _ hk => hm.2.1 k hk)⟩
theorem RS.w {V V' : VT} {i : Nat} {A : AT} (h : RS V i A) (e0 : V' i = V i) (e1 : V' (18 + 3 * i + 0) = V (18 + 3 * i + 0)) (e2 : V' (18 + 3 * i + 1) = V (18 + 3 * i + 1)) (e3 : V' (18 + 3 * i + 2) = V (18 + 3 * i + 2)) : RS V' i A := by
  unfold RS
  rw [e0, e1, e2, e3]
  exact h
/-- the class's side, where all its cells that last are the same -/
theorem CIN.w {V V' : VT} {g : GA} (h : CIN V g) (e : ∀ j, j = 0 ∨ j = 2 ∨ (4 ≤ j ∧ j < 17) ∨ (19 ≤ j ∧ j < 22) ∨ (23 ≤ j ∧ j < 27) ∨ (30 ≤ j ∧ j < 70) ∨ j = 71 → V' j = V j) (e1 : V' 1 1 = V 1 1) (e17 : ∀ k, k < 3 → V' 17 k = V 17 k) : CIN V' g := by
  obtain ⟨h1, h2, h3, h4, h5, h6, h7, h8, h9, h10, nx, h11, h12, h13⟩ := h
  refine ⟨h1.w (e _ (by omega)) (e _ (by omega)) (e _ (by omega)) (e _ (by omega)), h2, by rw [e17 2 (by omega)]; exact h3, by rw [e17 2 (by omega), e17 1 (by omega), e 69 (by omega)]; exact h4, by rw [e1, e 23 (by omega)]; exact h5, by rw [e 0 (by omega)]; exact h6, by rw [e 0 (by omega)]; exact h7, fun hk => ?_, h9, by rw [e 20 (by omega)]; exact h10, nx, h11, by rw [e 20 (by omega)]; exact h12, fun j hj => ⟨(h13 j hj).1.w (e _ (by omega)) (e _ (by omega)) (e _ (by omega)) (e _ (by omega)), (h13 j hj).2⟩⟩
  obtain ⟨x1, x2, x3, x4⟩ := h8 hk
  exact ⟨x1.w (e _ (by omega)) (e _ (by omega)) (e _ (by omega)) (e _ (by omega)), x2, by rw [e 19 (by omega)]; exact x3, by rw [e 19 (by omega), e 71 (by omega)]; exact x4⟩
theorem CIN.s {V V' : VT} {g : GA} (h : CIN V g) (hs : Cs V V') : CIN V' g := h.w (fun j hj => hs.e (by omega)) hs.2.1 hs.2.2
theorem MIN.m {V V' : VT} {g : GA} (h : MIN V g) (hm : Ms V V') : MIN V' g := by
  obtain ⟨h1, h2, h3, h4, h5, h6, h7, h8, h9, h10, h11⟩ := h
  have e81 := hm.1 81 (by omega) (by omega) (by omega) (by omega) (by omega)
  have e80 := hm.1 80 (by omega) (by omega) (by omega) (by omega) (by omega)
  have e77 := hm.1 77 (by omega) (by omega) (by omega) (by omega) (by omega)
  refine ⟨h1.w h2 (fun k hk => hm.2.1 k (by omega)), h2, ?_, h4.w (hm.2.1 3 (by omega)) (fun k _ hk => hm.2.1 k hk), by rw [hm.2.2.2.2.1, e81]; exact h5, by rw [hm.2.2.2.2.2]; exact h6, by rw [hm.2.2.1]; exact h7, by rw [e77]; exact h8, h9, by rw [hm.2.2.2.1]; exact h10, by rw [e80]; exact h11⟩
  unfold lnW
  rw [hm.2.1 3 (by omega), hm.2.1 314 (by omega)]
  exact h3
theorem CIN.m {V V' : VT} {g : GA} (h : CIN V g) (hm : Ms V V') : CIN V' g := h.w (fun j hj => hm.1 j (by omega) (by omega) (by omega) (by omega) (by omega)) (by rw [hm.1 1 (by omega) (by omega) (by omega) (by omega) (by omega)]) (fun k _ => by rw [hm.1 17 (by omega) (by omega) (by omega) (by omega) (by omega)])
/-- the model's side, where its cells are the same -/
theorem MIN.c {V V' : VT} {g : GA} (h : MIN V g) (e22 : V' 22 = V 22) (e : ∀ j, 76 ≤ j → V' j = V j) : MIN V' g := by
  unfold MIN
  rw [e22, e 76 (by omega), e 77 (by omega), e 80 (by omega), e 81 (by omega)]
  exact h
theorem CIN.t {V : VT} {g : GA} (h : CIN V g) : CT V 2 (xA g) (xL g) := ⟨h.1, h.2.1, h.2.2.2.1, by omega⟩
theorem MIN.t {V : VT} {g : GA} (h : MIN V g) : MT V (xA g) (xL g) := ⟨h.1, h.2.1, h.2.2.2.1⟩
/-! ===== calls ===== -/
def OpE (f9 : VT → Option ((String ⊕ Int32) × VT)) (f10 : VT → Option (Int32 × VT)) (cd : String → Int32) (V : VT) : Prop :=
  ∃ o V1 b V2, f9 V = some (o, V1) ∧ f10 V1 = some (b, V2) ∧ INV V2 ∧ ((∃ x, o = .inr x ∧ b = x ∧ V2 22 0 = 0) ∨ ∃ s, o = .inl s ∧ V2 22 0 = cd s)
/-- a call that answers without throwing, of which the law compares the answers at once -/
def OpI (f9 : VT → Option (Int32 × VT)) (f10 : VT → Option (Int32 × VT)) (V : VT) : Prop := ∃ x V1 V2, f9 V = some (x, V1) ∧ f10 V1 = some (x, V2) ∧ INV V2
theorem op_q {f9 : VT → Option ((String ⊕ Int32) × VT)} {f10 : VT → Option (Int32 × VT)} {cd : String → Int32} {V : VT} {g : GA} (hC : CIN V g) (hM : MIN V g) (x : Int32) (h9 : ∃ V1, f9 V = some (.inr x, V1) ∧ Cs V V1) (h10 : ∀ V1, MIN V1 g → ∃ V2, f10 V1 = some (x, V2) ∧ Ms V1 V2 ∧ V2 22 0 = 0) : OpE f9 f10 cd V := by
  obtain ⟨V1, e1, c1⟩ := h9
  have hM1 := hM.c (V' := V1) (c1.e (by omega)) (fun j hj => c1.e (by omega))
  obtain ⟨V2, e2, m2, t2⟩ := h10 V1 hM1
  exact ⟨_, V1, x, V2, e1, e2, ⟨g, (hC.s c1).m m2, hM1.m m2⟩, Or.inl ⟨x, rfl, rfl, t2⟩⟩
theorem op_x {f9 : VT → Option ((String ⊕ Int32) × VT)} {f10 : VT → Option (Int32 × VT)} {cd : String → Int32} {V : VT} {g : GA} (hC : CIN V g) (hM : MIN V g) (s : String) (h9 : f9 V = some (.inl s, V)) (h10 : ∃ b V2, f10 V = some (b, V2) ∧ Ms V V2 ∧ V2 22 0 = cd s) : OpE f9 f10 cd V := by
  obtain ⟨b, V2, e2, m2, t2⟩ := h10
  exact ⟨_, V, b, V2, h9, e2, ⟨g, hC.m m2, hM.m m2⟩, Or.inr ⟨s, rfl, t2⟩⟩
theorem op_i {f9 : VT → Option (Int32 × VT)} {f10 : VT → Option (Int32 × VT)} {V : VT} {g : GA} (hC : CIN V g) (hM : MIN V g) (x : Int32) (h9 : ∃ V1, f9 V = some (x, V1) ∧ Cs V V1) (h10 : ∀ V1, MIN V1 g → ∃ V2, f10 V1 = some (x, V2) ∧ Ms V1 V2) : OpI f9 f10 V := by
  obtain ⟨V1, e1, c1⟩ := h9
  have hM1 := hM.c (V' := V1) (c1.e (by omega)) (fun j hj => c1.e (by omega))
  obtain ⟨V2, e2, m2⟩ := h10 V1 hM1
  exact ⟨_, V1, V2, e1, e2, ⟨g, (hC.s c1).m m2, hM1.m m2⟩⟩
/-! ===== what a call needs ===== -/
def ix (x : Int32) (n : Nat) : Bool := decide (¬ x < 0 ∧ x < nI n)
theorem ix_n {j n : Nat} (hj : j < 2 ^ 31) (hn : n < 2 ^ 31) : ix (nI j) n = decide (j < n) := by
  unfold ix
  congr 1
  rw [nI_ltI hj hn]
  exact propext ⟨fun h => h.2, fun h => ⟨nI_pos hj, h⟩⟩
theorem ix_t {x : Int32} {n : Nat} (hn : n < 2 ^ 31) (h : ix x n = true) : ∃ j, j < n ∧ x = nI j := by
  unfold ix at h
  have h := of_decide_eq_true h
  obtain ⟨j, hj, rfl⟩ := nI_of h.1
  exact ⟨j, (nI_ltI hj hn).1 h.2, rfl⟩
abbrev IOOB : String := "java/lang/IndexOutOfBoundsException"
theorem n_house {V : VT} {A : AT} (hR : RS V 2 A) (x : Int32) : fX9_needHouse V x = some (if ix x (aS A 0) then .inr () else .inl "java/lang/IndexOutOfBoundsException") := by
  unfold fX9_needHouse fX9_needHouse_j15 ix
  rw [hR.1.1]
  by_cases h1 : x < 0
  · simp [h1]
  · by_cases h2 : x < nI (aS A 0) <;> simp [h1, h2]
theorem n_deed {V : VT} {A : AT} (hR : RS V 2 A) (x : Int32) : fX9_needDeed V x = some (if ix x (aS A 1) then .inr () else .inl "java/lang/IndexOutOfBoundsException") := by
  unfold fX9_needDeed fX9_needDeed_j15 ix
  rw [hR.1.2.1]
  by_cases h1 : x < 0
  · simp [h1]
  · by_cases h2 : x < nI (aS A 1) <;> simp [h1, h2]
theorem n_place {V : VT} (x : Int32) : fX9_needPlace V x = some (if ix x 24 then .inr () else .inl "java/lang/IndexOutOfBoundsException") := by
  unfold fX9_needPlace fX9_needPlace_j10 ix
  show (if x < 0 then _ else if x < nI 24 then _ else _) = _
  by_cases h1 : x < 0
  · simp [h1]
  · by_cases h2 : x < nI 24 <;> simp [h1, h2]
theorem n_hour {V : VT} (x : Int32) : fX9_needHour V x = some (if ix x 24 then .inr () else .inl "java/lang/IndexOutOfBoundsException") := by
  unfold fX9_needHour fX9_needHour_j10 ix
  show (if x < 0 then _ else if x < nI 24 then _ else _) = _
  by_cases h1 : x < 0
  · simp [h1]
  · by_cases h2 : x < nI 24 <;> simp [h1, h2]
theorem q_le1 {x : Int32} {n : Nat} (hn : n < 2 ^ 30) : x ≤ nI n ↔ x < nI (n + 1) := by
  rw [fa_le, fa_lt, nI_toInt (by omega), nI_toInt (by omega)]
  omega
theorem n_num {V : VT} (x : Int32) {n : Nat} (hn : n < 2 ^ 30) : fX9_needNumber V x 0 (nI n) = some (if ix x (n + 1) then .inr () else .inl "java/lang/IllegalArgumentException") := by
  unfold fX9_needNumber fX9_needNumber_j10 ix
  by_cases h1 : x < 0
  · simp [h1]
  · by_cases h2 : x ≤ nI n
    · have h3 := (q_le1 hn).1 h2
      simp [h1, h2, h3]
    · have h3 : ¬ x < nI (n + 1) := fun h => h2 ((q_le1 hn).2 h)
      simp [h1, h2, h3]
theorem m_ix {V : VT} (x : Int32) {n : Nat} (hn : n < 2 ^ 30) : fX10_in V x 0 (nI n - 1) = some (bI (ix x n)) := by
  unfold fX10_in ix
  have e : nI n - 1 < x ↔ ¬ x < nI n := by
    have h1 : (nI n - 1).toInt = (n : Int) - 1 := pk_sub_toInt (a := n) (b := 1) hn (by omega)
    rw [fa_lt, fa_lt, h1, nI_toInt (by omega)]
    omega
  by_cases h1 : x < 0
  · simp [h1, q_zo0, bI]
  · by_cases h2 : x < nI n
    · rw [if_neg h1, if_neg (fun h => e.1 h h2), q_zo1]; simp [h1, h2, bI]
    · rw [if_neg h1, if_pos (e.2 h2), q_zo0]; simp [h1, h2, bI]
theorem q_not {b : Bool} : (if bI b = 0 then (zo_ (1 : Int32) (some (1 : Int32))) else (zo_ (0 : Int32) (some (0 : Int32)))) = some (bI (!b)) := by
  cases b
  · rw [if_pos (show bI false = 0 from rfl), q_zo1]; rfl
  · rw [if_neg (by decide), q_zo0]; rfl
theorem m_noHouse {V : VT} {A : AT} (hM : RM (V 76) A) (hW : WA A) (x : Int32) : fX10_noHouse V x = some (bI (!ix x (aS A 0))) := by
  unfold fX10_noHouse
  rw [m_houses hM, q_R, m_ix x (by have := hW.1.1; omega), q_R, q_not]
theorem m_noDeed {V : VT} {A : AT} (hM : RM (V 76) A) (hW : WA A) (x : Int32) : fX10_noDeed V x = some (bI (!ix x (aS A 1))) := by
  unfold fX10_noDeed
  rw [m_deeds hM, q_R, m_ix x (by have := hW.1.2.1; omega), q_R, q_not]
theorem m_noPlace {V : VT} (x : Int32) : fX10_noPlace V x = some (bI (!ix x 24)) := by
  unfold fX10_noPlace
  rw [show (23 : Int32) = nI 24 - 1 from rfl, m_ix x (by omega), q_R, q_not]
theorem m_noHour {V : VT} (x : Int32) : fX10_noHour V x = some (bI (!ix x 24)) := by
  unfold fX10_noHour
  rw [show (23 : Int32) = nI 24 - 1 from rfl, m_ix x (by omega), q_R, q_not]
theorem m_noFog {V : VT} (x : Int32) : fX10_noFog V x = some (bI (!ix x 10)) := by
  unfold fX10_noFog
  rw [show (9 : Int32) = nI 10 - 1 from rfl, m_ix x (by omega), q_R, q_not]
theorem m_throwsIf {V : VT} (b : Bool) (c : Int32) : fX10_throwsIf V (bI b) c = some (bI b, if b then va_up V 22 (upd (V 22) 0 c) else V) := by
  unfold fX10_throwsIf
  cases b
  · rw [if_pos (show bI false = 0 from rfl), q_zo]; rfl
  · rw [if_neg (by decide), q_lt, q_zo]; rfl
