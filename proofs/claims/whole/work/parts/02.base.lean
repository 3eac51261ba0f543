/-! ===== small words for pure programs ===== -/
def lt_ {α β : Type} (e : α) (k : α → β) : β := k e
theorem lt_some {α β : Type} {e : α} {k : α → Option β} {r : β} (h : lt_ e k = some r) : ∃ x, x = e ∧ k x = some r := ⟨e, rfl, h⟩
def rd_ {α : Type} (i : Int32) (n : Nat) (x : Option α) : Option α := if i < 0 ∨ n ≤ i.toNatClampNeg then none else x
theorem rd_some {α : Type} {i : Int32} {n : Nat} {x : Option α} {r : α} (h : rd_ i n x = some r) : vp_in i n ∧ x = some r := by
  unfold rd_ at h
  by_cases hc : i < 0 ∨ n ≤ i.toNatClampNeg
  · rw [if_pos hc] at h; cases h
  · rw [if_neg hc] at h; exact ⟨hc, h⟩
/-- a value that must be a truth: 0 or 1 -/
def zo_ {α : Type} (i : Int32) (x : Option α) : Option α := if i = 0 ∨ i = 1 then x else none
theorem zo_some {α : Type} {i : Int32} {x : Option α} {r : α} (h : zo_ i x = some r) : (i = 0 ∨ i = 1) ∧ x = some r := by
  unfold zo_ at h
  by_cases hc : i = 0 ∨ i = 1
  · rw [if_pos hc] at h; exact ⟨hc, h⟩
  · rw [if_neg hc] at h; cases h
/-- a divisor that must not be 0 -/
def nz_ {α : Type} (i : Int32) (x : Option α) : Option α := if i = 0 then none else x
theorem nz_some {α : Type} {i : Int32} {x : Option α} {r : α} (h : nz_ i x = some r) : ¬ i = 0 ∧ x = some r := by
  unfold nz_ at h
  by_cases hc : i = 0
  · rw [if_pos hc] at h; cases h
  · rw [if_neg hc] at h; exact ⟨hc, h⟩
abbrev VT : Type := Nat → Nat → Int32
/-- a call that only reads -/
def ob_R {α β : Type} (o : Option α) (k : α → Option β) : Option β := match o with
  | some x => k x
  | none => none
theorem ob_R_some {α β : Type} {o : Option α} {k : α → Option β} {r : β} (h : ob_R o k = some r) : ∃ x, o = some x ∧ k x = some r := by
  cases o with
  | none => cases h
  | some x => exact ⟨x, rfl, h⟩
/-- a call that answers and writes -/
def ob_I {α β : Type} (o : Option (α × VT)) (k : α → VT → Option β) : Option β := match o with
  | some x => k x.1 x.2
  | none => none
theorem ob_I_some {α β : Type} {o : Option (α × VT)} {k : α → VT → Option β} {r : β} (h : ob_I o k = some r) : ∃ x V, o = some (x, V) ∧ k x V = some r := by
  cases o with
  | none => cases h
  | some x => exact ⟨x.1, x.2, rfl, h⟩
/-- a loop: the body goes on (.inl) or leaves (.inr) -/
def it_ {σ ρ : Type} (f : σ → Option (σ ⊕ ρ)) : Nat → σ → Option ρ
  | 0, _ => none
  | n + 1, s => match f s with
    | none => none
    | some (.inl t) => it_ f n t
    | some (.inr x) => some x
theorem it_W {σ ρ : Type} {f : σ → Option (σ ⊕ ρ)} (P : σ → Prop) (x : ρ) (body : ∀ s r, f s = some r → (∀ t, r = .inl t → P t) → (∀ y, r = .inr y → y = x) → P s) : ∀ n s, it_ f n s = some x → P s := by
  intro n
  induction n with
  | zero => intro s h; cases h
  | succ n ih =>
    intro s h
    unfold it_ at h
    cases hf : f s with
    | none => rw [hf] at h; cases h
    | some r =>
      rw [hf] at h
      cases r with
      | inl t => exact body s _ hf (fun t' e => by cases e; exact ih t h) (fun y e => by cases e)
      | inr y => exact body s _ hf (fun t' e => by cases e) (fun y' e => by cases e; cases h; rfl)
/-- how often a loop may go round: more than any loop here does -/
def FU : Nat := 5000
/-! ===== the static heap: 88 cells at the addresses G.2.2 i; V i k: the whole number in slot k of object i, or at place k of array i ===== -/
abbrev GT : Type := va_G × (Nat → ClassId) × (Nat → Nat)
def sh_C (i : Nat) : Nat := if i = 0 then 5 else if i = 1 then 4 else if i < 17 then 3 else if i < 20 then 1 else if i = 20 then 0 else if i = 21 then 2 else 6
def sh_N (i : Nat) : Nat := if i = 0 then 11 else if i = 1 then 6 else if i < 17 then 13 else if i < 20 then 10 else if i = 20 then 3 else if i = 21 then 3 else 29
def sh_M (k : Nat) : Option Nat := match k with
  | 1 => some 76 | 2 => some 77 | 3 => some 78 | 4 => some 79 | 5 => some 80 | 8 => some 81 | 15 => some 82 | 17 => some 83 | 25 => some 84 | 26 => some 85 | 27 => some 86 | 28 => some 87 | _ => none
def sh_R (i k : Nat) : Option Nat := if i = 0 then (if k < 4 then some (k + 1) else if k < 9 then some (k + 13) else none) else if i = 1 then (if k = 0 then some 23 else none) else if i < 17 then (if k < 3 then some (18 + 3 * i + k) else none) else if i < 20 then (if k = 0 then some (i + 52) else none) else if i = 20 then (if k = 0 then some 72 else none) else if i = 21 then (if k < 3 then some (73 + k) else none) else sh_M k
def sh_Y (i : Nat) : Nat := if i = 23 then 0 else if i = 81 then 0 else if i = 87 then 2 else 1
def sh_L (i : Nat) : Nat := if i = 23 then 400 else if i < 69 then (if (i - 24) % 3 = 0 then 56 else if (i - 24) % 3 = 1 then 50 else 60) else if i < 72 then 400 else if i = 72 then 12 else if i < 75 then 24 else if i = 75 then 8 else match i with
  | 76 => 1988 | 77 => 1151 | 78 => 1151 | 79 => 314 | 80 => 3768 | 81 => 400 | 82 => 5 | 83 => 400 | 84 => 24 | 85 => 24 | 86 => 8 | _ => 64
def sh_T (G : GT) : List (ClassId × FieldType) := [(G.2.1 0, .byte), (G.2.1 1, .int), (G.2.1 2, .boolean), (G.2.1 3, .object "AllSawIt$State"), (G.2.1 4, .long)]
def sh_f (G : GT) (V : VT) (i k : Nat) : Value := match sh_R i k with
  | some t => .ref (G.2.2 t)
  | none => .int (V i k)
def sh_e (G : GT) (V : VT) (i : Nat) : va_E := if i < 23 then .inr (sh_C i, (List.range (sh_N i)).map (sh_f G V i)) else if i = 72 then .inl (G.2.1 3, 12, .inr (.inr (.inr (.inr (fun k => some (G.2.2 (5 + k))))))) else .inl (G.2.1 (sh_Y i), sh_L i, .inl (V i))
def wl (G : GT) (V : VT) : va_W := (List.range 88).map (fun i => (G.2.2 i, sh_e G V i))
theorem wl_get (G : GT) (V : VT) {i : Nat} (hi : i < 88) : (wl G V)[i]? = some (G.2.2 i, sh_e G V i) := by
  simp [wl, List.getElem?_map, List.getElem?_range hi]
theorem sh_e_ne {G : GT} {V : VT} {i j : Nat} {f : Nat → Int32} (h : j ≠ i) : sh_e G (va_up V i f) j = sh_e G V j := by
  have e : va_up V i f j = V j := by simp [va_up, h]
  unfold sh_e
  have e2 : sh_f G (va_up V i f) j = sh_f G V j := by
    funext k
    unfold sh_f
    rw [e]
  rw [e, e2]
theorem wl_set (G : GT) (V : VT) {i : Nat} (f : Nat → Int32) : (wl G V).set i (G.2.2 i, sh_e G (va_up V i f) i) = wl G (va_up V i f) := by
  apply List.ext_getElem?
  intro j
  rw [List.getElem?_set]
  by_cases hij : i = j
  · subst hij
    by_cases hi : i < 88
    · rw [wl_get G _ hi]
      simp [wl, hi]
    · simp [wl, hi]
  · rw [if_neg hij]
    by_cases hj : j < 88
    · rw [wl_get G _ hj, wl_get G _ hj, sh_e_ne (fun h => hij h.symm)]
    · simp [wl, List.getElem?_map, hj]
theorem sh_put {G : GT} {V : VT} {i k : Nat} {v : Int32} (hi : i < 23) (hr : sh_R i k = none) : sh_e G (va_up V i (upd (V i) k v)) i = .inr (sh_C i, ((List.range (sh_N i)).map (sh_f G V i)).set k (.int v)) := by
  unfold sh_e
  rw [if_pos hi]
  congr 2
  apply List.ext_getElem?
  intro j
  rw [List.getElem?_set]
  by_cases hkj : k = j
  · subst hkj
    by_cases hk : k < sh_N i
    · simp [List.getElem?_map, List.getElem?_range hk, sh_f, hr, va_up, upd, hk]
    · simp [List.getElem?_map, hk]
  · rw [if_neg hkj]
    by_cases hj : j < sh_N i
    · have hjk : j ≠ k := fun h => hkj h.symm
      simp only [List.getElem?_map, List.getElem?_range hj, Option.map]
      congr 1
      unfold sh_f
      cases sh_R i j with
      | some t => rfl
      | none => simp [va_up, upd, hjk]
    · simp [List.getElem?_map, hj]
theorem sh_arr {G : GT} {V : VT} {i : Nat} (hi : 23 ≤ i) (h2 : i ≠ 72) : sh_e G V i = .inl (G.2.1 (sh_Y i), sh_L i, .inl (V i)) := by
  unfold sh_e
  rw [if_neg (Nat.not_lt.mpr hi), if_neg h2]
/-- the cells that a method may write: the 88, and new ones -/
def gA (G : GT) (sz : Nat) : Nat → Prop := fun q => (∃ i : Nat, i < 88 ∧ q = G.2.2 i) ∨ sz ≤ q
theorem wl_D {G : GT} {V V' : VT} {A : Nat → Prop} (h : va_D A (wl G V)) : va_D A (wl G V') := by
  have key : ∀ (k : Nat) (q : Nat × va_E), (wl G V')[k]? = some q → ∃ e, (wl G V)[k]? = some (q.1, e) := by
    intro k q hq
    by_cases hk : k < 88
    · rw [wl_get G _ hk] at hq
      cases hq
      exact ⟨_, wl_get G V hk⟩
    · simp [wl, hk] at hq
  refine ⟨fun i j a b ha hb hab => ?_, fun k q hq => ?_⟩
  · obtain ⟨e1, h1⟩ := key i a ha
    obtain ⟨e2, h2⟩ := key j b hb
    exact h.1 i j _ _ h1 h2 hab
  · obtain ⟨e1, h1⟩ := key k q hq
    exact h.2 k (q.1, e1) h1
theorem wl_Dg {G : GT} {V : VT} {A : Nat → Prop} {sz : Nat} (h : va_D A (wl G V)) : va_D (gA G sz) (wl G V) := by
  refine ⟨h.1, fun k q hq => ?_⟩
  by_cases hk : k < 88
  · rw [wl_get G _ hk] at hq
    cases hq
    exact Or.inl ⟨k, hk, rfl⟩
  · simp [wl, hk] at hq
