/-! ===== the thief's way: passes to and fro ===== -/
def upP (s u : Nat → Nat) : Nat → Nat
  | 0 => u 0
  | p + 1 => min (u (p + 1)) (upP s u p + s (p + 1))
def dnP (s u : Nat → Nat) : Nat → Nat
  | 0 => u 23
  | k + 1 => min (u (22 - k)) (dnP s u k + s (22 - k))
def gaM (s u : Nat → Nat) (p : Nat) : Nat := dnP s (upP s u) (23 - p)
def cuP (s w : Nat → Nat) : Nat → Nat
  | 0 => min (w 0) 1000000 + s 0
  | p + 1 => min (w (p + 1)) (cuP s w p) + s (p + 1)
def cdP (s u : Nat → Nat) : Nat → Nat
  | 0 => min (u 23) (1000000 + s 23)
  | k + 1 => min (u (22 - k)) (cdP s u k + s (22 - k))
def gaC (s w : Nat → Nat) (p : Nat) : Nat := cdP s (cuP s w) (23 - p)
theorem ga_a {s w : Nat → Nat} (hs : ∀ p, s p ≤ 8) (hw : ∀ p, p < 24 → w p ≤ 1000) {p : Nat} (hp : p < 24) : gaC s w p = gaM s (fun p => w p + s p) p ∧ gaC s w p ≤ w p + 8 := by
  have h1 : ∀ p, p < 24 → cuP s w p = upP s (fun p => w p + s p) p ∧ cuP s w p ≤ w p + s p := by
    intro p
    induction p with
    | zero =>
      intro h
      have := hw 0 h
      show min (w 0) 1000000 + s 0 = w 0 + s 0 ∧ min (w 0) 1000000 + s 0 ≤ w 0 + s 0
      omega
    | succ p ih =>
      intro h
      have ih := ih (by omega)
      show min (w (p + 1)) (cuP s w p) + s (p + 1) = min (w (p + 1) + s (p + 1)) (upP s (fun p => w p + s p) p + s (p + 1)) ∧ min (w (p + 1)) (cuP s w p) + s (p + 1) ≤ w (p + 1) + s (p + 1)
      omega
  have h2 : ∀ k, k < 24 → cdP s (cuP s w) k = dnP s (upP s (fun p => w p + s p)) k ∧ cdP s (cuP s w) k ≤ cuP s w (23 - k) := by
    intro k
    induction k with
    | zero =>
      intro _
      have a := h1 23 (by omega)
      have b := hw 23 (by omega)
      have c := hs 23
      show min (cuP s w 23) (1000000 + s 23) = upP s (fun p => w p + s p) 23 ∧ min (cuP s w 23) (1000000 + s 23) ≤ cuP s w (23 - 0)
      rw [Nat.sub_zero]
      omega
    | succ k ih =>
      intro h
      have ih := ih (by omega)
      have a := h1 (22 - k) (by omega)
      show min (cuP s w (22 - k)) (cdP s (cuP s w) k + s (22 - k)) = min (upP s (fun p => w p + s p) (22 - k)) (dnP s (upP s (fun p => w p + s p)) k + s (22 - k)) ∧ min (cuP s w (22 - k)) (cdP s (cuP s w) k + s (22 - k)) ≤ cuP s w (23 - (k + 1))
      rw [show 23 - (k + 1) = 22 - k by omega]
      omega
  obtain ⟨a, b⟩ := h2 (23 - p) (by omega)
  rw [show 23 - (23 - p) = p by omega] at b
  have c := (h1 p hp).2
  have d := hs p
  exact ⟨a, by unfold gaC; omega⟩
theorem ga_b {s : Nat → Nat} (hs : ∀ p, s p ≤ 8) {f p : Nat} (hf : f < 24) (hp : p < 24) : gaC s (fun p => if p = f then 0 else 1000000) p = gaM s (fun p => if p = f then s p else 1000000) p ∧ gaC s (fun p => if p = f then 0 else 1000000) p ≤ 376 := by
  have h1 : ∀ p, p < 24 → (p < f → cuP s (fun p => if p = f then 0 else 1000000) p = 1000000 + s p ∧ upP s (fun p => if p = f then s p else 1000000) p = 1000000) ∧ (f ≤ p → cuP s (fun p => if p = f then 0 else 1000000) p = upP s (fun p => if p = f then s p else 1000000) p ∧ cuP s (fun p => if p = f then 0 else 1000000) p ≤ 8 * (p + 1)) := by
    intro p
    induction p with
    | zero =>
      intro _
      have := hs 0
      have e1 : cuP s (fun p => if p = f then 0 else 1000000) 0 = min (if 0 = f then 0 else 1000000) 1000000 + s 0 := rfl
      have e2 : upP s (fun p => if p = f then s p else 1000000) 0 = if 0 = f then s 0 else 1000000 := rfl
      rw [e1, e2]
      by_cases c : 0 = f
      · rw [if_pos c, if_pos c]
        exact ⟨fun h => by omega, fun _ => ⟨by omega, by omega⟩⟩
      · rw [if_neg c, if_neg c]
        exact ⟨fun _ => ⟨by omega, rfl⟩, fun h => by omega⟩
    | succ p ih =>
      intro h
      have ih := ih (by omega)
      have h8 := hs (p + 1)
      have h9 := hs p
      have e1 : cuP s (fun p => if p = f then 0 else 1000000) (p + 1) = min (if p + 1 = f then 0 else 1000000) (cuP s (fun p => if p = f then 0 else 1000000) p) + s (p + 1) := rfl
      have e2 : upP s (fun p => if p = f then s p else 1000000) (p + 1) = min (if p + 1 = f then s (p + 1) else 1000000) (upP s (fun p => if p = f then s p else 1000000) p + s (p + 1)) := rfl
      rw [e1, e2]
      by_cases c : p + 1 = f
      · rw [if_pos c, if_pos c]
        have := ih.1 (by omega)
        exact ⟨fun h => by omega, fun _ => by omega⟩
      · rw [if_neg c, if_neg c]
        refine ⟨fun h => ?_, fun h => ?_⟩
        · have := ih.1 (by omega)
          omega
        · have := ih.2 (by omega)
          omega
  have h2 : ∀ k, k < 24 → cdP s (cuP s (fun p => if p = f then 0 else 1000000)) k = dnP s (upP s (fun p => if p = f then s p else 1000000)) k ∧ cdP s (cuP s (fun p => if p = f then 0 else 1000000)) k ≤ 8 * (24 + k) := by
    intro k
    induction k with
    | zero =>
      intro _
      have a := (h1 23 (by omega)).2 (by omega)
      have c := hs 23
      show min (cuP s (fun p => if p = f then 0 else 1000000) 23) (1000000 + s 23) = upP s (fun p => if p = f then s p else 1000000) 23 ∧ min (cuP s (fun p => if p = f then 0 else 1000000) 23) (1000000 + s 23) ≤ 8 * (24 + 0)
      omega
    | succ k ih =>
      intro h
      have ih := ih (by omega)
      have a := h1 (22 - k) (by omega)
      have c := hs (22 - k)
      show min (cuP s (fun p => if p = f then 0 else 1000000) (22 - k)) (cdP s (cuP s (fun p => if p = f then 0 else 1000000)) k + s (22 - k)) = min (upP s (fun p => if p = f then s p else 1000000) (22 - k)) (dnP s (upP s (fun p => if p = f then s p else 1000000)) k + s (22 - k)) ∧ min (cuP s (fun p => if p = f then 0 else 1000000) (22 - k)) (cdP s (cuP s (fun p => if p = f then 0 else 1000000)) k + s (22 - k)) ≤ 8 * (24 + (k + 1))
      by_cases d : 22 - k < f
      · have := a.1 d
        omega
      · have := a.2 (by omega)
        omega
  obtain ⟨a, b⟩ := h2 (23 - p) (by omega)
  exact ⟨a, by unfold gaC; omega⟩
theorem upP_cong {s u v : Nat → Nat} : ∀ p, (∀ q, q ≤ p → u q = v q) → upP s u p = upP s v p
  | 0, h => h 0 (Nat.le_refl _)
  | p + 1, h => by
    show min (u (p + 1)) (upP s u p + s (p + 1)) = min (v (p + 1)) (upP s v p + s (p + 1))
    rw [upP_cong p (fun q hq => h q (by omega)), h (p + 1) (Nat.le_refl _)]
theorem dnP_cong {s u v : Nat → Nat} (h : ∀ q, q < 24 → u q = v q) : ∀ k, k < 24 → dnP s u k = dnP s v k
  | 0, _ => h 23 (by omega)
  | k + 1, hk => by
    show min (u (22 - k)) (dnP s u k + s (22 - k)) = min (v (22 - k)) (dnP s v k + s (22 - k))
    rw [dnP_cong h k (by omega), h (22 - k) (by omega)]
theorem gaM_cong {s u v : Nat → Nat} (h : ∀ q, q < 24 → u q = v q) {p : Nat} (hp : p < 24) : gaM s u p = gaM s v p := dnP_cong (fun q hq => upP_cong q (fun r hr => h r (by omega))) _ (by omega)
theorem cuP_cong {s u v : Nat → Nat} : ∀ p, (∀ q, q ≤ p → u q = v q) → cuP s u p = cuP s v p
  | 0, h => by show min (u 0) 1000000 + s 0 = min (v 0) 1000000 + s 0; rw [h 0 (Nat.le_refl _)]
  | p + 1, h => by
    show min (u (p + 1)) (cuP s u p) + s (p + 1) = min (v (p + 1)) (cuP s v p) + s (p + 1)
    rw [cuP_cong p (fun q hq => h q (by omega)), h (p + 1) (Nat.le_refl _)]
theorem cdP_cong {s u v : Nat → Nat} (h : ∀ q, q < 24 → u q = v q) : ∀ k, k < 24 → cdP s u k = cdP s v k
  | 0, _ => by show min (u 23) _ = min (v 23) _; rw [h 23 (by omega)]
  | k + 1, hk => by
    show min (u (22 - k)) (cdP s u k + s (22 - k)) = min (v (22 - k)) (cdP s v k + s (22 - k))
    rw [cdP_cong h k (by omega), h (22 - k) (by omega)]
theorem gaC_cong {s u v : Nat → Nat} (h : ∀ q, q < 24 → u q = v q) {p : Nat} (hp : p < 24) : gaC s u p = gaC s v p := cdP_cong (fun q hq => cuP_cong q (fun r hr => h r (by omega))) _ (by omega)
theorem cuP_le {s w : Nat → Nat} (hs : ∀ p, s p ≤ 8) (hw : ∀ p, p < 24 → w p ≤ 1000000) : ∀ p, p < 24 → cuP s w p ≤ 1000008
  | 0, h => by
    have := hs 0
    show min (w 0) 1000000 + s 0 ≤ _
    omega
  | p + 1, h => by
    have := hs (p + 1)
    have := hw (p + 1) h
    show min (w (p + 1)) _ + s (p + 1) ≤ _
    omega
theorem cdP_le {s u : Nat → Nat} (hs : ∀ p, s p ≤ 8) (hu : ∀ p, p < 24 → u p ≤ 1000008) : ∀ k, k < 24 → cdP s u k ≤ 1000008
  | 0, h => by
    have := hu 23 (by omega)
    show min (u 23) _ ≤ _
    omega
  | k + 1, h => by
    have := hu (22 - k) (by omega)
    show min (u (22 - k)) _ ≤ _
    omega
/-- the thief's hours -/
def thT (s : Nat → Nat → Nat) (f t : Nat) : Nat → Nat → Nat
  | 0 => gaM (s t) (fun p => if p = f then s t p else 1000000)
  | n + 1 => gaM (s ((t + (n + 1)) % 24)) (fun p => thT s f t n p + s ((t + (n + 1)) % 24) p)
theorem thT_le {s : Nat → Nat → Nat} (hs : ∀ t p, s t p ≤ 8) {f t : Nat} (hf : f < 24) : ∀ n p, p < 24 → thT s f t n p ≤ 376 + 8 * n
  | 0, p, hp => by
    have := ga_b (s := s t) (hs t) hf hp
    show gaM _ _ p ≤ _
    omega
  | n + 1, p, hp => by
    have h2 : ∀ k, k < 24 → dnP (s ((t + (n + 1)) % 24)) (upP (s ((t + (n + 1)) % 24)) (fun p => thT s f t n p + s ((t + (n + 1)) % 24) p)) k ≤ upP (s ((t + (n + 1)) % 24)) (fun p => thT s f t n p + s ((t + (n + 1)) % 24) p) (23 - k) := by
      intro k hk
      cases k with
      | zero => exact Nat.le_refl _
      | succ k =>
        rw [show 23 - (k + 1) = 22 - k by omega]
        exact Nat.min_le_left _ _
    have h3 := h2 (23 - p) (by omega)
    rw [show 23 - (23 - p) = p by omega] at h3
    have h4 : upP (s ((t + (n + 1)) % 24)) (fun p => thT s f t n p + s ((t + (n + 1)) % 24) p) p ≤ thT s f t n p + s ((t + (n + 1)) % 24) p := by
      cases p with
      | zero => exact Nat.le_refl _
      | succ p => exact Nat.min_le_left _ _
    have h5 := thT_le (f := f) (t := t) hs hf n p hp
    have h6 := hs ((t + (n + 1)) % 24) p
    show gaM _ _ p ≤ _
    unfold gaM
    omega
def thB (s : Nat → Nat → Nat) (f o t : Nat) : Nat → Nat
  | 0 => thT s f t 0 o
  | n + 1 => min (thB s f o t n) (thT s f t (n + 1) o)
