/-! ===== a state copied ===== -/
def cpP (V5 : VT) (i j m : Nat) (V' : VT) : Prop := (∀ q, q ≠ i → V' q = V5 q) ∧ ∀ k, 3 ≤ k → k < m → V' i k = V5 j k
theorem cpP.s {V5 V' : VT} {i j m : Nat} (h : cpP V5 i j m V') (hij : j ≠ i) : cpP V5 i j (m + 1) (va_up V' i (upd (V' i) m (V' j m))) := by
  refine ⟨fun q hq => by rw [va_n hq]; exact h.1 q hq, fun k h3 hk => ?_⟩
  rw [va_s]
  by_cases e : k = m
  · subst e; rw [pk_us, h.1 j hij]
  · rw [pk_un e]; exact h.2 k h3 (by omega)
theorem q_cp {α : Type} {n : Nat} {x : Option α} (hn : n < 2 ^ 31) : cp_ 0 0 (nI n) n n x = x := by
  unfold cp_
  rw [if_neg]
  rw [nI_clamp hn]
  show ¬ ((0 : Int32) < 0 ∨ (0 : Int32) < 0 ∨ nI n < 0 ∨ n < 0 + n ∨ n < 0 + n)
  have h1 : ¬ (0 : Int32) < 0 := by decide
  have h2 := nI_pos hn
  have h3 : ¬ n < 0 + n := by omega
  simp only [h1, h2, h3, or_self, not_false_eq_true]
theorem lt_ex {α β : Type} {e : α} {k : α → Option β} {P : β → Prop} (h : ∀ x, x = e → ∃ r, k x = some r ∧ P r) : ∃ r, lt_ e k = some r ∧ P r := h e rfl
theorem q_mn {n : Nat} : (if nI n < nI n then nI n else nI n) = nI n := by split <;> rfl
theorem va_cp0 {f g : Nat → Int32} {n k : Nat} (h : k < n) : va_cpy f g (0 : Int32).toNatClampNeg (0 : Int32).toNatClampNeg n k = f k := by
  unfold va_cpy
  rw [show (0 : Int32).toNatClampNeg = 0 from rfl, if_pos ⟨by omega, by omega⟩]
  congr 1
  omega
/-- the cells of a state -/
def StN (i q : Nat) : Prop := q ≠ i ∧ q ≠ 18 + 3 * i + 0 ∧ q ≠ 18 + 3 * i + 1 ∧ q ≠ 18 + 3 * i + 2
theorem c_copy {V : VT} {i j : Nat} {A : AT} (hR : RS V j A) (hW : WA A) (hi : i < 17) (hj : j < 17) (hij : j ≠ i) : ∃ V', fX6_copyFrom V i j = some V' ∧ RS V' i A ∧ ∀ q, StN i q → V' q = V q := by
  have h0 := hW.1.1
  have h1 := hW.1.2.1
  have h7 := WA_w hW
  have h8 := WA_l hW
  unfold fX6_copyFrom
  rw [q_mn, q_mn, q_mn, q_cp (by omega), nI_clamp (show 56 < 2 ^ 31 by omega), nI_clamp (show 50 < 2 ^ 31 by omega), nI_clamp (show 60 < 2 ^ 31 by omega)]
  refine lt_ex (fun V1 hV1 => ?_)
  rw [q_cp (by omega)]
  refine lt_ex (fun V3 hV3 => ?_)
  rw [q_cp (by omega)]
  refine lt_ex (fun V5 hV5 => ?_)
  have hV1 := hV1.symm
  have hV3 := hV3.symm
  have hV5 := hV5.symm
  have p3 : cpP V5 i j 3 V5 := ⟨fun _ _ => rfl, fun k a b => by omega⟩
  refine lt_ex (fun V7 e => ?_)
  have p4 := p3.s hij; rw [← e] at p4; clear e
  refine lt_ex (fun V8 e => ?_)
  have p5 := p4.s hij; rw [← e] at p5; clear e
  refine lt_ex (fun V9 e => ?_)
  have p6 := p5.s hij; rw [← e] at p6; clear e
  refine lt_ex (fun V10 e => ?_)
  have p7 := p6.s hij; rw [← e] at p7; clear e
  refine lt_ex (fun V11 e => ?_)
  have p8 := p7.s hij; rw [← e] at p8; clear e
  refine lt_ex (fun V12 e => ?_)
  have p9 := p8.s hij; rw [← e] at p9; clear e
  refine lt_ex (fun V13 e => ?_)
  have p10 := p9.s hij; rw [← e] at p10; clear e
  refine lt_ex (fun V14 e => ?_)
  have p11 := p10.s hij; rw [← e] at p11; clear e
  refine lt_ex (fun V15 e => ?_)
  have p12 := p11.s hij; rw [← e] at p12; clear e
  refine lt_ex (fun V16 e => ?_)
  have p := p12.s hij; rw [← e] at p; clear e
  have ej : V5 j = V j := by rw [← hV5, va_n (by omega), ← hV3, va_n (by omega), ← hV1, va_n (by omega)]
  refine ⟨_, rfl, ?_, ?_⟩
  · have sc : ∀ k, 3 ≤ k → k < 13 → V16 i k = V j k := fun k a b => (p.2 k a b).trans (congrFun ej k)
    refine ⟨⟨(sc 3 (by omega) (by omega)).trans hR.1.1, (sc 4 (by omega) (by omega)).trans hR.1.2.1, (sc 5 (by omega) (by omega)).trans hR.1.2.2.1, (sc 6 (by omega) (by omega)).trans hR.1.2.2.2.1, (sc 7 (by omega) (by omega)).trans hR.1.2.2.2.2.1, (sc 8 (by omega) (by omega)).trans hR.1.2.2.2.2.2.1, (sc 9 (by omega) (by omega)).trans hR.1.2.2.2.2.2.2.1, (sc 10 (by omega) (by omega)).trans hR.1.2.2.2.2.2.2.2.1, (sc 11 (by omega) (by omega)).trans hR.1.2.2.2.2.2.2.2.2.1, (sc 12 (by omega) (by omega)).trans hR.1.2.2.2.2.2.2.2.2.2⟩, ?_, ?_, ?_, ?_⟩
    · intro h k hh hk
      rw [p.1 _ (by omega), ← hV5, va_n (by omega), ← hV3, va_n (by omega), ← hV1, va_s, va_cp0 (by omega)]
      exact hR.2.1 h k hh hk
    · intro d k hd hk hk2
      rw [p.1 _ (by omega), ← hV5, va_n (by omega), ← hV3, va_s, va_cp0 (by omega), ← hV1, va_n (by omega)]
      exact hR.2.2.1 d k hd hk hk2
    · intro d hd
      rw [p.1 _ (by omega), ← hV5, va_n (by omega), ← hV3, va_s, va_cp0 (by omega), ← hV1, va_n (by omega)]
      exact hR.2.2.2.1 d hd
    · intro k hk
      rw [p.1 _ (by omega), ← hV5, va_s, va_cp0 (Nat.mod_lt _ (by omega)), ← hV3, va_n (by omega), ← hV1, va_n (by omega)]
      exact hR.2.2.2.2 k hk
  · intro q hq
    obtain ⟨q1, q2, q3, q4⟩ := hq
    rw [p.1 q q1, ← hV5, va_n q4, ← hV3, va_n q3, ← hV1, va_n q2]
/-! ===== one number of a state put ===== -/
theorem aw_H {A : AT} {h k v : Nat} (hk : k ≠ 7) : aw (pH A h k v) = aw A := by
  funext q
  unfold aw aH pH up2
  simp only [show ¬ (7 : Nat) = k from fun e => hk e.symm, and_false, if_false]
theorem RS.h {V : VT} {i : Nat} {A : AT} (hR : RS V i A) (hi : i < 17) {h k v : Nat} (hk : k < 7) : RS (va_up V (18 + 3 * i + 0) (upd (V (18 + 3 * i + 0)) (7 * h + k) (nI v))) i (pH A h k v) := by
  refine ⟨?_, ?_, ?_, ?_, ?_⟩
  · rw [va_n (by omega), aw_H (by omega)]; exact hR.1
  · intro h' k' hh hk'
    rw [va_s]
    by_cases e : h' = h ∧ k' = k
    · obtain ⟨rfl, rfl⟩ := e
      rw [pk_us]
      congr 1
      simp [aH, pH, up2]
    · rw [pk_un (by omega)]
      have : aH (pH A h k v) h' k' = aH A h' k' := by unfold aH pH up2; exact if_neg e
      rw [this]
      exact hR.2.1 h' k' hh hk'
  · intro d k hd hk hk2
    rw [va_n (by omega)]; exact hR.2.2.1 d k hd hk hk2
  · intro d hd
    rw [va_n (by omega)]; exact hR.2.2.2.1 d hd
  · intro k hk
    rw [va_n (by omega)]; exact hR.2.2.2.2 k hk
theorem c_setHouse {V : VT} {i : Nat} {A : AT} (hR : RS V i A) (hW : WA A) (hi : i < 17) {h k v : Nat} (hh : h < aS A 0) (hk : k < 7) : ∃ V', fX6_setHouse V i (nI h) (nI k) (nI v) = some V' ∧ RS V' i (pH A h k v) ∧ ∀ q, q ≠ 18 + 3 * i + 0 → V' q = V q := by
  have h8 := hW.1.1
  unfold fX6_setHouse
  rw [q_mul, nI_add, q_lt, if_neg (nI_pos (by omega)), if_neg (nI_ge (by omega) (by omega)), q_rd (by omega) (by omega), nI_clamp (by omega), show h * 7 + k = 7 * h + k by omega]
  exact ⟨_, rfl, hR.h hi hk, fun q hq => va_n hq⟩
/-- a row of a deed: what stands there as a number -/
def dI (k v : Nat) : Int32 := if k = 2 then onI v else nI v
theorem so_D {A : AT} {d k v : Nat} (hk : k ≠ 5) : so (pD A d k v) = so A := by
  funext q
  unfold so aD pD up2
  simp only [show ¬ (5 : Nat) = k from fun e => hk e.symm, and_false, if_false]
theorem RS.d {V : VT} {i : Nat} {A : AT} (hR : RS V i A) (hi : i < 17) {d k v : Nat} (hk : k < 5) : RS (va_up V (18 + 3 * i + 1) (upd (V (18 + 3 * i + 1)) (5 * d + k) (dI k v))) i (pD A d k v) := by
  refine ⟨?_, ?_, ?_, ?_, ?_⟩
  · rw [va_n (by omega), so_D (by omega)]; exact hR.1
  · intro h' k' hh hk'
    rw [va_n (by omega)]; exact hR.2.1 h' k' hh hk'
  · intro d' k' hd hk' hk2
    rw [va_s]
    by_cases e : d' = d ∧ k' = k
    · obtain ⟨rfl, rfl⟩ := e
      rw [pk_us, dI, if_neg hk2]
      congr 1
      simp [aD, pD, up2]
    · rw [pk_un (by omega)]
      have : aD (pD A d k v) d' k' = aD A d' k' := by unfold aD pD up2; exact if_neg e
      rw [this]
      exact hR.2.2.1 d' k' hd hk' hk2
  · intro d' hd
    rw [va_s]
    by_cases e : d' = d ∧ 2 = k
    · obtain ⟨rfl, rfl⟩ := e
      rw [pk_us, dI, if_pos rfl]
      congr 1
      simp [aD, pD, up2]
    · rw [pk_un (by omega)]
      have : aD (pD A d k v) d' 2 = aD A d' 2 := by unfold aD pD up2; exact if_neg e
      rw [this]
      exact hR.2.2.2.1 d' hd
  · intro k hk
    rw [va_n (by omega)]; exact hR.2.2.2.2 k hk
theorem c_setDeed {V : VT} {i : Nat} {A : AT} (hR : RS V i A) (hW : WA A) (hi : i < 17) {d k v : Nat} (hd : d < aS A 1) (hk : k < 5) : ∃ V', fX6_setDeed V i (nI d) (nI k) (dI k v) = some V' ∧ RS V' i (pD A d k v) ∧ ∀ q, q ≠ 18 + 3 * i + 1 → V' q = V q := by
  have h8 := hW.1.2.1
  unfold fX6_setDeed
  rw [q_mul, nI_add, q_lt, if_neg (nI_pos (by omega)), if_neg (nI_ge (by omega) (by omega)), q_rd (by omega) (by omega), nI_clamp (by omega), show d * 5 + k = 5 * d + k by omega]
  exact ⟨_, rfl, hR.d hi hk, fun q hq => va_n hq⟩
/-- the fog told -/
theorem RS.fog {V : VT} {i : Nat} {A : AT} (hR : RS V i A) (hi : i < 17) (f : Nat) : RS (va_up V i (upd (V i) 8 (nI f))) i (pS A 5 f) := by
  have e : ∀ k, k ≠ 8 → va_up V i (upd (V i) 8 (nI f)) i k = V i k := fun k hk => by rw [va_s, pk_un hk]
  refine ⟨⟨(e 3 (by omega)).trans hR.1.1, (e 4 (by omega)).trans hR.1.2.1, (e 5 (by omega)).trans hR.1.2.2.1, (e 6 (by omega)).trans hR.1.2.2.2.1, (e 7 (by omega)).trans hR.1.2.2.2.2.1, by rw [va_s, pk_us]; rfl, (e 9 (by omega)).trans hR.1.2.2.2.2.2.2.1, (e 10 (by omega)).trans hR.1.2.2.2.2.2.2.2.1, (e 11 (by omega)).trans hR.1.2.2.2.2.2.2.2.2.1, (e 12 (by omega)).trans hR.1.2.2.2.2.2.2.2.2.2⟩, ?_, ?_, ?_, ?_⟩
  · intro h k hh hk; rw [va_n (by omega)]; exact hR.2.1 h k hh hk
  · intro d k hd hk hk2; rw [va_n (by omega)]; exact hR.2.2.1 d k hd hk hk2
  · intro d hd; rw [va_n (by omega)]; exact hR.2.2.2.1 d hd
  · intro k hk; rw [va_n (by omega)]; exact hR.2.2.2.2 k hk
theorem WA.fog {A : AT} (hW : WA A) {f : Nat} (hf : f ≤ 9) : WA (pS A 5 f) := by
  obtain ⟨⟨a0, a1, a2, a3, a4, a5, a6, a7, a8⟩, b, c, d⟩ := hW
  exact ⟨⟨a0, a1, a2, a3, a4, hf, a6, a7, a8⟩, b, c, d⟩
theorem RS.seed {V : VT} {i : Nat} {A : AT} (hR : RS V i A) (hi : i < 17) (z : Int32) : RS (va_up V i (upd (V i) 11 z)) i (pZ A z) := by
  have e : ∀ k, k ≠ 11 → va_up V i (upd (V i) 11 z) i k = V i k := fun k hk => by rw [va_s, pk_un hk]
  refine ⟨⟨(e 3 (by omega)).trans hR.1.1, (e 4 (by omega)).trans hR.1.2.1, (e 5 (by omega)).trans hR.1.2.2.1, (e 6 (by omega)).trans hR.1.2.2.2.1, (e 7 (by omega)).trans hR.1.2.2.2.2.1, (e 8 (by omega)).trans hR.1.2.2.2.2.2.1, (e 9 (by omega)).trans hR.1.2.2.2.2.2.2.1, (e 10 (by omega)).trans hR.1.2.2.2.2.2.2.2.1, by rw [va_s, pk_us]; rfl, (e 12 (by omega)).trans hR.1.2.2.2.2.2.2.2.2.2⟩, ?_, ?_, ?_, ?_⟩
  · intro h k hh hk; rw [va_n (by omega)]; exact hR.2.1 h k hh hk
  · intro d k hd hk hk2; rw [va_n (by omega)]; exact hR.2.2.1 d k hd hk hk2
  · intro d hd; rw [va_n (by omega)]; exact hR.2.2.2.1 d hd
  · intro k hk; rw [va_n (by omega)]; exact hR.2.2.2.2 k hk
theorem WA.seed {A : AT} (hW : WA A) (z : Int32) : WA (pZ A z) := hW
theorem StN.cs {V V' : VT} (h : ∀ q, StN 3 q → V' q = V q) : Cs V V' := ⟨fun j a b c d e f g h' i k l => h j ⟨b, by omega, by omega, by omega⟩, by rw [h 1 ⟨by omega, by omega, by omega, by omega⟩], fun k _ => by rw [h 17 ⟨by omega, by omega, by omega, by omega⟩]⟩
/-- the spare state as a copy of the state -/
theorem c_spare {V : VT} {A : AT} {L : Fa → Bool} (hC : CT V 2 A L) : ∃ V', fX6_copyFrom V 3 2 = some V' ∧ CT V' 3 A L ∧ CT V' 2 A L ∧ Cs V V' := by
  obtain ⟨V', e, hR, hq⟩ := c_copy (i := 3) hC.1 hC.2.1 (by omega) (by omega) (by omega)
  have e17 := hq 17 ⟨by omega, by omega, by omega, by omega⟩
  have e69 := hq 69 ⟨by omega, by omega, by omega, by omega⟩
  have hL : LD (V' 17 2) (V' 17 1) (V' 69) L := by rw [e17, e69]; exact hC.2.2.1
  exact ⟨V', e, ⟨hR, hC.2.1, hL, by omega⟩, ⟨hC.1.w (hq _ ⟨by omega, by omega, by omega, by omega⟩) (hq _ ⟨by omega, by omega, by omega, by omega⟩) (hq _ ⟨by omega, by omega, by omega, by omega⟩) (hq _ ⟨by omega, by omega, by omega, by omega⟩), hC.2.1, hL, by omega⟩, StN.cs hq⟩
