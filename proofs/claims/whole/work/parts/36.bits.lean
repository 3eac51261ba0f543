/-! ===== loops over houses, places and hours ===== -/
theorem lp {σ ρ α : Type} {f : σ → Option (σ ⊕ ρ)} (S : Nat → α) (mk : VT → α → Nat → σ) (out : VT → α → ρ) (R : VT → Prop) {V : VT} (n : Nat) (hn : n < 5000) (h0 : R V) (hs : ∀ k V', k < n → R V' → ∃ V2, f (mk V' (S k) k) = some (.inl (mk V2 (S (k + 1)) (k + 1))) ∧ R V2) (he : ∀ V', R V' → f (mk V' (S n) n) = some (.inr (out V' (S n)))) : ∃ V', it_ f FV (mk V (S 0) 0) = some (out V' (S n)) ∧ R V' := by
  obtain ⟨r, e, V', rfl, hR⟩ := it_for (F := FV) (f := f) n (fun k s => ∃ V', s = mk V' (S k) k ∧ R V') (fun r => ∃ V', r = out V' (S n) ∧ R V')
    (by
      rintro k s hk ⟨V', rfl, hR⟩
      obtain ⟨V2, h1, h2⟩ := hs k V' hk hR
      exact ⟨_, h1, V2, rfl, h2⟩)
    (by
      rintro s ⟨V', rfl, hR⟩
      exact ⟨_, he V' hR, V', rfl, hR⟩) (by have := FV_ge; omega) (s := mk V (S 0) 0) ⟨V, rfl, h0⟩
  exact ⟨V', e, hR⟩
/-- a loop that writes nothing -/
theorem lq {σ ρ α : Type} {f : σ → Option (σ ⊕ ρ)} (S : Nat → α) (mk : α → Nat → σ) {r : ρ} (n : Nat) (hn : n < 5000) (hs : ∀ k, k < n → f (mk (S k) k) = some (.inl (mk (S (k + 1)) (k + 1)))) (he : f (mk (S n) n) = some (.inr r)) : it_ f FV (mk (S 0) 0) = some r := by
  obtain ⟨r', e, rfl⟩ := it_for (F := FV) (f := f) n (fun k s => s = mk (S k) k) (fun r' => r' = r)
    (by
      rintro k s hk rfl
      exact ⟨_, hs k hk, rfl⟩)
    (by
      rintro s rfl
      exact ⟨_, he, rfl⟩) (by have := FV_ge; omega) (s := mk (S 0) 0) rfl
  exact e
theorem bs_s (f : Nat → Bool) (n : Nat) : bs f (n + 1) = bs f n ||| (if f n then 2 ^ n else 0) := rfl
theorem bs_st {f : Nat → Bool} {n : Nat} (h : f n = true) : nI (bs f n) ||| nI (2 ^ n) = nI (bs f (n + 1)) := by rw [q_or, bs_s, if_pos h]
theorem bs_sf {f : Nat → Bool} {n : Nat} (h : f n = false) : bs f (n + 1) = bs f n := by rw [bs_s, h]; simp
theorem bs_31 (f : Nat → Bool) {n : Nat} (h : n ≤ 30) : bs f n < 2 ^ 31 := Nat.lt_of_lt_of_le (bs_lt f n) (Nat.pow_le_pow_right (n := 2) (by omega) (by omega))
/-- what the class needs to look: state i holds the street A, its law says L -/
def CT (V : VT) (i : Nat) (A : AT) (L : Fa → Bool) : Prop := RS V i A ∧ WA A ∧ LD (V 17 2) (V 17 1) (V 69) L ∧ i < 17
def Cq (V V' : VT) : Prop := (∀ j, j ≠ 17 → j ≠ 73 → j ≠ 74 → j ≠ 75 → V' j = V j) ∧ ∀ k, k < 3 → V' 17 k = V 17 k
theorem Cq.rf {V : VT} : Cq V V := ⟨fun _ _ _ _ _ => rfl, fun _ _ => rfl⟩
theorem Cq.tr {V V1 V2 : VT} (h1 : Cq V V1) (h2 : Cq V1 V2) : Cq V V2 := ⟨fun j a b c d => (h2.1 j a b c d).trans (h1.1 j a b c d), fun k hk => (h2.2 k hk).trans (h1.2 k hk)⟩
theorem Ly.q {V V' : VT} (h : Ly V V') : Cq V V' := ⟨fun j a _ _ _ => h.1 j a, h.2⟩
theorem Cq.up {V : VT} {j : Nat} {f : Nat → Int32} (h : j = 73 ∨ j = 74 ∨ j = 75) : Cq V (va_up V j f) := ⟨fun i _ b c d => va_n (by omega), fun k _ => by rw [va_n (by omega)]⟩
theorem CT.q {V V' : VT} {i : Nat} {A : AT} {L : Fa → Bool} (h : CT V i A L) (hq : Cq V V') : CT V' i A L := by
  obtain ⟨h1, h2, h3, h4⟩ := h
  have e0 := hq.1 i (by omega) (by omega) (by omega) (by omega)
  have e1 := hq.1 (18 + 3 * i + 0) (by omega) (by omega) (by omega) (by omega)
  have e2 := hq.1 (18 + 3 * i + 1) (by omega) (by omega) (by omega) (by omega)
  have e3 := hq.1 (18 + 3 * i + 2) (by omega) (by omega) (by omega) (by omega)
  refine ⟨?_, h2, ?_, h4⟩
  · unfold RS
    rw [e0, e1, e2, e3]
    exact h1
  · rw [hq.2 2 (by omega), hq.2 1 (by omega), hq.1 69 (by omega) (by omega) (by omega) (by omega)]
    exact h3
theorem CT.ly {V V' : VT} {i : Nat} {A : AT} {L : Fa → Bool} (h : CT V i A L) (hq : Ly V V') : CT V' i A L := h.q hq.q
def seer (L : Fa → Bool) (A : AT) (p t : Nat) : Nat := bs (fun h => L (fc A h p t)) (aS A 0)
def plc (L : Fa → Bool) (A : AT) (h t : Nat) : Nat := bs (fun p => L (fc A h p t)) 24
theorem seer_lt {L : Fa → Bool} {A : AT} {p t : Nat} (hW : WA A) : seer L A p t < 256 := bs_256 _ hW.1.1
theorem plc_lt {L : Fa → Bool} {A : AT} {h t : Nat} : plc L A h t < 16777216 := bs_lt _ 24
section CL
variable {V : VT} {i : Nat} {A : AT} {L : Fa → Bool}
theorem CT.see (hC : CT V i A L) {h p t : Nat} (hh : h < aS A 0) (hp : p < 24) (ht : t < 24) : ∃ V', fX3_lets V i (nI h) (nI p) (nI t) = some (bI (L (fc A h p t)), V') ∧ Ly V V' := c_lets hC.1 hC.2.1 hC.2.2.2 hC.2.2.1 hh hp ht
theorem c_witness (hC : CT V i A L) {p t : Nat} (hp : p < 24) (ht : t < 24) : ∃ V', fX5_witnessBits V i (nI p) (nI t) = some (nI (seer L A p t), V') ∧ Ly V V' := by
  have h8 := hC.2.1.1.1
  unfold fX5_witnessBits
  obtain ⟨V', e, hR⟩ := lp (f := iX5_witnessBits_L6 i) (fun k => bs (fun h => L (fc A h p t)) k) (fun V' a k => (V', nI p, nI t, nI a, nI k)) (fun V' a => (nI a, V')) (fun V' => Ly V V') (aS A 0) (by omega) Ly.rf
    (by
      intro k V' hk hR
      have hC' := hC.ly hR
      obtain ⟨V2, e, hy⟩ := hC'.see hk hp ht
      unfold iX5_witnessBits_L6 fX5_witnessBits_L6
      simp only []
      rw [hC'.1.1.1, if_neg (nI_ge hk (by omega)), e, q_I, q_ifb]
      refine ⟨V2, ?_, hR.tr hy⟩
      cases hl : L (fc A k p t)
      · rw [if_neg (by decide), q_lt, nI_1, bs_sf hl]
      · rw [if_pos rfl, q_lt, q_lt, nI_1, q_shl (by omega), bs_st hl])
    (by
      intro V' hR
      unfold iX5_witnessBits_L6 fX5_witnessBits_L6
      simp only []
      rw [(hC.ly hR).1.1.1, if_pos (nI_le (Nat.le_refl _) (by omega))])
  have e : it_ (iX5_witnessBits_L6 i) FV (V, nI p, nI t, 0, 0) = _ := e
  rw [e, q_R]
  exact ⟨V', rfl, hR⟩
theorem c_place (hC : CT V i A L) {h t : Nat} (hh : h < aS A 0) (ht : t < 24) : ∃ V', fX5_placeBits V i (nI h) (nI t) = some (nI (plc L A h t), V') ∧ Ly V V' := by
  unfold fX5_placeBits
  obtain ⟨V', e, hR⟩ := lp (f := iX5_placeBits_L6 i) (fun k => bs (fun p => L (fc A h p t)) k) (fun V' a k => (V', nI h, nI t, nI a, nI k)) (fun V' a => (nI a, V')) (fun V' => Ly V V') 24 (by omega) Ly.rf
    (by
      intro k V' hk hR
      have hC' := hC.ly hR
      obtain ⟨V2, e, hy⟩ := hC'.see hh hk ht
      unfold iX5_placeBits_L6 fX5_placeBits_L6
      simp only []
      rw [q_lit, if_neg (nI_ge hk (by omega)), e, q_I, q_ifb]
      refine ⟨V2, ?_, hR.tr hy⟩
      cases hl : L (fc A h k t)
      · rw [if_neg (by decide), q_lt, nI_1, bs_sf hl]
      · rw [if_pos rfl, q_lt, q_lt, nI_1, q_shl (by omega), bs_st hl])
    (by
      intro V' hR
      unfold iX5_placeBits_L6 fX5_placeBits_L6
      simp only []
      rw [q_lit, if_pos (nI_le (Nat.le_refl _) (by omega))])
  have e : it_ (iX5_placeBits_L6 i) FV (V, nI h, nI t, 0, 0) = _ := e
  rw [e, q_R]
  exact ⟨V', rfl, hR⟩
end CL
/-! ===== the model ===== -/
def MT (V : VT) (A : AT) (L : Fa → Bool) : Prop := RM (V 76) A ∧ WA A ∧ LM (V 76) L
theorem MT.w {V V' : VT} {A : AT} {L : Fa → Bool} (h : MT V A L) (e : V' 76 = V 76) : MT V' A L := by
  unfold MT
  rw [e]
  exact h
theorem MT.y {V V' : VT} {A : AT} {L : Fa → Bool} (h : MT V A L) (hy : My V V') : MT V' A L := h.w (hy.1 76 (by omega) (by omega))
/-- who sees, by another fog -/
def seerF (L : Fa → Bool) (A : AT) (p t fog : Nat) : Nat := bs (fun h => L (fa_ A h p t fog (aH A h 6) (upB A h t) (aw A h))) (aS A 0)
theorem seerF_now {L : Fa → Bool} {A : AT} {p t : Nat} : seerF L A p t (aS A 5) = seer L A p t := rfl
section ML
variable {V : VT} {A : AT} {L : Fa → Bool}
theorem MT.see (hC : MT V A L) {h p t fog : Nat} (hh : h < aS A 0) (hp : p < 24) (ht : t < 24) : ∃ V', fX10_doesSee V (nI h) (nI p) (nI t) (nI fog) = some (bI (L (fa_ A h p t fog (aH A h 6) (upB A h t) (aw A h))), V') ∧ My V V' ∧ MF V' A h p t fog (aH A h 6) (upB A h t) (aw A h) := m_doesSee hC.1 hC.2.1 hC.2.2 hh hp ht
theorem m_seersOf (hC : MT V A L) {p t fog : Nat} (hp : p < 24) (ht : t < 24) : ∃ V', fX10_seersOf V (nI p) (nI t) (nI fog) = some (nI (seerF L A p t fog), V') ∧ My V V' := by
  have h8 := hC.2.1.1.1
  unfold fX10_seersOf
  obtain ⟨V', e, hR⟩ := lp (f := iX10_seersOf_L6) (fun k => bs (fun h => L (fa_ A h p t fog (aH A h 6) (upB A h t) (aw A h))) k) (fun V' a k => (V', nI p, nI t, nI fog, nI a, nI k)) (fun V' a => (nI a, V')) (fun V' => My V V') (aS A 0) (by omega) My.rf
    (by
      intro k V' hk hR
      have hC' := hC.y hR
      obtain ⟨V2, e, hy, -⟩ := hC'.see (fog := fog) hk hp ht
      unfold iX10_seersOf_L6 fX10_seersOf_L6
      simp only []
      rw [m_houses hC'.1, q_R, if_neg (nI_ge hk (by omega)), e, q_I, q_ifb]
      refine ⟨V2, ?_, hR.tr hy⟩
      cases hl : L (fa_ A k p t fog (aH A k 6) (upB A k t) (aw A k))
      · rw [if_neg (by decide), q_lt, q_lt, nI_1, bs_sf (f := fun h => L (fa_ A h p t fog (aH A h 6) (upB A h t) (aw A h))) hl, q_lit, q_or, Nat.or_zero]
      · rw [if_pos rfl, q_lt, q_lt, nI_1, q_shl (by omega), bs_st (f := fun h => L (fa_ A h p t fog (aH A h 6) (upB A h t) (aw A h))) hl])
    (by
      intro V' hR
      unfold iX10_seersOf_L6 fX10_seersOf_L6
      simp only []
      rw [m_houses (hC.y hR).1, q_R, if_pos (nI_le (Nat.le_refl _) (by omega))])
  have e : it_ iX10_seersOf_L6 FV (V, nI p, nI t, nI fog, 0, 0) = _ := e
  rw [e, q_R]
  exact ⟨V', rfl, hR⟩
theorem m_seersNow (hC : MT V A L) {p t : Nat} (hp : p < 24) (ht : t < 24) : ∃ V', fX10_seersNow V (nI p) (nI t) = some (nI (seer L A p t), V') ∧ My V V' := by
  unfold fX10_seersNow
  rw [q_rdl (by omega) (by omega), q_cl (by omega), hC.1.1 5 (by omega)]
  obtain ⟨V', e, hy⟩ := m_seersOf (fog := aS A 5) hC hp ht
  rw [e, q_I]
  exact ⟨V', rfl, hy⟩
end ML
