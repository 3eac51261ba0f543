/-! ===== loops that may leave early ===== -/
theorem lpE {σ ρ α : Type} {f : σ → Option (σ ⊕ ρ)} (S : Nat → α) (mk : VT → α → Nat → σ) (out : VT → ρ) (R : Nat → VT → Prop) (Q : VT → Prop) {V : VT} (n : Nat) (hn : n < 5000) (h0 : R 0 V) (hs : ∀ k V', k < n → R k V' → (∃ V2, f (mk V' (S k) k) = some (.inl (mk V2 (S (k + 1)) (k + 1))) ∧ R (k + 1) V2) ∨ ∃ V2, f (mk V' (S k) k) = some (.inr (out V2)) ∧ Q V2) (he : ∀ V', R n V' → ∃ V2, f (mk V' (S n) n) = some (.inr (out V2)) ∧ Q V2) : ∃ V', it_ f FV (mk V (S 0) 0) = some (out V') ∧ Q V' := by
  obtain ⟨r, e, V', rfl, hR⟩ := it_forE (F := FV) (f := f) n (fun k s => ∃ V', s = mk V' (S k) k ∧ R k V') (fun r => ∃ V', r = out V' ∧ Q V')
    (by
      rintro k s hk ⟨V', rfl, hR⟩
      rcases hs k V' hk hR with ⟨V2, h1, h2⟩ | ⟨V2, h1, h2⟩
      · exact Or.inl ⟨_, h1, V2, rfl, h2⟩
      · exact Or.inr ⟨_, h1, V2, rfl, h2⟩)
    (by
      rintro s ⟨V', rfl, hR⟩
      obtain ⟨V2, h1, h2⟩ := he V' hR
      exact ⟨_, h1, V2, rfl, h2⟩) (by have := FV_ge; omega) (s := mk V (S 0) 0) ⟨V, rfl, h0⟩
  exact ⟨V', e, hR⟩
theorem first_eq {p : Nat → Bool} {n k : Nat} (hk : k < n) (hp : p k = true) (hn : ∀ j, j < k → p j = false) : fa_first p n = k := by
  rcases Nat.lt_trichotomy (fa_first p n) k with h | h | h
  · have := fa_first_yes p n (by omega)
    rw [hn _ h] at this
    cases this
  · exact h
  · have := fa_first_no p n k h
    rw [hp] at this
    cases this
theorem first_none {p : Nat → Bool} {n : Nat} (hn : ∀ j, j < n → p j = false) : fa_first p n = n := by
  have h1 := fa_first_le p n
  rcases Nat.lt_or_ge (fa_first p n) n with h | h
  · have := fa_first_yes p n h
    rw [hn _ h] at this
    cases this
  · omega
/-! ===== one number of a house ===== -/
theorem aH_p {A : AT} {h k v h' q : Nat} : aH (pH A h k v) h' q = if h' = h ∧ q = k then v else aH A h' q := rfl
theorem aD_p {A : AT} {h k v h' q : Nat} : aD (pD A h k v) h' q = if h' = h ∧ q = k then v else aD A h' q := rfl
theorem WA.hq {A : AT} (hW : WA A) {h k v : Nat} (hk : 3 ≤ k) (h3 : k = 3 → v ≤ 23) (h4 : k = 4 → v ≤ 24) (h5 : k = 5 → v ≤ 9) (h6 : k = 6 → v ≤ 3) (h7 : k = 7 → v ≤ 1) : WA (pH A h k v) := by
  obtain ⟨a, b, c, d⟩ := hW
  refine ⟨a, fun h' hh => ?_, c, d⟩
  obtain ⟨b0, b1, b2, b3, b4, b5, b6, b7⟩ := b h' hh
  refine ⟨?_, ?_, ?_, ?_, ?_, ?_, ?_, ?_⟩ <;> (simp only [aH_p]; (repeat' split) <;> omega)
/-! ===== mirrors ===== -/
section OP
variable {V : VT} {i : Nat} {A : AT} {L : Fa → Bool}
def mrv (L : Fa → Bool) (A : AT) (h p t m : Nat) : Bool := L (fa_ A h p t (aS A 5) m (upB A h t) (aw A h))
def mrn (L : Fa → Bool) (A : AT) (p t h : Nat) : Nat := fa_first (fun k => mrv L A h p t (aH A h 6 + k)) (4 - aH A h 6)
def mrI (L : Fa → Bool) (A : AT) (p t h : Nat) : Int32 := if mrn L A p t h < 4 - aH A h 6 then nI (mrn L A p t h) else -1
theorem fc_m {B : AT} {h p t : Nat} (hS : aS B = aS A) (hB : ∀ q, q ≠ 6 → aH B h q = aH A h q) : fc B h p t = fa_ A h p t (aS A 5) (aH B h 6) (upB A h t) (aw A h) := by
  unfold fc fa_ apN upB aw winB
  rw [hS, hB 0 (by omega), hB 1 (by omega), hB 2 (by omega), hB 3 (by omega), hB 4 (by omega), hB 7 (by omega)]
theorem m_mirrorsFor (hC : MT V A L) {h p t : Nat} (hh : h < aS A 0) (hp : p < 24) (ht : t < 24) : ∃ V', fX10_mirrorsFor V (nI h) (nI p) (nI t) = some (mrI L A p t h, V') ∧ My V V' := by
  have hb := hC.2.1.2.1 h hh
  unfold fX10_mirrorsFor
  rw [q_rdl (by omega) (by omega), q_cl (by omega), hC.1.1 5 (by omega)]
  obtain ⟨V3, e3, hy3, hF3⟩ := m_looks (p := p) (fog := aS A 5) hC.1 hC.2.1 hh ht
  rw [e3, q_R]
  obtain ⟨V', e, hy⟩ := lpE (f := iX10_mirrorsFor_L16) (V := V3) (fun _ => ()) (fun V' _ k => (V', nI h, nI k)) (fun V' => (mrI L A p t h, V'))
     (fun k V' => My V V' ∧ (∃ m, MF V' A h p t (aS A 5) m (upB A h t) (aw A h)) ∧ ∀ j, j < k → mrv L A h p t (aH A h 6 + j) = false)
     (fun V' => My V V') (4 - aH A h 6) (by omega) ⟨hy3, ⟨_, hF3⟩, fun j hj => absurd hj (Nat.not_lt_zero _)⟩
    (by
      rintro k V' hk ⟨hy, ⟨m, hF⟩, hno⟩
      have hC' := hC.y hy
      have e6 : fX10_of V' (nI h) 6 = some (nI (aH A h 6)) := m_of hC'.1 hC'.2.1 hh (k := 6) (by omega)
      unfold iX10_mirrorsFor_L16 fX10_mirrorsFor_L16
      simp only []
      rw [e6, q_R, nI_add, if_neg (show ¬ (3 : Int32) < nI (k + aH A h 6) from nI_nlt (b := k + aH A h 6) (a := 3) (by omega) (by omega)), q_R, nI_add, q_lt]
      have hF8 : MF (va_up V' 22 (upd (V' 22) 22 (nI (aH A h 6 + k)))) A h p t (aS A 5) (aH A h 6 + k) (upB A h t) (aw A h) := by
        unfold MF at hF ⊢
        simp only [va_s]
        refine ⟨?_, ?_, ?_, ?_, ?_, ?_, ?_⟩ <;> simp [upd, hF]
      have hy8 : My V' (va_up V' 22 (upd (V' 22) 22 (nI (aH A h 6 + k)))) := My.n (by omega) (by omega)
      generalize va_up V' 22 (upd (V' 22) 22 (nI (aH A h 6 + k))) = V8 at hF8 hy8 ⊢
      have hC8 := hC'.y hy8
      obtain ⟨V11, e11, hq11⟩ := m_isSeen hC8.1 hC8.2.1 hh hp (show aH A h 6 + k ≤ 3 by omega) hF8 hC8.2.2
      rw [e11, q_I, q_ifb]
      have hy11 : My V8 V11 := ⟨fun j _ a => hq11 j a, fun k _ => by rw [hq11 22 (by omega)]⟩
      have hyy := (hy.tr hy8).tr hy11
      cases hv : mrv L A h p t (aH A h 6 + k)
      · have hv' : L (fa_ A h p t (aS A 5) (aH A h 6 + k) (upB A h t) (aw A h)) = false := hv
        left
        rw [hv', if_neg (by decide), q_lt, nI_1]
        refine ⟨V11, rfl, hyy, ⟨_, by unfold MF; rw [hq11 22 (by omega)]; exact hF8⟩, fun j hj => ?_⟩
        by_cases e : j = k
        · subst e; exact hv
        · exact hno j (by omega)
      · have hv' : L (fa_ A h p t (aS A 5) (aH A h 6 + k) (upB A h t) (aw A h)) = true := hv
        right
        rw [hv', if_pos rfl]
        refine ⟨V11, ?_, hyy⟩
        have : mrn L A p t h = k := first_eq hk hv hno
        unfold mrI
        rw [this, if_pos hk])
    (by
      rintro V' ⟨hy, -, hno⟩
      have hC' := hC.y hy
      have e6 : fX10_of V' (nI h) 6 = some (nI (aH A h 6)) := m_of hC'.1 hC'.2.1 hh (k := 6) (by omega)
      refine ⟨V', ?_, hy⟩
      unfold iX10_mirrorsFor_L16 fX10_mirrorsFor_L16
      simp only []
      rw [e6, q_R, nI_add, if_pos (show (3 : Int32) < nI (4 - aH A h 6 + aH A h 6) from nI_lt (a := 3) (by omega) (by omega))]
      have : mrn L A p t h = 4 - aH A h 6 := first_none hno
      unfold mrI
      rw [this, if_neg (by omega)])
  have e : it_ iX10_mirrorsFor_L16 FV (V3, nI h, 0) = _ := e
  rw [e, q_R]
  exact ⟨V', rfl, hy⟩
theorem c_more (hC : CT V 2 A L) {B : AT} (hC3 : CT V 3 B L) (hS : aS B = aS A) (hB : ∀ h q, q ≠ 6 → aH B h q = aH A h q) {h p t : Nat} (hh : h < aS A 0) (hp : p < 24) (ht : t < 24) : ∃ V', fX9_moreMirrors V (nI h) (nI p) (nI t) = some (mrI L A p t h, V') ∧ Cs V V' ∧ ∃ B', CT V' 3 B' L ∧ aS B' = aS A ∧ ∀ h q, q ≠ 6 → aH B' h q = aH A h q := by
  have hb := hC.2.1.2.1 h hh
  unfold fX9_moreMirrors
  have e6 : fX6_ofHouse V 2 (nI h) 6 = some (nI (aH A h 6)) := c_ofHouse hC.1 hC.2.1 hh (k := 6) (by omega)
  rw [e6, q_R]
  obtain ⟨V', e, hy, hB'⟩ := lpE (f := iX9_moreMirrors_L16) (V := V) (fun _ => ()) (fun V' _ k => (V', nI h, nI p, nI t, nI (aH A h 6), nI (aH A h 6 + k))) (fun V' => (mrI L A p t h, V'))
     (fun k V' => Cs V V' ∧ (∃ B', CT V' 3 B' L ∧ aS B' = aS A ∧ ∀ h q, q ≠ 6 → aH B' h q = aH A h q) ∧ ∀ j, j < k → mrv L A h p t (aH A h 6 + j) = false)
     (fun V' => Cs V V' ∧ ∃ B', CT V' 3 B' L ∧ aS B' = aS A ∧ ∀ h q, q ≠ 6 → aH B' h q = aH A h q) (4 - aH A h 6) (by omega) ⟨Cs.rf, ⟨B, hC3, hS, hB⟩, fun j hj => absurd hj (Nat.not_lt_zero _)⟩
    (by
      rintro k V' hk ⟨hy, ⟨B, hCB, hS, hB⟩, hno⟩
      unfold iX9_moreMirrors_L16 fX9_moreMirrors_L16
      simp only []
      rw [if_neg (show ¬ (3 : Int32) < nI (aH A h 6 + k) from nI_nlt (b := aH A h 6 + k) (a := 3) (by omega) (by omega))]
      obtain ⟨V4, e4, hR4, hq4⟩ := c_setHouse (v := aH A h 6 + k) hCB.1 hCB.2.1 (by omega) (h := h) (by rw [hS]; exact hh) (k := 6) (by omega)
      have e4 : fX6_setHouse V' 3 (nI h) 6 (nI (aH A h 6 + k)) = some V4 := e4
      rw [e4, q_R]
      have hC4 : CT V4 3 (pH B h 6 (aH A h 6 + k)) L := ⟨hR4, hCB.2.1.hq (by omega) (by omega) (by omega) (by omega) (by omega) (by omega), by rw [hq4 17 (by omega), hq4 69 (by omega)]; exact hCB.2.2.1, by omega⟩
      have hy4 : Cs V' V4 := ⟨fun j _ _ _ _ a _ _ _ _ _ _ => hq4 j a, by rw [hq4 1 (by omega)], fun k _ => by rw [hq4 17 (by omega)]⟩
      have hS4 : aS (pH B h 6 (aH A h 6 + k)) = aS A := hS
      have hB4 : ∀ h' q, q ≠ 6 → aH (pH B h 6 (aH A h 6 + k)) h' q = aH A h' q := fun h' q hq => by rw [aH_p, if_neg (fun e => hq e.2)]; exact hB h' q hq
      have hm4 : aH (pH B h 6 (aH A h 6 + k)) h 6 = aH A h 6 + k := by rw [aH_p, if_pos ⟨rfl, rfl⟩]
      obtain ⟨V7, e7, hy7⟩ := hC4.see (h := h) (by rw [hS4]; exact hh) hp ht
      rw [fc_m hS4 (hB4 h), hm4] at e7
      rw [e7, q_I, q_ifb]
      have hyy := (hy.tr hy4).tr hy7.c
      cases hv : mrv L A h p t (aH A h 6 + k)
      · have hv' : L (fa_ A h p t (aS A 5) (aH A h 6 + k) (upB A h t) (aw A h)) = false := hv
        left
        rw [hv', if_neg (by decide), q_lt, nI_1]
        refine ⟨V7, rfl, hyy, ⟨_, hC4.ly hy7, hS4, hB4⟩, fun j hj => ?_⟩
        by_cases e : j = k
        · subst e; exact hv
        · exact hno j (by omega)
      · have hv' : L (fa_ A h p t (aS A 5) (aH A h 6 + k) (upB A h t) (aw A h)) = true := hv
        right
        rw [hv', if_pos rfl]
        refine ⟨V7, ?_, hyy, _, hC4.ly hy7, hS4, hB4⟩
        have : mrn L A p t h = k := first_eq hk hv hno
        unfold mrI
        rw [this, if_pos hk, pk_sub (by omega), Nat.add_sub_cancel_left])
    (by
      rintro V' ⟨hy, hB, hno⟩
      refine ⟨V', ?_, hy, hB⟩
      unfold iX9_moreMirrors_L16 fX9_moreMirrors_L16
      simp only []
      rw [if_pos (show (3 : Int32) < nI (aH A h 6 + (4 - aH A h 6)) from nI_lt (a := 3) (by omega) (by omega))]
      have : mrn L A p t h = 4 - aH A h 6 := first_none hno
      unfold mrI
      rw [this, if_neg (by omega)])
  have e : it_ iX9_moreMirrors_L16 FV (V, nI h, nI p, nI t, nI (aH A h 6), nI (aH A h 6)) = _ := e
  rw [e, q_R]
  exact ⟨V', rfl, hy, hB'⟩
def mrA (L : Fa → Bool) (A : AT) (p t : Nat) : Int32 := if allB (fun h => decide (mrn L A p t h < 4 - aH A h 6)) (aS A 0) = true then nI (fb_sm (mrn L A p t) (aS A 0)) else -1
theorem mrA_no {p t k : Nat} (hk : k < aS A 0) (hm : ¬ mrn L A p t k < 4 - aH A k 6) : mrA L A p t = -1 := by
  unfold mrA
  rw [if_neg]
  intro h
  exact hm (of_decide_eq_true (allB_iff.1 h k hk))
theorem mrA_yes {p t : Nat} (hm : ∀ k, k < aS A 0 → mrn L A p t k < 4 - aH A k 6) : mrA L A p t = nI (fb_sm (mrn L A p t) (aS A 0)) := by
  unfold mrA
  rw [if_pos]
  exact allB_iff.2 (fun k hk => decide_eq_true (hm k hk))
theorem c_mirrors (hC : CT V 2 A L) (hC3 : CT V 3 A L) {p t : Nat} (hp : p < 24) (ht : t < 24) : ∃ V', it_ iX9_mirrors_L24 FV (V, nI p, nI t, 0, 0) = some (.inr (mrA L A p t), V') ∧ Cs V V' := by
  have h8 := hC.2.1.1.1
  exact lpE (f := iX9_mirrors_L24) (V := V) (fun k => fb_sm (mrn L A p t) k) (fun V' a k => (V', nI p, nI t, nI a, nI k)) (fun V' => (.inr (mrA L A p t), V'))
    (fun k V' => Cs V V' ∧ (∃ B', CT V' 3 B' L ∧ aS B' = aS A ∧ ∀ h q, q ≠ 6 → aH B' h q = aH A h q) ∧ ∀ j, j < k → mrn L A p t j < 4 - aH A j 6)
    (fun V' => Cs V V') (aS A 0) (by omega) ⟨Cs.rf, ⟨A, hC3, rfl, fun _ _ _ => rfl⟩, fun j hj => absurd hj (Nat.not_lt_zero _)⟩
    (by
      rintro k V' hk ⟨hy, ⟨B, hCB, hS, hB⟩, hno⟩
      have hC2 : CT V' 2 A L := ⟨hC.1.w (hy.e (by omega)) (hy.e (by omega)) (hy.e (by omega)) (hy.e (by omega)), hC.2.1, by rw [hy.2.2 2 (by omega), hy.2.2 1 (by omega), hy.e (j := 69) (by omega)]; exact hC.2.2.1, by omega⟩
      unfold iX9_mirrors_L24 fX9_mirrors_L24
      simp only []
      rw [hCB.1.1.1, hS, if_neg (nI_ge hk (by omega))]
      obtain ⟨V9, e9, hy9, hB9⟩ := c_more hC2 hCB hS hB hk hp ht
      rw [e9, q_I]
      by_cases hm : mrn L A p t k < 4 - aH A k 6
      · left
        rw [show mrI L A p t k = nI (mrn L A p t k) from if_pos hm, if_neg (q_m1 (by omega)), q_lt, q_lt, nI_add, nI_1]
        refine ⟨V9, rfl, hy.tr hy9, hB9, fun j hj => ?_⟩
        by_cases e : j = k
        · subst e; exact hm
        · exact hno j (by omega)
      · right
        rw [show mrI L A p t k = -1 from if_neg hm, if_pos rfl, mrA_no hk hm]
        exact ⟨V9, rfl, hy.tr hy9⟩)
    (by
      rintro V' ⟨hy, ⟨B, hCB, hS, hB⟩, hno⟩
      refine ⟨V', ?_, hy⟩
      unfold iX9_mirrors_L24 fX9_mirrors_L24
      simp only []
      rw [hCB.1.1.1, hS, if_pos (nI_le (Nat.le_refl _) (by omega)), mrA_yes hno])
theorem m_mirrors (hC : MT V A L) {p t : Nat} (hp : p < 24) (ht : t < 24) : ∃ V', it_ iX10_mirrors_L39 FV (V, nI p, nI t, 0, 0) = some (mrA L A p t, V') ∧ My V V' := by
  have h8 := hC.2.1.1.1
  exact lpE (f := iX10_mirrors_L39) (V := V) (fun k => fb_sm (mrn L A p t) k) (fun V' a k => (V', nI p, nI t, nI a, nI k)) (fun V' => (mrA L A p t, V'))
    (fun k V' => My V V' ∧ ∀ j, j < k → mrn L A p t j < 4 - aH A j 6)
    (fun V' => My V V') (aS A 0) (by omega) ⟨My.rf, fun j hj => absurd hj (Nat.not_lt_zero _)⟩
    (by
      rintro k V' hk ⟨hy, hno⟩
      have hC2 := hC.y hy
      unfold iX10_mirrors_L39 fX10_mirrors_L39
      simp only []
      rw [m_houses hC2.1, q_R, if_neg (nI_ge hk (by omega))]
      obtain ⟨V9, e9, hy9⟩ := m_mirrorsFor hC2 hk hp ht
      rw [e9, q_I]
      by_cases hm : mrn L A p t k < 4 - aH A k 6
      · left
        rw [show mrI L A p t k = nI (mrn L A p t k) from if_pos hm, if_pos (nI_pos' (by omega)), q_lt, q_lt, nI_add, nI_1]
        refine ⟨V9, rfl, hy.tr hy9, fun j hj => ?_⟩
        by_cases e : j = k
        · subst e; exact hm
        · exact hno j (by omega)
      · right
        rw [show mrI L A p t k = -1 from if_neg hm, if_neg (by decide), mrA_no hk hm]
        exact ⟨V9, rfl, hy.tr hy9⟩)
    (by
      rintro V' ⟨hy, hno⟩
      refine ⟨V', ?_, hy⟩
      unfold iX10_mirrors_L39 fX10_mirrors_L39
      simp only []
      rw [m_houses (hC.y hy).1, q_R, if_pos (nI_le (Nat.le_refl _) (by omega)), mrA_yes hno])
theorem op_mirrors {cd : String → Int32} (hI : INV V) (h1 : cd IOOB = 1) (x1 x2 : Int32) : OpE (fun V => fX9_mirrors V x1 x2) (fun V => fX10_mirrors V x1 x2) cd V := by
  refine op_ph (f9 := fX9_mirrors) (f10 := fX10_mirrors) (k9 := fun V x1 x2 => (ob_R (fX6_copyFrom V 3 2) fun V6 => ob_R (it_ (iX9_mirrors_L24) FV (V6, x1, x2, (0 : Int32), (0 : Int32))) fun x15 => some x15)) (k10 := fun V x1 x2 => ob_R (it_ (iX10_mirrors_L39) FV (V, x1, x2, (0 : Int32), (0 : Int32))) fun x17 => some x17) (fun _ _ _ => rfl) (fun _ _ _ => rfl) hI h1 x1 x2 ?_
  intro g p t hp ht hC
  refine ⟨mrA (xL g) (xA g) p t, ?_, ?_⟩
  · obtain ⟨V6, e6, hC3, hC2, hs6⟩ := c_spare hC.t
    obtain ⟨V1, e, hy⟩ := c_mirrors hC2 hC3 hp ht
    exact ⟨V1, by rw [e6, q_R, e, q_R], hs6.tr hy⟩
  · intro V1 _ hT
    obtain ⟨V2, e, hy⟩ := m_mirrors hT hp ht
    exact ⟨V2, by rw [e, q_R], hy.q⟩
end OP
