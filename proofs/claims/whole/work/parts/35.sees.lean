/-! ===== the model's look ===== -/
section ML
variable {V : VT} {A : AT}
theorem m_holdsLine (hM : RM (V 76) A) (hW : WA A) {h p t fog m : Nat} {up away : Bool} (hh : h < aS A 0) (hp : p < 24) (hm : m ≤ 3) (hF : MF V A h p t fog m up away) {n : Nat} {ty : Nat → Bool} {tr : Nat → Fa → Bool} (hn : n ≤ 12) (hL : LawW (V 76) n ty tr) {j : Nat} (hj : j < n) : ∃ V', fX10_holdsLine V (nI j) = some (bI (tr j (fa_ A h p t fog m up away)), V') ∧ ∀ q, q ≠ 83 → V' q = V q := by
  obtain ⟨h314, a, b, hab⟩ := hL
  obtain ⟨-, e1, e2, l1, l2, hF2⟩ := hab j hj
  obtain ⟨hall, hend⟩ := hF2 (fa_ A h p t fog m up away)
  unfold fX10_holdsLine
  simp only [q_mulL, q_addL, q_lt, nI_1]
  rw [q_rd (by omega) (by omega), nI_clamp (by omega), show 315 + 3 * j + 1 = 316 + 3 * j by omega, e1]
  obtain ⟨r, er, V', st, rfl, hV, hst, hs⟩ := it_for (F := FV) (f := iX10_holdsLine_L20) (b j - a j) (fun k s => ∃ V' st, s = (V', nI st.length, nI (315 + 3 * j), nI (a j + k)) ∧ (∀ q, q ≠ 83 → V' q = V q) ∧ mR (fa_ A h p t fog m up away) (V 76) (a j) k [] = some st ∧ Sk (V' 83) st) (fun r => ∃ V' st, r = (V', nI st.length) ∧ (∀ q, q ≠ 83 → V' q = V q) ∧ mR (fa_ A h p t fog m up away) (V 76) (a j) (b j - a j) [] = some st ∧ Sk (V' 83) st)
    (by
      rintro k s hk ⟨V', st, rfl, hV, hst, hs⟩
      obtain ⟨st2, hst2⟩ := hall (k + 1) (by omega)
      obtain ⟨V2, x1, x2, x3⟩ := m_step hM hW hh hp hm hF (by omega) l1 l2 e2 hk hV hst hst2 hs
      exact ⟨_, x1, V2, st2, rfl, x2, hst2, x3⟩)
    (by
      rintro s ⟨V', st, rfl, hV, hst, hs⟩
      refine ⟨(V', nI st.length), ?_, V', st, rfl, hV, hst, hs⟩
      unfold iX10_holdsLine_L20 fX10_holdsLine_L20
      simp only [q_add]
      rw [hV 76 (by omega), q_rd (by omega) (by omega), nI_clamp (by omega), show 315 + 3 * j + 2 = 317 + 3 * j by omega, e2, if_pos (nI_le (by omega) (by omega))])
    (by have := FV_ge; omega) (s := (V, 0, nI (315 + 3 * j), nI (a j))) ⟨V, [], rfl, fun _ _ => rfl, rfl, trivial⟩
  rw [er, q_R]
  simp only [dt2_]
  rcases hend with ⟨g1, g2⟩ | g1
  · rw [g1] at hst
    cases hst
    rw [if_pos (show nI ([] : List Int32).length = 0 from rfl), q_zo1, g2]
    exact ⟨V', rfl, hV⟩
  · rw [g1] at hst
    cases hst
    rw [if_neg (show ¬ nI ([bI (tr j (fa_ A h p t fog m up away))] : List Int32).length = 0 from (by decide : ¬ nI 1 = 0)), q_lit, q_rd (by omega) (by omega), nI_clamp (by omega), show V' 83 0 = bI (tr j (fa_ A h p t fog m up away)) from hs.1]
    cases tr j (fa_ A h p t fog m up away)
    · rw [if_neg (by decide), q_zn0]; exact ⟨V', rfl, hV⟩
    · rw [if_pos (show bI true = 1 from rfl), q_zo1]; exact ⟨V', rfl, hV⟩
theorem m_holdsSome (hM : RM (V 76) A) (hW : WA A) {h p t fog m : Nat} {up away : Bool} (hh : h < aS A 0) (hp : p < 24) (hm : m ≤ 3) (hF : MF V A h p t fog m up away) {n : Nat} {ty : Nat → Bool} {tr : Nat → Fa → Bool} (hn : n ≤ 12) (hL : LawW (V 76) n ty tr) (bl : Bool) : ∃ V', fX10_holdsSome V (bI bl) = some (bI (anyB (fun j => (ty j == bl) && tr j (fa_ A h p t fog m up away)) n), V') ∧ ∀ q, q ≠ 83 → V' q = V q := by
  have h314 := hL.1
  obtain ⟨-, a, b, hab⟩ := id hL
  unfold fX10_holdsSome
  obtain ⟨r, er, V', rfl, hV⟩ := it_forE (F := FV) (f := iX10_holdsSome_L2) n (fun k s => ∃ V', s = (V', bI bl, nI k) ∧ (∀ q, q ≠ 83 → V' q = V q) ∧ anyB (fun j => (ty j == bl) && tr j (fa_ A h p t fog m up away)) k = false) (fun r => ∃ V', r = (bI (anyB (fun j => (ty j == bl) && tr j (fa_ A h p t fog m up away)) n), V') ∧ (∀ q, q ≠ 83 → V' q = V q))
    (by
      rintro k s hk ⟨V', rfl, hV, hany⟩
      unfold iX10_holdsSome_L2 fX10_holdsSome_L2
      simp only [q_mulL, q_addL]
      have e76 := hV 76 (by omega)
      rw [e76, show rd_ (314 : Int32) 1988 = rd_ (α := (VT × Int32 × Int32) ⊕ (Int32 × VT)) (nI 314) 1988 from rfl, q_rd (by omega) (by omega), show (314 : Int32).toNatClampNeg = 314 from rfl, h314, if_neg (nI_ge hk (by omega)), q_rd (by omega) (by omega), nI_clamp (by omega), (hab k hk).1]
      have e1 : (if bI bl = 0 then fX10_holdsSome_j35_2 V' (bI bl) (nI k) 0 (bI (ty k)) else fX10_holdsSome_j35_2 V' (bI bl) (nI k) 1 (bI (ty k))) = fX10_holdsSome_j35_2 V' (bI bl) (nI k) (bI bl) (bI (ty k)) := by cases bl <;> rfl
      rw [e1]
      unfold fX10_holdsSome_j35_2
      have hM' : RM (V' 76) A := by rw [e76]; exact hM
      have hF' : MF V' A h p t fog m up away := by unfold MF; rw [hV 22 (by omega)]; exact hF
      have hL' : LawW (V' 76) n ty tr := by rw [e76]; exact hL
      by_cases hty : ty k = bl
      · rw [if_pos (by rw [hty])]
        obtain ⟨V2, x1, x2⟩ := m_holdsLine hM' hW hh hp hm hF' hn hL' hk
        rw [x1, q_I, q_ifb]
        have hV2 : ∀ q, q ≠ 83 → V2 q = V q := fun q hq => (x2 q hq).trans (hV q hq)
        cases ht : tr k (fa_ A h p t fog m up away)
        · left
          rw [if_neg (by decide), q_lt, nI_1]
          refine ⟨_, rfl, V2, rfl, hV2, ?_⟩
          show (anyB _ k || _) = false
          rw [hany]; simp [ht]
        · right
          rw [if_pos rfl, q_zo1]
          refine ⟨_, rfl, V2, ?_, hV2⟩
          rw [anyB_iff.2 ⟨k, hk, by simp [hty, ht]⟩]; rfl
      · left
        rw [if_neg (by rw [bI_inj]; exact hty), q_lt, nI_1]
        refine ⟨_, rfl, V', rfl, hV, ?_⟩
        show (anyB _ k || _) = false
        rw [hany]; simp [hty])
    (by
      rintro s ⟨V', rfl, hV, hany⟩
      unfold iX10_holdsSome_L2 fX10_holdsSome_L2
      simp only []
      rw [hV 76 (by omega), show rd_ (314 : Int32) 1988 = rd_ (α := (VT × Int32 × Int32) ⊕ (Int32 × VT)) (nI 314) 1988 from rfl, q_rd (by omega) (by omega), show (314 : Int32).toNatClampNeg = 314 from rfl, h314, if_pos (nI_le (Nat.le_refl _) (by omega)), q_zo0]
      exact ⟨_, rfl, V', by rw [hany]; rfl, hV⟩)
    (by have := FV_ge; omega) (s := (V, bI bl, 0)) ⟨V, rfl, fun _ _ => rfl, rfl⟩
  rw [er, q_R]
  exact ⟨V', rfl, hV⟩
theorem m_isSeen (hM : RM (V 76) A) (hW : WA A) {h p t fog m : Nat} {up away : Bool} (hh : h < aS A 0) (hp : p < 24) (hm : m ≤ 3) (hF : MF V A h p t fog m up away) {L : Fa → Bool} (hL : LM (V 76) L) : ∃ V', fX10_isSeen V = some (bI (L (fa_ A h p t fog m up away)), V') ∧ ∀ q, q ≠ 83 → V' q = V q := by
  unfold fX10_isSeen
  rw [show rd_ (3 : Int32) 1988 = rd_ (α := Int32 × VT) (nI 3) 1988 from rfl, q_rd (by omega) (by omega), show (3 : Int32).toNatClampNeg = 3 from rfl]
  rcases hL with ⟨h3, rfl⟩ | ⟨n, ty, tr, h3, hn, hL, rfl⟩
  · have hb := hW.2.1 h hh
    have e0 : fX10_of V (nI h) 0 = some (nI (aH A h 0)) := m_of hM hW hh (k := 0) (by omega)
    rw [h3, if_neg (by decide), m_isInWindow hM hW hh hp hm hF, q_R, hF.1, hF.2.1, hF.2.2.2.1, hF.2.2.2.2.2.1, hF.2.2.2.2.2.2, e0, q_R, q_abs (by omega) (by omega), q_ifb, q_ifb, q_ifb]
    have key : l0 (fa_ A h p t fog m up away) = (up && winB A h p m && !away && decide (¬ (12 : Int32) - nI fog < nI (if aH A h 0 ≤ p then p - aH A h 0 else aH A h 0 - p))) := rfl
    rw [key]
    refine ⟨V, ?_, fun _ _ => rfl⟩
    cases up
    · simp [q_zo0, bI]
    · cases winB A h p m
      · simp [q_zo0, bI]
      · cases away
        · by_cases hd : (12 : Int32) - nI fog < nI (if aH A h 0 ≤ p then p - aH A h 0 else aH A h 0 - p)
          · simp only [if_pos hd, q_zo0]; simp [hd, bI]
          · simp only [if_neg hd, q_zo1]; simp [hd, bI]
        · simp [q_zo0, bI]
  · rw [h3, if_pos rfl]
    obtain ⟨V1, x1, x2⟩ := m_holdsSome hM hW hh hp hm hF hn hL false
    have x1 : fX10_holdsSome V 0 = _ := x1
    rw [x1, q_I, q_ifb]
    have hM' : RM (V1 76) A := by rw [x2 76 (by omega)]; exact hM
    have hF' : MF V1 A h p t fog m up away := by unfold MF; rw [x2 22 (by omega)]; exact hF
    have hL' : LawW (V1 76) n ty tr := by rw [x2 76 (by omega)]; exact hL
    obtain ⟨V2, y1, y2⟩ := m_holdsSome hM' hW hh hp hm hF' hn hL' true
    have y1 : fX10_holdsSome V1 1 = _ := y1
    rw [y1, q_I, q_ifb]
    have key : lam n ty tr (fa_ A h p t fog m up away) = (anyB (fun j => (ty j == false) && tr j (fa_ A h p t fog m up away)) n && !anyB (fun j => (ty j == true) && tr j (fa_ A h p t fog m up away)) n) := by
      unfold lam
      congr 2
      · congr 1; funext j; cases ty j <;> rfl
      · congr 1; funext j; cases ty j <;> rfl
    rw [key]
    cases anyB (fun j => (ty j == false) && tr j (fa_ A h p t fog m up away)) n
    · rw [if_neg (by decide), q_zo0]; exact ⟨V1, rfl, x2⟩
    · rw [if_pos rfl]
      cases anyB (fun j => (ty j == true) && tr j (fa_ A h p t fog m up away)) n
      · rw [if_neg (by decide), q_zo1]; exact ⟨V2, rfl, fun q hq => (y2 q hq).trans (x2 q hq)⟩
      · rw [if_pos rfl, q_zo0]; exact ⟨V2, rfl, fun q hq => (y2 q hq).trans (x2 q hq)⟩
theorem q_up0 : ∀ t, t < 24 → ∀ f, f < 24 → ((nI t - nI f) + 24) - ((nI t - nI f) + 24) / 24 * 24 = nI ((t + 24 - f) % 24) := by decide +kernel
theorem m_isUp (hM : RM (V 76) A) (hW : WA A) {h t : Nat} (hh : h < aS A 0) (ht : t < 24) : fX10_isUp V (nI h) (nI t) = some (bI (upB A h t)) := by
  have hb := hW.2.1 h hh
  unfold fX10_isUp
  have e3 : fX10_of V (nI h) 3 = some (nI (aH A h 3)) := m_of hM hW hh (k := 3) (by omega)
  have e4 : fX10_of V (nI h) 4 = some (nI (aH A h 4)) := m_of hM hW hh (k := 4) (by omega)
  rw [e3, q_R, e4, q_R, q_up0 t ht _ (by omega)]
  have hm : (t + 24 - aH A h 3) % 24 < 24 := Nat.mod_lt _ (by omega)
  unfold upB
  by_cases hc : (t + 24 - aH A h 3) % 24 < aH A h 4
  · rw [if_neg (nI_ge hc (by omega)), q_zo1, decide_eq_true hc]; rfl
  · rw [if_pos (nI_le (by omega) (by omega)), q_zo0, decide_eq_false hc]; rfl
theorem m_looks (hM : RM (V 76) A) (hW : WA A) {h p t fog : Nat} (hh : h < aS A 0) (ht : t < 24) : ∃ V', fX10_looks V (nI h) (nI p) (nI t) (nI fog) = some V' ∧ My V V' ∧ MF V' A h p t fog (aH A h 6) (upB A h t) (aw A h) := by
  have hb := hW.2.1 h hh
  unfold fX10_looks
  simp only [q_lt]
  have y4 : My V (va_up (va_up (va_up (va_up V 22 (upd (V 22) 18 (nI h))) 22 (upd (va_up V 22 (upd (V 22) 18 (nI h)) 22) 19 (nI p))) 22 (upd (va_up (va_up V 22 (upd (V 22) 18 (nI h))) 22 (upd (va_up V 22 (upd (V 22) 18 (nI h)) 22) 19 (nI p)) 22) 20 (nI t))) 22 (upd (va_up (va_up (va_up V 22 (upd (V 22) 18 (nI h))) 22 (upd (va_up V 22 (upd (V 22) 18 (nI h)) 22) 19 (nI p))) 22 (upd (va_up (va_up V 22 (upd (V 22) 18 (nI h))) 22 (upd (va_up V 22 (upd (V 22) 18 (nI h)) 22) 19 (nI p)) 22) 20 (nI t)) 22) 21 (nI fog))) := (((My.n (by omega) (by omega)).tr (My.n (by omega) (by omega))).tr (My.n (by omega) (by omega))).tr (My.n (by omega) (by omega))
  generalize hV4 : va_up (va_up (va_up (va_up V 22 (upd (V 22) 18 (nI h))) 22 (upd (va_up V 22 (upd (V 22) 18 (nI h)) 22) 19 (nI p))) 22 (upd (va_up (va_up V 22 (upd (V 22) 18 (nI h))) 22 (upd (va_up V 22 (upd (V 22) 18 (nI h)) 22) 19 (nI p)) 22) 20 (nI t))) 22 (upd (va_up (va_up (va_up V 22 (upd (V 22) 18 (nI h))) 22 (upd (va_up V 22 (upd (V 22) 18 (nI h)) 22) 19 (nI p))) 22 (upd (va_up (va_up V 22 (upd (V 22) 18 (nI h))) 22 (upd (va_up V 22 (upd (V 22) 18 (nI h)) 22) 19 (nI p)) 22) 20 (nI t)) 22) 21 (nI fog)) = V4 at y4 ⊢
  have f4 : V4 22 18 = nI h ∧ V4 22 19 = nI p ∧ V4 22 20 = nI t ∧ V4 22 21 = nI fog := by
    rw [← hV4]
    simp only [va_s]
    refine ⟨?_, ?_, ?_, ?_⟩ <;> simp [upd]
  clear hV4
  have mm : ∀ V', My V V' → RM (V' 76) A := fun V' hy => by rw [hy.1 76 (by omega) (by omega)]; exact hM
  have e6 : fX10_of V4 (nI h) 6 = some (nI (aH A h 6)) := m_of (mm V4 y4) hW hh (k := 6) (by omega)
  rw [e6, q_R]
  have y7 : My V (va_up V4 22 (upd (V4 22) 22 (nI (aH A h 6)))) := y4.tr (My.n (by omega) (by omega))
  generalize hV7 : va_up V4 22 (upd (V4 22) 22 (nI (aH A h 6))) = V7 at y7 ⊢
  rw [m_isUp (mm V7 y7) hW hh ht, q_R, q_zo]
  have y10 : My V (va_up V7 22 (upd (V7 22) 23 (bI (upB A h t)))) := y7.tr (My.n (by omega) (by omega))
  generalize hV10 : va_up V7 22 (upd (V7 22) 23 (bI (upB A h t))) = V10 at y10 ⊢
  have e7 : fX10_of V10 (nI h) 7 = some (nI (aH A h 7)) := m_of (mm V10 y10) hW hh (k := 7) (by omega)
  rw [e7, q_R]
  have ff : ∀ x, x = bI (aw A h) → MF (va_up V10 22 (upd (V10 22) 24 x)) A h p t fog (aH A h 6) (upB A h t) (aw A h) := by
    intro x hx
    subst hx hV10 hV7
    unfold MF
    simp only [va_s]
    refine ⟨?_, ?_, ?_, ?_, ?_, ?_, ?_⟩ <;> simp [upd, f4]
  by_cases h1 : aH A h 7 = 1
  · rw [h1, if_pos (show nI 1 = 1 from rfl), q_zo1]
    exact ⟨_, rfl, y10.tr (My.n (by omega) (by omega)), ff 1 (by simp [aw, h1, bI])⟩
  · have h0 : aH A h 7 = 0 := by omega
    rw [h0, if_neg (by decide), q_zo0]
    exact ⟨_, rfl, y10.tr (My.n (by omega) (by omega)), ff 0 (by simp [aw, h0, bI])⟩
theorem m_doesSee (hM : RM (V 76) A) (hW : WA A) {L : Fa → Bool} (hL : LM (V 76) L) {h p t fog : Nat} (hh : h < aS A 0) (hp : p < 24) (ht : t < 24) : ∃ V', fX10_doesSee V (nI h) (nI p) (nI t) (nI fog) = some (bI (L (fa_ A h p t fog (aH A h 6) (upB A h t) (aw A h))), V') ∧ My V V' ∧ MF V' A h p t fog (aH A h 6) (upB A h t) (aw A h) := by
  have hb := hW.2.1 h hh
  unfold fX10_doesSee
  obtain ⟨V1, x1, x2, x3⟩ := m_looks (p := p) (fog := fog) hM hW hh ht
  rw [x1, q_R]
  have e76 := x2.1 76 (by omega) (by omega)
  obtain ⟨V2, y1, y2⟩ := m_isSeen (by rw [e76]; exact hM) hW hh hp (by omega) x3 (by rw [e76]; exact hL)
  rw [y1, q_I, q_zo]
  refine ⟨V2, rfl, ⟨fun j h1 h2 => (y2 j h2).trans (x2.1 j h1 h2), fun k hk => by rw [y2 22 (by omega)]; exact x2.2 k hk⟩, ?_⟩
  unfold MF
  rw [y2 22 (by omega)]
  exact x3
end ML
