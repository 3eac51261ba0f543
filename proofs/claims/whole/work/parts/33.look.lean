/-! ===== the class's look ===== -/
section CL
variable {V : VT} {i : Nat} {A : AT}
theorem cR_succ {F : Fa} {codes : Nat → Int32} {a k : Nat} {q : Tr} (h : a ≤ k) : cR F codes a (k + 1 - a) q = cw F (codes k) (cR F codes a (k - a) q) := by
  rw [show k + 1 - a = (k - a) + 1 by omega]
  show cw F (codes (a + (k - a))) _ = _
  rw [show a + (k - a) = k by omega]
/-- where the reader of the codes stands: in line j -/
def LPc (V : VT) (F : Fa) (h p t : Nat) (n : Nat) (ty : Nat → Bool) (tr : Nat → Fa → Bool) (c : Nat → Nat) (k : Nat) (s : VT × Int32 × Int32 × Int32 × Int32 × Int32) : Prop :=
  ∃ V' j l, s = (V', nI h, nI p, nI t, bI (anyB (fun j => !ty j && tr j F) j), nI k) ∧ Ly V V' ∧ j ≤ n ∧ c j ≤ k ∧ (j < n → k < c (j + 1)) ∧ (j = n → k = c n) ∧ anyB (fun j => ty j && tr j F) j = false ∧ Lz F V' (cR F (V 69) (c j) (k - c j) (0, 0, l))
theorem c_line (hR : RS V i A) (hi : i < 17) {F : Fa} {h p t n : Nat} {ty : Nat → Bool} {tr : Nat → Fa → Bool} {c : Nat → Nat} (hF : F = fc A h p t) (h0 : c 0 = 0) (hsz : V 17 1 = nI (c n)) (h400 : c n ≤ 400) (hc : ∀ j, j < n → c j < c (j + 1) ∧ (V 69) (c (j + 1) - 1) = (if ty j then 11 else 10) ∧
    (∀ k, c j ≤ k → k < c (j + 1) - 1 → (V 69) k < 10 ∨ ¬ (V 69) k < 12) ∧ ∀ F l, ∃ T l2, cR F (V 69) (c j) (c (j + 1) - 1 - c j) (0, 0, l) = (T, 0, l2) ∧ ((T &&& 1 = 1) ↔ tr j F = true)) (hmono : ∀ a b, a ≤ b → b ≤ n → c a ≤ c b) {k : Nat} {s : VT × Int32 × Int32 × Int32 × Int32 × Int32} (hk : k < c n) (hP : LPc V F h p t n ty tr c k s) :
    (∃ s', iX3_lets_L105 i s = some (.inl s') ∧ LPc V F h p t n ty tr c (k + 1) s') ∨ ∃ r, iX3_lets_L105 i s = some (.inr r) ∧ ∃ V', r = (bI (lam n ty tr F), V') ∧ Ly V V' := by
  obtain ⟨V', j, l, rfl, hy, hj, hcj, hlt, hn, hbl, hz⟩ := hP
  have hjn : j < n := by
    rcases Nat.lt_or_ge j n with h | h
    · exact h
    · have := hn (by omega); omega
  have hkl := hlt hjn
  obtain ⟨c1, c2, c3, c4⟩ := hc j hjn
  have hcn := hmono (j + 1) n (by omega) (by omega)
  have e17 : V' 17 1 = nI (c n) := (hy.2 1 (by omega)).trans hsz
  have e69 : V' 69 = V 69 := hy.1 69 (by omega)
  have hR' := hR.ly hi hy
  unfold iX3_lets_L105 fX3_lets_L105
  simp only []
  rw [e17, if_neg (nI_ge hk (by omega)), if_neg (nI_ge (show k < 400 by omega) (by omega)), q_rd (show k < 400 by omega) (by omega), q_lt, nI_clamp (by omega), e69]
  by_cases hlast : k = c (j + 1) - 1
  · -- a line ends
    have hcode : V 69 k = (if ty j then 11 else 10) := by rw [hlast]; exact c2
    have h12 : V 69 k < 12 := by rw [hcode]; cases ty j <;> decide
    have h10 : (10 : Int32) ≤ V 69 k := by rw [hcode]; cases ty j <;> decide
    rw [if_pos h12, if_pos h10]
    obtain ⟨T, l2, ht1, ht2⟩ := c4 F l
    rw [← hlast] at ht1
    rw [ht1] at hz
    have h7 : V' 17 7 = T := hz.2.2.2.2.1
    have hend : ∀ b : Bool, ((T &&& 1 = 1) ↔ b = true) → (if (V' 17 7 &&& 1) = 1 then fX3_lets_j194_105 V' i (nI h) (nI p) (nI t) (bI (anyB (fun j => !ty j && tr j F) j)) (nI k) (V 69 k) 1 else fX3_lets_j194_105 V' i (nI h) (nI p) (nI t) (bI (anyB (fun j => !ty j && tr j F) j)) (nI k) (V 69 k) 0) = fX3_lets_j194_105 V' i (nI h) (nI p) (nI t) (bI (anyB (fun j => !ty j && tr j F) j)) (nI k) (V 69 k) (bI b) := by
      intro b hb
      rw [h7]
      by_cases hT : T &&& 1 = 1
      · rw [if_pos hT, hb.1 hT]; rfl
      · rw [if_neg hT]
        have : b = false := by cases b; rfl; exact absurd (hb.2 rfl) hT
        rw [this]; rfl
    rw [hend _ ht2]
    unfold fX3_lets_j194_105
    rw [q_lt, q_ifb]
    have hy2 : Ly V (va_up V' 17 (upd (V' 17) 7 0)) := hy.tr (Ly.up (by omega))
    have hz2 := hz.t 0
    -- the line goes on
    have go : ∀ b2 : Bool, b2 = anyB (fun j => !ty j && tr j F) (j + 1) → anyB (fun j => ty j && tr j F) (j + 1) = false → LPc V F h p t n ty tr c (k + 1) (va_up V' 17 (upd (V' 17) 7 0), nI h, nI p, nI t, bI b2, nI (k + 1)) := by
      intro b2 hb2 hbl2
      refine ⟨_, j + 1, l2, by rw [hb2], hy2, by omega, by omega, fun h => by have := (hc (j + 1) h).1; omega, fun h => by rw [← h]; omega, hbl2, ?_⟩
      rw [show k + 1 - c (j + 1) = 0 by omega]
      exact hz2
    cases htr : tr j F
    · -- it doesn't hold
      rw [if_neg (by decide)]
      left
      have e1 : anyB (fun j => !ty j && tr j F) (j + 1) = anyB (fun j => !ty j && tr j F) j := by
        show (anyB (fun j => !ty j && tr j F) j || (!ty j && tr j F)) = _
        rw [htr]; simp
      have e2 : anyB (fun j => ty j && tr j F) (j + 1) = false := by unfold anyB; rw [hbl, htr]; simp
      unfold fX3_lets_j215_105
      rw [q_ifb]
      cases ha : anyB (fun j => !ty j && tr j F) j
      · rw [if_neg (by decide), if_pos (show bI false = 0 from rfl)]
        exact ⟨_, rfl, by rw [nI_1]; exact go false (by rw [e1, ha]) e2⟩
      · rw [if_pos rfl]
        exact ⟨_, rfl, by rw [nI_1]; exact go true (by rw [e1, ha]) e2⟩
    · rw [if_pos rfl]
      cases hty : ty j
      · -- a line that sees, and holds
        have e0 : ¬ V 69 k = 11 := by rw [hcode, hty]; decide
        rw [if_neg e0]
        left
        have e1 : anyB (fun j => !ty j && tr j F) (j + 1) = true := by unfold anyB; simp [hty, htr]
        have e2 : anyB (fun j => ty j && tr j F) (j + 1) = false := by unfold anyB; rw [hbl, hty]; simp
        unfold fX3_lets_j215_105
        rw [q_ifb]
        cases ha : anyB (fun j => !ty j && tr j F) j
        · rw [if_neg (by decide), if_neg (show ¬ bI true = 0 by decide)]
          exact ⟨_, rfl, by rw [nI_1]; exact go true e1.symm e2⟩
        · rw [if_pos rfl]
          exact ⟨_, rfl, by rw [nI_1]; exact go true e1.symm e2⟩
      · have e0 : V 69 k = 11 := by rw [hcode, hty]; rfl
        rw [if_pos e0, q_zo0]
        right
        refine ⟨_, rfl, _, ?_, hy2⟩
        have e1 : lam n ty tr F = false := by
          unfold lam
          have : anyB (fun j => ty j && tr j F) n = true := anyB_iff.2 ⟨j, hjn, by simp [hty, htr]⟩
          rw [this]; simp
        rw [e1]; rfl
  · left
    have hstep := cR_succ (F := F) (codes := V 69) (q := ((0 : Int32), (0 : Int32), l)) hcj
    have mk : ∀ V2, Ly V' V2 → Lz F V2 (cw F (V 69 k) (cR F (V 69) (c j) (k - c j) (0, 0, l))) → LPc V F h p t n ty tr c (k + 1) (V2, nI h, nI p, nI t, bI (anyB (fun j => !ty j && tr j F) j), nI (k + 1)) := by
      intro V2 hy2 hz2
      exact ⟨V2, j, l, rfl, hy.tr hy2, by omega, by omega, fun _ => by omega, fun h => by omega, hbl, by rw [hstep]; exact hz2⟩
    rcases c3 k hcj (by omega) with hc10 | hc12
    · have h12 : V 69 k < 12 := by
        rw [fa_lt] at hc10 ⊢
        have : (10 : Int32).toInt = 10 := by decide
        have : (12 : Int32).toInt = 12 := by decide
        omega
      have h10 : ¬ (10 : Int32) ≤ V 69 k := by
        rw [fa_lt] at hc10
        rw [fa_le]
        omega
      rw [if_pos h12, if_neg h10]
      obtain ⟨V2, e, hy2, hz2⟩ := c_weigh hz hc10
      rw [e, q_R, q_lt, nI_1]
      exact ⟨_, rfl, mk V2 hy2 hz2⟩
    · rw [if_neg hc12, c_value hR' hz hF, q_R, q_lt, q_lt, nI_1]
      refine ⟨_, rfl, mk _ (Ly.up (by omega)) ?_⟩
      have e8 : V' 17 8 = (cR F (V 69) (c j) (k - c j) (0, 0, l)).2.1 := hz.2.2.2.2.2.1
      unfold cw
      rw [if_neg hc12, e8]
      exact hz.s _
theorem c_lets (hR : RS V i A) (hW : WA A) (hi : i < 17) {L : Fa → Bool} (hL : LD (V 17 2) (V 17 1) (V 69) L) {h p t : Nat} (hh : h < aS A 0) (hp : p < 24) (ht : t < 24) : ∃ V', fX3_lets V i (nI h) (nI p) (nI t) = some (bI (L (fc A h p t)), V') ∧ Ly V V' := by
  unfold fX3_lets
  rw [c_isUp hR hW hh ht, q_R, q_zo, q_lt]
  have y3 : Ly V (va_up V 17 (upd (V 17) 3 (bI (upB A h t)))) := Ly.up (by omega)
  rw [c_isAway (hR.ly hi y3) hW hh, q_R, q_zo, q_lt]
  generalize hV3 : va_up V 17 (upd (V 17) 3 (bI (upB A h t))) = V3 at y3 ⊢
  have y6 : Ly V (va_up V3 17 (upd (V3 17) 4 (bI (aw A h)))) := y3.tr (Ly.up (by omega))
  rw [c_inWindow (hR.ly hi y6) hW hh hp, q_R, q_zo, q_lt]
  generalize hV6 : va_up V3 17 (upd (V3 17) 4 (bI (aw A h))) = V6 at y6 ⊢
  have y9 : Ly V (va_up V6 17 (upd (V6 17) 5 (bI (winB A h p (aH A h 6))))) := y6.tr (Ly.up (by omega))
  rw [c_apart (hR.ly hi y9) hW hh hp, q_R, q_lt]
  generalize hV9 : va_up V6 17 (upd (V6 17) 5 (bI (winB A h p (aH A h 6)))) = V9 at y9 ⊢
  have y12 : Ly V (va_up V9 17 (upd (V9 17) 6 (nI (apN A h p)))) := y9.tr (Ly.up (by omega))
  have g3 : va_up V9 17 (upd (V9 17) 6 (nI (apN A h p))) 17 3 = bI (upB A h t) := by
    rw [va_s, pk_un (by omega), ← hV9, va_s, pk_un (by omega), ← hV6, va_s, pk_un (by omega), ← hV3, va_s, pk_us]
  have g4 : va_up V9 17 (upd (V9 17) 6 (nI (apN A h p))) 17 4 = bI (aw A h) := by
    rw [va_s, pk_un (by omega), ← hV9, va_s, pk_un (by omega), ← hV6, va_s, pk_us]
  have g5 : va_up V9 17 (upd (V9 17) 6 (nI (apN A h p))) 17 5 = bI (winB A h p (aH A h 6)) := by
    rw [va_s, pk_un (by omega), ← hV9, va_s, pk_us]
  have g6 : va_up V9 17 (upd (V9 17) 6 (nI (apN A h p))) 17 6 = nI (apN A h p) := by rw [va_s, pk_us]
  generalize va_up V9 17 (upd (V9 17) 6 (nI (apN A h p))) = V12 at y12 g3 g4 g5 g6 ⊢
  have g2 : V12 17 2 = V 17 2 := y12.2 2 (by omega)
  have g8 : V12 i 8 = nI (aS A 5) := by rw [y12.1 i (by omega)]; exact hR.1.2.2.2.2.2.1
  rcases hL with ⟨hl, rfl⟩ | ⟨n, ty, tr, hl, hn, ⟨c, hc0, hsz, h400, hc⟩, rfl⟩
  · rw [if_pos (g2.trans hl), g3, g4, g5, g6, g8, q_ifb, q_ifb, q_ifb]
    have key : l0 (fc A h p t) = (upB A h t && winB A h p (aH A h 6) && !aw A h && decide (¬ (12 : Int32) - nI (aS A 5) < nI (apN A h p))) := rfl
    rw [key]
    cases upB A h t
    · exact ⟨V12, by simp [q_zo0, bI], y12⟩
    · cases winB A h p (aH A h 6)
      · exact ⟨V12, by simp [q_zo0, bI], y12⟩
      · cases aw A h
        · by_cases hd : (12 : Int32) - nI (aS A 5) < nI (apN A h p)
          · exact ⟨V12, by simp [q_zo0, bI, hd], y12⟩
          · exact ⟨V12, by simp [q_zo1, bI, hd], y12⟩
        · exact ⟨V12, by simp [q_zo0, bI], y12⟩
  · rw [if_neg (by rw [g2, hl]; exact q_m1 (by omega)), q_lt, q_lt]
    have y14 : Ly V12 (va_up (va_up V12 17 (upd (V12 17) 7 0)) 17 (upd ((va_up V12 17 (upd (V12 17) 7 0)) 17) 8 0)) := (Ly.up (by omega)).tr (Ly.up (by omega))
    have z14 : Lz (fc A h p t) (va_up (va_up V12 17 (upd (V12 17) 7 0)) 17 (upd ((va_up V12 17 (upd (V12 17) 7 0)) 17) 8 0)) (0, 0, V12 17 9) := by
      have z12 : Lz (fc A h p t) V12 (V12 17 7, V12 17 8, V12 17 9) := ⟨g3, g4, g5, g6, rfl, rfl, rfl⟩
      exact (z12.t 0).s 0
    generalize va_up (va_up V12 17 (upd (V12 17) 7 0)) 17 (upd ((va_up V12 17 (upd (V12 17) 7 0)) 17) 8 0) = V14 at y14 z14 ⊢
    have hmono : ∀ a b, a ≤ b → b ≤ n → c a ≤ c b := by
      intro a b hab
      induction b with
      | zero => intro _; rw [show a = 0 by omega]; omega
      | succ b ih =>
        intro hb
        by_cases e : a = b + 1
        · rw [e]; omega
        · have := ih (by omega) (by omega)
          have := (hc b (by omega)).1
          omega
    have hF0 : FV > 400 := by have := FV_ge; omega
    obtain ⟨r, e, V', rfl, hy⟩ := it_forE (F := FV) (f := iX3_lets_L105 i) (c n) (LPc V (fc A h p t) h p t n ty tr c) (fun r => ∃ V', r = (bI (lam n ty tr (fc A h p t)), V') ∧ Ly V V') (fun k s hk hP => c_line hR hi rfl hc0 hsz h400 hc hmono hk hP) (by
      intro s hP
      obtain ⟨V', j, l, rfl, hy, hj, hcj, hlt, hn, hbl, hz⟩ := hP
      have hjn : j = n := by
        rcases Nat.lt_or_ge j n with h | h
        · have := hlt h; have := hmono (j + 1) n (by omega) (by omega); omega
        · omega
      subst hjn
      unfold iX3_lets_L105 fX3_lets_L105
      simp only []
      rw [show V' 17 1 = nI (c j) from (hy.2 1 (by omega)).trans hsz, if_pos (nI_le (by omega) (by omega)), q_zo]
      refine ⟨_, rfl, V', ?_, hy⟩
      unfold lam
      rw [hbl]; simp) (by omega) (s := (V14, nI h, nI p, nI t, 0, 0)) ⟨V14, 0, V12 17 9, rfl, y12.tr y14, by omega, by omega, fun h => by have := (hc 0 h).1; omega, fun h => by rw [← h, hc0], rfl, by rw [hc0]; exact z14⟩
    rw [e, q_R]
    exact ⟨V', rfl, hy⟩
end CL
