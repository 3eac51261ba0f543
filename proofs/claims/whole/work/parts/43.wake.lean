/-! ===== loops that change what they read ===== -/
theorem lk {σ ρ α : Type} {f : σ → Option (σ ⊕ ρ)} (S : Nat → α) (mk : VT → α → Nat → σ) (out : VT → α → ρ) (R : Nat → VT → Prop) {V : VT} (n : Nat) (hn : n < 5000) (h0 : R 0 V) (hs : ∀ k V', k < n → R k V' → ∃ V2, f (mk V' (S k) k) = some (.inl (mk V2 (S (k + 1)) (k + 1))) ∧ R (k + 1) V2) (he : ∀ V', R n V' → f (mk V' (S n) n) = some (.inr (out V' (S n)))) : ∃ V', it_ f FV (mk V (S 0) 0) = some (out V' (S n)) ∧ R n V' := by
  obtain ⟨r, e, V', rfl, hR⟩ := it_for (F := FV) (f := f) n (fun k s => ∃ V', s = mk V' (S k) k ∧ R k V') (fun r => ∃ V', r = out V' (S n) ∧ R n V')
    (by
      rintro k s hk ⟨V', rfl, hR⟩
      obtain ⟨V2, h1, h2⟩ := hs k V' hk hR
      exact ⟨_, h1, V2, rfl, h2⟩)
    (by
      rintro s ⟨V', rfl, hR⟩
      exact ⟨_, he V' hR, V', rfl, hR⟩) (by have := FV_ge; omega) (s := mk V (S 0) 0) ⟨V, rfl, h0⟩
  exact ⟨V', e, hR⟩
/-! ===== wake ===== -/
/-- all at home, and the first k up all day -/
def wk (A : AT) (k : Nat) : AT := (A.1, fun h q => if q = 7 then 0 else if q = 4 ∧ h < k then 24 else A.2.1 h q, A.2.2)
def wakeN (L : Fa → Bool) (A : AT) (p t : Nat) : Nat := bs (fun h => L (fa_ A h p t (aS A 5) (aH A h 6) true false) && !L (fc A h p t)) (aS A 0)
theorem wk7 {A : AT} {k h : Nat} : aH (wk A k) h 7 = 0 := rfl
theorem WA.wk {A : AT} (hW : WA A) (k : Nat) : WA (wk A k) := by
  obtain ⟨a, b, c, d⟩ := hW
  refine ⟨a, fun h hh => ?_, c, d⟩
  obtain ⟨b0, b1, b2, b3, b4, b5, b6, b7⟩ := b h hh
  refine ⟨b0, b1, b2, b3, ?_, b5, b6, by rw [wk7]; omega⟩
  show (if (4 : Nat) = 7 then 0 else if (4 : Nat) = 4 ∧ h < k then 24 else A.2.1 h 4) ≤ 24
  rw [if_neg (by omega)]
  split
  · omega
  · exact b4
section OP
variable {V : VT} {i : Nat} {A : AT} {L : Fa → Bool}
theorem RS.away0 (hR : RS V i A) (hi : i < 17) : RS (va_up V i (upd (V i) 6 0)) i (wk A 0) := by
  have e : ∀ k, k ≠ 6 → va_up V i (upd (V i) 6 0) i k = V i k := fun k hk => by rw [va_s, pk_un hk]
  refine ⟨⟨(e 3 (by omega)).trans hR.1.1, (e 4 (by omega)).trans hR.1.2.1, (e 5 (by omega)).trans hR.1.2.2.1, ?_, (e 7 (by omega)).trans hR.1.2.2.2.2.1, (e 8 (by omega)).trans hR.1.2.2.2.2.2.1, (e 9 (by omega)).trans hR.1.2.2.2.2.2.2.1, (e 10 (by omega)).trans hR.1.2.2.2.2.2.2.2.1, (e 11 (by omega)).trans hR.1.2.2.2.2.2.2.2.2.1, (e 12 (by omega)).trans hR.1.2.2.2.2.2.2.2.2.2⟩, ?_, ?_, ?_, ?_⟩
  · rw [va_s, pk_us]
    have : bs (aw (wk A 0)) (aS (wk A 0) 0) = 0 := (bs_0 _ _).2 (fun k _ => by
      unfold aw
      rw [wk7]; rfl)
    rw [this]; rfl
  · intro h k hh hk
    rw [va_n (by omega)]
    have : aH (wk A 0) h k = aH A h k := by
      show (if k = 7 then 0 else if k = 4 ∧ h < 0 then 24 else A.2.1 h k) = _
      rw [if_neg (by omega), if_neg (by omega)]; rfl
    rw [this]
    exact hR.2.1 h k hh hk
  · intro d k hd hk hk2; rw [va_n (by omega)]; exact hR.2.2.1 d k hd hk hk2
  · intro d hd; rw [va_n (by omega)]; exact hR.2.2.2.1 d hd
  · intro k hk; rw [va_n (by omega)]; exact hR.2.2.2.2 k hk
theorem wk_s (A : AT) (k : Nat) : pH (wk A k) k 4 24 = wk A (k + 1) := by
  unfold pH wk
  congr 2
  funext h q
  unfold up2
  by_cases h1 : h = k ∧ q = 4
  · obtain ⟨rfl, rfl⟩ := h1
    simp
  · rw [if_neg h1]
    by_cases h7 : q = 7
    · simp [h7]
    · simp only [if_neg h7]
      by_cases h4 : q = 4 ∧ h < k
      · rw [if_pos h4, if_pos ⟨h4.1, by omega⟩]
      · rw [if_neg h4, if_neg (fun e => h4 ⟨e.1, by have : h ≠ k := fun e2 => h1 ⟨e2, e.1⟩; omega⟩)]
theorem fc_wk {h p t : Nat} (hW : WA A) (hh : h < aS A 0) : fc (wk A (aS A 0)) h p t = fa_ A h p t (aS A 5) (aH A h 6) true false := by
  have e4 : aH (wk A (aS A 0)) h 4 = 24 := by
    show (if (4 : Nat) = 7 then 0 else if (4 : Nat) = 4 ∧ h < aS A 0 then 24 else A.2.1 h 4) = 24
    rw [if_neg (by omega), if_pos ⟨rfl, hh⟩]
  have e1 : upB (wk A (aS A 0)) h t = true := by
    unfold upB
    rw [e4]
    exact decide_eq_true (Nat.mod_lt _ (by omega))
  have e2 : aw (wk A (aS A 0)) h = false := by
    unfold aw
    rw [wk7]; rfl
  unfold fc
  rw [e1, e2]
  rfl
theorem c_wake (hC : CT V 2 A L) {p t : Nat} (hp : p < 24) (ht : t < 24) : ∃ V', (ob_R (fX6_copyFrom V 3 2) fun V6 => lt_ (va_up V6 3 (upd (V6 3) 6 (0 : Int32))) fun V7 => ob_R (it_ (iX9_wake_L29) FV (V7, nI p, nI t, (0 : Int32))) fun x13 => (dt3_ x13 fun V16 y14 y15 => ob_I (fX5_witnessBits V16 3 y14 y15) fun y18 V19 => ob_I (fX5_witnessBits V19 2 y14 y15) fun y21 V22 => some ((.inr (y18 &&& (y21 ^^^ (-1))) : String ⊕ Int32), V22))) = some (.inr (nI (wakeN L A p t)), V') ∧ Cs V V' := by
  have h8 := hC.2.1.1.1
  obtain ⟨V6, e6, hC3, hC2, hs6⟩ := c_spare hC
  rw [e6, q_R, q_lt]
  have hs7 : Cs V6 (va_up V6 3 (upd (V6 3) 6 0)) := ⟨fun j _ a _ _ _ _ _ _ _ _ _ => va_n a, by rw [va_n (by omega)], fun k _ => by rw [va_n (by omega)]⟩
  have hR7 := hC3.1.away0 (by omega)
  generalize va_up V6 3 (upd (V6 3) 6 0) = V7 at hs7 hR7 ⊢
  have hs := hs6.tr hs7
  obtain ⟨V16, e, hR16, hs16⟩ := lk (V := V7) (f := iX9_wake_L29) (fun _ => ()) (fun V' _ k => (V', nI p, nI t, nI k)) (fun V' _ => (V', nI p, nI t)) (fun k V' => RS V' 3 (wk A k) ∧ Cs V V') (aS A 0) (by omega) ⟨hR7, hs⟩
    (by
      rintro k V' hk ⟨hR, hy⟩
      unfold iX9_wake_L29 fX9_wake_L29
      simp only []
      rw [hR.1.1, if_neg (nI_ge (b := aS (wk A k) 0) hk (by show aS A 0 < 2 ^ 31; omega))]
      obtain ⟨V2, e, hR2, hq⟩ := c_setHouse (v := 24) hR (hC.2.1.wk k) (by omega) (h := k) hk (k := 4) (by omega)
      have e : fX6_setHouse V' 3 (nI k) 4 24 = some V2 := e
      rw [e, q_R, q_lt, nI_1]
      rw [wk_s] at hR2
      exact ⟨V2, rfl, hR2, hy.tr ⟨fun j _ _ _ _ a _ _ _ _ _ _ => hq j a, by rw [hq 1 (by omega)], fun k _ => by rw [hq 17 (by omega)]⟩⟩)
    (by
      rintro V' ⟨hR, hy⟩
      unfold iX9_wake_L29 fX9_wake_L29
      simp only []
      rw [hR.1.1, if_pos (nI_le (a := aS (wk A (aS A 0)) 0) (b := aS A 0) (Nat.le_refl _) (by omega))])
  have e : it_ iX9_wake_L29 FV (V7, nI p, nI t, 0) = _ := e
  rw [e, q_R]
  simp only [dt3_]
  have hL16 : LD (V16 17 2) (V16 17 1) (V16 69) L := by
    rw [hs16.2.2 2 (by omega), hs16.2.2 1 (by omega), hs16.e (j := 69) (by omega)]; exact hC.2.2.1
  have hC16 : CT V16 3 (wk A (aS A 0)) L := ⟨hR16, hC.2.1.wk _, hL16, by omega⟩
  obtain ⟨V19, e19, hy19⟩ := c_witness hC16 hp ht
  rw [e19, q_I]
  have hs19 := hs16.tr hy19.c
  have hC19 : CT V19 2 A L := ⟨hC.1.w (hs19.e (by omega)) (hs19.e (by omega)) (hs19.e (by omega)) (hs19.e (by omega)), hC.2.1, by rw [hs19.2.2 2 (by omega), hs19.2.2 1 (by omega), hs19.e (j := 69) (by omega)]; exact hC.2.2.1, by omega⟩
  obtain ⟨V22, e22, hy22⟩ := c_witness hC19 hp ht
  rw [e22, q_I, an_not]
  refine ⟨V22, ?_, hs19.tr hy22.c⟩
  congr 4
  unfold seer
  rw [show aS (wk A (aS A 0)) 0 = aS A 0 from rfl, bs_not _ _ (by omega)]
  exact bs_cong (fun h hh => by rw [fc_wk hC.2.1 hh])
theorem m_wake (hC : MT V A L) {p t : Nat} (hp : p < 24) (ht : t < 24) : ∃ V', it_ iX10_wake_L39 FV (V, nI p, nI t, 0, 0) = some (nI (wakeN L A p t), V') ∧ My V V' := by
  have h8 := hC.2.1.1.1
  obtain ⟨V', e, hR⟩ := lp (f := iX10_wake_L39) (fun k => bs (fun h => L (fa_ A h p t (aS A 5) (aH A h 6) true false) && !L (fc A h p t)) k) (fun V' a k => (V', nI p, nI t, nI a, nI k)) (fun V' a => (nI a, V')) (fun V' => My V V') (aS A 0) (by omega) My.rf
    (by
      intro k V' hk hR
      have hC' := hC.y hR
      obtain ⟨V2, e, hy, hF⟩ := hC'.see (fog := aS A 5) hk hp ht
      have e : fX10_doesSee V' (nI k) (nI p) (nI t) (nI (aS A 5)) = some (bI (L (fc A k p t)), V2) := e
      unfold iX10_wake_L39 fX10_wake_L39
      simp only []
      rw [m_houses hC'.1, q_R, if_neg (nI_ge hk (by omega)), q_rdl (by omega) (by omega), q_cl (by omega), hC'.1.1 5 (by omega), e, q_I, q_ifb]
      cases hl : L (fc A k p t)
      · rw [if_neg (by decide), q_zo1, q_lt, q_zo0, q_lt]
        have hyn : My V2 (va_up (va_up V2 22 (upd (V2 22) 23 1)) 22 (upd (va_up V2 22 (upd (V2 22) 23 1) 22) 24 0)) := (My.n (by omega) (by omega)).tr (My.n (by omega) (by omega))
        have hFn : MF (va_up (va_up V2 22 (upd (V2 22) 23 1)) 22 (upd (va_up V2 22 (upd (V2 22) 23 1) 22) 24 0)) A k p t (aS A 5) (aH A k 6) true false := by
          unfold MF at hF ⊢
          simp only [va_s]
          refine ⟨?_, ?_, ?_, ?_, ?_, ?_, ?_⟩ <;> simp [upd, hF, bI]
        generalize va_up (va_up V2 22 (upd (V2 22) 23 1)) 22 (upd (va_up V2 22 (upd (V2 22) 23 1) 22) 24 0) = V3 at hyn hFn ⊢
        have hC3 := (hC'.y hy).y hyn
        obtain ⟨V4, e4, hq4⟩ := m_isSeen hC3.1 hC3.2.1 hk hp (by have := (hC.2.1.2.1 k hk).2.2.2.2.2.2.1; omega) hFn hC3.2.2
        rw [e4, q_I, q_ifb]
        have hy4 : My V3 V4 := ⟨fun j _ a => hq4 j a, fun k _ => by rw [hq4 22 (by omega)]⟩
        refine ⟨V4, ?_, ((hR.tr hy).tr hyn).tr hy4⟩
        cases hl2 : L (fa_ A k p t (aS A 5) (aH A k 6) true false)
        · rw [if_neg (by decide), q_lt, q_lt, nI_1, bs_sf (f := fun h => L (fa_ A h p t (aS A 5) (aH A h 6) true false) && !L (fc A h p t)) (by simp [hl2]), q_lit, q_or, Nat.or_zero]
        · rw [if_pos rfl, q_lt, q_lt, nI_1, q_shl (by omega), bs_st (f := fun h => L (fa_ A h p t (aS A 5) (aH A h 6) true false) && !L (fc A h p t)) (by simp [hl, hl2])]
      · rw [if_pos rfl, q_lt, nI_1]
        exact ⟨V2, by rw [bs_sf (f := fun h => L (fa_ A h p t (aS A 5) (aH A h 6) true false) && !L (fc A h p t)) (by simp [hl])], hR.tr hy⟩)
    (by
      intro V' hR
      unfold iX10_wake_L39 fX10_wake_L39
      simp only []
      rw [m_houses (hC.y hR).1, q_R, if_pos (nI_le (Nat.le_refl _) (by omega))])
  exact ⟨V', e, hR⟩
theorem op_wake {cd : String → Int32} (hI : INV V) (h1 : cd IOOB = 1) (x1 x2 : Int32) : OpE (fun V => fX9_wake V x1 x2) (fun V => fX10_wake V x1 x2) cd V := by
  refine op_ph (f9 := fX9_wake) (f10 := fX10_wake) (k9 := fun V x1 x2 => (ob_R (fX6_copyFrom V 3 2) fun V6 => lt_ (va_up V6 3 (upd (V6 3) 6 (0 : Int32))) fun V7 => ob_R (it_ (iX9_wake_L29) FV (V7, x1, x2, (0 : Int32))) fun x13 => (dt3_ x13 fun V16 y14 y15 => ob_I (fX5_witnessBits V16 3 y14 y15) fun y18 V19 => ob_I (fX5_witnessBits V19 2 y14 y15) fun y21 V22 => some (.inr (y18 &&& (y21 ^^^ (-1))), V22)))) (k10 := fun V x1 x2 => ob_R (it_ (iX10_wake_L39) FV (V, x1, x2, (0 : Int32), (0 : Int32))) fun x20 => some x20) (fun _ _ _ => rfl) (fun _ _ _ => rfl) hI h1 x1 x2 ?_
  intro g p t hp ht hC
  obtain ⟨V1, e, hy⟩ := c_wake hC.t hp ht
  refine ⟨_, ⟨V1, e, hy⟩, ?_⟩
  intro V1 _ hT
  obtain ⟨V2, e2, hy2⟩ := m_wake hT hp ht
  refine ⟨V2, ?_, hy2.q⟩
  show ob_R (it_ (iX10_wake_L39) FV (t0 V1, nI p, nI t, (0 : Int32), (0 : Int32))) _ = _
  rw [e2, q_R]
end OP
