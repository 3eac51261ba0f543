section OP
variable {V : VT} {i : Nat} {A : AT} {L : Fa → Bool}
def sgT (L : Fa → Bool) (A : AT) (t p : Nat) : Nat := pc8 (seer L A p t)
theorem sgT_le {t p : Nat} : sgT L A t p ≤ 8 := pc8_le _
def bfC (s w : Nat → Nat) (k : Nat) : Nat := if k = 0 then 1000000 else cuP s w (k - 1)
def bfD (s u : Nat → Nat) (k : Nat) : Nat := if k = 0 then 1000000 else cdP s u (k - 1)
theorem cu_s {s w : Nat → Nat} {k : Nat} : cuP s w k = min (bfC s w k) (w k) + s k := by
  unfold bfC
  cases k with
  | zero => rw [if_pos rfl, Nat.min_comm]; rfl
  | succ k => rw [if_neg (by omega), Nat.min_comm]; rfl
theorem cd_s {s u : Nat → Nat} {k : Nat} (hk : k < 24) : cdP s u k = min (bfD s u k + s (23 - k)) (u (23 - k)) := by
  unfold bfD
  cases k with
  | zero => rw [if_pos rfl, Nat.min_comm]; rfl
  | succ k => rw [if_neg (by omega), Nat.min_comm, show 23 - (k + 1) = 22 - k by omega]; rfl
theorem c_goAlong (hC : CT V i A L) {t : Nat} (ht : t < 24) {w : Nat → Nat} (hw : ∀ p, p < 24 → V 73 p = nI (w p)) (hl : ∀ p, p < 24 → w p ≤ 1000000) : ∃ V', fX5_goAlong V i (nI t) = some V' ∧ Cq V V' ∧ ∀ p, p < 24 → V' 73 p = nI (gaC (sgT L A t) w p) := by
  have hs : ∀ p, sgT L A t p ≤ 8 := fun p => sgT_le
  unfold fX5_goAlong
  obtain ⟨V1, e1, g1, g2, g3⟩ := lk (V := V) (f := iX5_goAlong_L7 i) (fun k => bfC (sgT L A t) w k) (fun V' a k => (V', nI t, nI a, nI k)) (fun V' a => V') (fun k V' => Cq V V' ∧ (∀ p, p < k → V' 74 p = nI (sgT L A t p) ∧ V' 73 p = nI (cuP (sgT L A t) w p)) ∧ ∀ p, k ≤ p → p < 24 → V' 73 p = nI (w p)) 24 (by omega) ⟨Cq.rf, fun p hp => absurd hp (Nat.not_lt_zero _), fun p _ hp => hw p hp⟩
    (by
      rintro k V' hk ⟨g1, g2, g3⟩
      have hC' := hC.q g1
      obtain ⟨V2, e2, hy2⟩ := c_witness hC' hk ht
      have e73 : V2 73 = V' 73 := hy2.1 73 (by omega)
      have hb : bfC (sgT L A t) w k ≤ 1000008 := by
        unfold bfC
        split
        · omega
        · exact cuP_le hs hl (k - 1) (by omega)
      have hlk := hl k hk
      unfold iX5_goAlong_L7 fX5_goAlong_L7
      simp only []
      rw [if_neg (nI_ge hk (by omega)), if_neg (nI_ge hk (by omega)), e2, q_I, bc_e, q_R, bc_8 (seer_lt hC.2.1), q_rd hk (by omega), nI_clamp (by omega), q_lt, q_rd hk (by omega), q_rd hk (by omega), q_rd hk (by omega), va_s, pk_us, va_n (show (73 : Nat) ≠ 74 by omega), e73, g3 k (Nat.le_refl _) hk, q_mi (by omega) (by omega), nI_add, q_lt, q_rd hk (by omega), va_s, pk_us, q_lt, nI_1, q_lt]
      have ec : min (bfC (sgT L A t) w k) (w k) + pc8 (seer L A k t) = cuP (sgT L A t) w k := cu_s.symm
      rw [ec]
      refine ⟨_, rfl, ((g1.tr hy2.q).tr (Cq.up (by omega))).tr (Cq.up (by omega)), fun p hp => ?_, fun p hp hp2 => ?_⟩
      · rw [va_n (show (74 : Nat) ≠ 73 by omega), va_s, va_s]
        by_cases e : p = k
        · rw [e, pk_us, pk_us]; exact ⟨rfl, rfl⟩
        · rw [pk_un e, pk_un e, hy2.1 74 (by omega)]
          exact g2 p (by omega)
      · rw [va_s, pk_un (by omega)]
        exact g3 p (by omega) hp2)
    (by
      rintro V' -
      unfold iX5_goAlong_L7 fX5_goAlong_L7
      simp only []
      rw [if_pos (nI_le (Nat.le_refl _) (by omega))])
  have e1 : it_ (iX5_goAlong_L7 i) FV (V, nI t, 1000000, 0) = _ := e1
  rw [e1, q_R, q_lt]
  unfold fX5_goAlong_j87
  rw [show ((if nI 24 < nI 24 then nI 24 else nI 24) - 1 : Int32) = nI (24 - 0) - 1 by rw [q_mn], q_lt]
  obtain ⟨V2, e2, f1, f2, f3, f4⟩ := lk (V := V1) (f := iX5_goAlong_L108 i) (fun k => bfD (sgT L A t) (cuP (sgT L A t) w) k) (fun V' a k => (V', nI a, nI (24 - k) - 1)) (fun V' a => V') (fun k V' => Cq V V' ∧ (∀ p, 24 - k ≤ p → p < 24 → V' 73 p = nI (gaC (sgT L A t) w p)) ∧ (∀ p, p < 24 - k → V' 73 p = nI (cuP (sgT L A t) w p)) ∧ ∀ p, p < 24 → V' 74 p = nI (sgT L A t p)) 24 (by omega) ⟨g1, fun p h1 h2 => by omega, fun p hp => (g2 p (by omega)).2, fun p hp => (g2 p hp).1⟩
    (by
      rintro k V' hk ⟨f1, f2, f3, f4⟩
      have hcu := cuP_le hs hl
      have hb : bfD (sgT L A t) (cuP (sgT L A t) w) k ≤ 1000008 := by
        unfold bfD
        split
        · omega
        · exact cdP_le hs hcu (k - 1) (by omega)
      have hc1 := hcu (23 - k) (by omega)
      have hs1 := hs (23 - k)
      have em : nI (23 - k) + (-1) = nI (24 - (k + 1)) - 1 := by
        rw [show 24 - (k + 1) = 23 - k by omega]
        exact (Int32.sub_eq_add_neg _ _).symm
      unfold iX5_goAlong_L108 fX5_goAlong_L108
      simp only []
      rw [show nI (24 - k) - 1 = nI (23 - k) by rw [show nI (24 - k) - 1 = nI (24 - k - 1) from pk_sub (b := 1) (by omega), show 24 - k - 1 = 23 - k by omega], if_neg (nI_pos (by omega)), q_rd (show 23 - k < 24 by omega) (by omega), q_rd (show 23 - k < 24 by omega) (by omega), q_rd (show 23 - k < 24 by omega) (by omega), nI_clamp (by omega), f3 (23 - k) (by omega), f4 (23 - k) (by omega), nI_add, q_mi (by omega) (by omega), ← cd_s hk, q_lt, q_rd (show 23 - k < 24 by omega) (by omega), va_s, pk_us, q_lt, em, q_lt]
      refine ⟨_, rfl, f1.tr (Cq.up (by omega)), fun p h1 h2 => ?_, fun p hp => ?_, fun p hp => by rw [va_n (by omega)]; exact f4 p hp⟩
      · rw [va_s]
        by_cases e : p = 23 - k
        · rw [e, pk_us]
          unfold gaC
          rw [show 23 - (23 - k) = k by omega]
        · rw [pk_un e]; exact f2 p (by omega) h2
      · rw [va_s, pk_un (by omega)]; exact f3 p (by omega))
    (by
      rintro V' -
      unfold iX5_goAlong_L108 fX5_goAlong_L108
      simp only []
      rw [if_pos (show nI (24 - 24) - 1 < 0 by decide)])
  have e2 : it_ (iX5_goAlong_L108 i) FV (V1, 1000000, nI (24 - 0) - 1) = _ := e2
  rw [e2, q_R]
  exact ⟨V2, rfl, f1, fun p hp => f2 p (by omega) hp⟩
def thS (s : Nat → Nat → Nat) (f o t k : Nat) : Nat := if k = 0 then 1000000 else thB s f o t (k - 1)
def thW (s : Nat → Nat → Nat) (f t k p : Nat) : Nat := if k = 0 then (if p = f then 0 else 1000000) else thT s f t (k - 1) p
theorem thS_0 {s : Nat → Nat → Nat} {f o t : Nat} : thS s f o t 0 = 1000000 := rfl
theorem thB_le {s : Nat → Nat → Nat} (hs : ∀ t p, s t p ≤ 8) {f o t : Nat} (hf : f < 24) (ho : o < 24) (m : Nat) : thB s f o t m ≤ 376 := by
  induction m with
  | zero => exact thT_le hs hf 0 o ho
  | succ m ih => exact Nat.le_trans (Nat.min_le_left _ _) ih
theorem thS_le {s : Nat → Nat → Nat} (hs : ∀ t p, s t p ≤ 8) {f o t k : Nat} (hf : f < 24) (ho : o < 24) : thS s f o t k ≤ 1000000 := by
  unfold thS
  split
  · exact Nat.le_refl _
  · exact Nat.le_trans (thB_le hs hf ho _) (by decide)
theorem thS_s {s : Nat → Nat → Nat} (hs : ∀ t p, s t p ≤ 8) {f o t k : Nat} (hf : f < 24) (ho : o < 24) : min (thT s f t k o) (thS s f o t k) = thS s f o t (k + 1) := by
  have e : thS s f o t (k + 1) = thB s f o t k := by unfold thS; rw [if_neg (by omega), Nat.add_sub_cancel]
  rw [e]
  cases k with
  | zero =>
    have h := thT_le (t := t) hs hf 0 o ho
    rw [thS_0]
    exact Nat.min_eq_left (Nat.le_trans h (by decide))
  | succ k =>
    have e2 : thS s f o t (k + 1) = thB s f o t k := by unfold thS; rw [if_neg (by omega), Nat.add_sub_cancel]
    rw [e2, Nat.min_comm]
    rfl
theorem thW_le {s : Nat → Nat → Nat} (hs : ∀ t p, s t p ≤ 8) {f t k p : Nat} (hk : k < 25) (hf : f < 24) (hp : p < 24) : thW s f t k p ≤ 1000000 := by
  unfold thW
  split
  · split <;> decide
  · have := thT_le (t := t) hs hf (k - 1) p hp
    exact Nat.le_trans this (by omega)
theorem thW_s {s : Nat → Nat → Nat} (hs : ∀ t p, s t p ≤ 8) {f t k p : Nat} (ht : t < 24) (hk : k < 24) (hf : f < 24) (hp : p < 24) : gaC (s ((t + k) % 24)) (thW s f t k) p = thT s f t k p := by
  cases k with
  | zero =>
    rw [show (t + 0) % 24 = t by omega]
    exact (ga_b (hs t) hf hp).1
  | succ k =>
    have h1 : gaC (s ((t + (k + 1)) % 24)) (thW s f t (k + 1)) p = gaC (s ((t + (k + 1)) % 24)) (thT s f t k) p := gaC_cong (fun q hq => by unfold thW; rw [if_neg (by omega), Nat.add_sub_cancel]) hp
    rw [h1]
    exact (ga_a (hs _) (fun q hq => Nat.le_trans (thT_le hs hf k q hq) (by omega)) hp).1
theorem thW_S {s : Nat → Nat → Nat} {f t k p : Nat} : thW s f t (k + 1) p = thT s f t k p := by unfold thW; rw [if_neg (by omega), Nat.add_sub_cancel]
theorem c_thief (hC : CT V i A L) {f o t : Nat} (hf : f < 24) (ho : o < 24) (ht : t < 24) : ∃ V', fX5_fewestSights V i (nI f) (nI o) (nI t) = some (nI (thS (sgT L A) f o t 24), V') ∧ Cq V V' := by
  have hs : ∀ t p, sgT L A t p ≤ 8 := fun t p => sgT_le
  generalize hsg : sgT L A = sg at hs ⊢
  unfold fX5_fewestSights
  obtain ⟨V1, e1, g1, g2⟩ := lk (V := V) (f := iX5_fewestSights_L3 i) (fun _ => ()) (fun V' _ k => (V', nI f, nI o, nI t, nI k)) (fun V' _ => (V', nI o, nI t)) (fun k V' => Cq V V' ∧ ∀ p, p < k → V' 73 p = nI (thW sg f t 0 p)) 24 (by omega) ⟨Cq.rf, fun p hp => absurd hp (Nat.not_lt_zero _)⟩
    (by
      rintro k V' hk ⟨g1, g2⟩
      unfold iX5_fewestSights_L3 fX5_fewestSights_L3
      simp only []
      rw [if_neg (nI_ge hk (by omega)), q_rd hk (by omega), q_rd hk (by omega), nI_clamp (by omega), nI_1]
      have fin : ∀ x : Int32, x = nI (thW sg f t 0 k) → ∃ V2, some (.inl (va_up V' 73 (upd (V' 73) k x), nI f, nI o, nI t, nI (k + 1))) = some (.inl (V2, nI f, nI o, nI t, nI (k + 1)) : (VT × Int32 × Int32 × Int32 × Int32) ⊕ (VT × Int32 × Int32)) ∧ Cq V V2 ∧ ∀ p, p < k + 1 → V2 73 p = nI (thW sg f t 0 p) := by
        intro x hx
        refine ⟨_, rfl, g1.tr (Cq.up (by omega)), fun p hp => ?_⟩
        rw [va_s]
        by_cases e : p = k
        · rw [e, pk_us]; exact hx
        · rw [pk_un e]; exact g2 p (by omega)
      by_cases c : k = f
      · rw [if_pos (by rw [c]), q_lt, q_lt]
        exact fin 0 (by unfold thW; rw [if_pos rfl, if_pos c]; rfl)
      · rw [if_neg (fun e => c ((nI_eq (by omega) (by omega)).1 e)), q_lt, q_lt]
        exact fin 1000000 (by unfold thW; rw [if_pos rfl, if_neg c]; rfl))
    (by
      rintro V' -
      unfold iX5_fewestSights_L3 fX5_fewestSights_L3
      simp only []
      rw [if_pos (nI_le (Nat.le_refl _) (by omega))])
  have e1 : it_ (iX5_fewestSights_L3 i) FV (V, nI f, nI o, nI t, 0) = _ := e1
  rw [e1, q_R]
  simp only [dt3_]
  obtain ⟨V2, e2, f1, f2⟩ := lk (V := V1) (f := iX5_fewestSights_L45 i) (fun k => thS sg f o t k) (fun V' a k => (V', nI o, nI t, nI a, nI k)) (fun V' a => (nI a, V')) (fun k V' => Cq V V' ∧ ∀ p, p < 24 → V' 73 p = nI (thW sg f t k p)) 24 (by omega) ⟨g1, g2⟩
    (by
      rintro k V' hk ⟨f1, f2⟩
      have hC' := hC.q f1
      obtain ⟨V3, e3, hq3, hv3⟩ := c_goAlong hC' (t := (t + k) % 24) (Nat.mod_lt _ (by omega)) f2 (fun p hp => thW_le hs (by omega) hf hp)
      rw [hsg] at hv3
      have hv4 : ∀ p, p < 24 → V3 73 p = nI (thT sg f t k p) := fun p hp => (hv3 p hp).trans (congrArg nI (thW_s hs ht hk hf hp))
      clear hv3
      have hto : thT sg f t k o < 2 ^ 31 := Nat.lt_of_le_of_lt (thT_le hs hf k o ho) (by omega)
      have hak : thS sg f o t k < 2 ^ 31 := Nat.lt_of_le_of_lt (thS_le hs hf ho) (by decide)
      unfold iX5_fewestSights_L45 fX5_fewestSights_L45
      simp only []
      rw [if_neg (show ¬ (24 : Int32) ≤ nI k from nI_ge (b := 24) hk (by omega)), nI_add, q_m24 (by omega), e3, q_R, if_neg (nI_pos (by omega)), if_neg (nI_ge ho (by omega)), q_rd ho (by omega), nI_clamp (by omega), hv4 o ho, nI_1, q_mi hto hak, thS_s hs hf ho, q_lt, q_lt]
      exact ⟨V3, rfl, f1.tr hq3, fun p hp => by rw [thW_S]; exact hv4 p hp⟩)
    (by
      rintro V' -
      unfold iX5_fewestSights_L45 fX5_fewestSights_L45
      simp only []
      rw [if_pos (show (24 : Int32) ≤ nI 24 from nI_le (Nat.le_refl _) (by omega))])
  simp only [thS_0] at e2
  have e2 : it_ (iX5_fewestSights_L45 i) FV (V1, nI o, nI t, 1000000, 0) = some (nI (thS sg f o t 24), V2) := e2
  rw [e2, q_R]
  exact ⟨V2, rfl, f1⟩
/-! ===== the model's way ===== -/
def Mt (V V' : VT) : Prop := (∀ j, j ≠ 22 → j ≠ 83 → j ≠ 84 → j ≠ 85 → V' j = V j) ∧ ∀ k, k < 18 ∨ 24 < k → V' 22 k = V 22 k
theorem Mt.rf {V : VT} : Mt V V := ⟨fun _ _ _ _ _ => rfl, fun _ _ => rfl⟩
theorem Mt.tr {V V1 V2 : VT} (h1 : Mt V V1) (h2 : Mt V1 V2) : Mt V V2 := ⟨fun j a b c d => (h2.1 j a b c d).trans (h1.1 j a b c d), fun k hk => (h2.2 k hk).trans (h1.2 k hk)⟩
theorem Mt.q {V V' : VT} (h : Mt V V') : Mq V V' := ⟨fun j a b => h.1 j a (by omega) (by omega) (by omega), h.2⟩
theorem My.t {V V' : VT} (h : My V V') : Mt V V' := ⟨fun j a b _ _ => h.1 j a b, h.2⟩
theorem Mt.u {V : VT} {j : Nat} {f : Nat → Int32} (h : j = 84 ∨ j = 85) : Mt V (va_up V j f) := ⟨fun q _ _ c d => va_n (by omega), fun k _ => by rw [va_n (by omega)]⟩
theorem MT.t {V V' : VT} (h : MT V A L) (ht : Mt V V') : MT V' A L := h.w (ht.1 76 (by omega) (by omega) (by omega) (by omega))
theorem m_laysSights (hT : MT V A L) {t : Nat} (ht : t < 24) : ∃ V', fX10_laysSights V (nI t) = some V' ∧ Mt V V' ∧ (∀ p, p < 24 → V' 85 p = nI (sgT L A t p)) ∧ V' 84 = V 84 := by
  unfold fX10_laysSights
  obtain ⟨V1, e1, g1, g2, g3⟩ := lk (V := V) (f := iX10_laysSights_L2) (fun _ => ()) (fun V' _ k => (V', nI t, nI k)) (fun V' _ => V') (fun k V' => Mt V V' ∧ (∀ p, p < k → V' 85 p = nI (sgT L A t p)) ∧ V' 84 = V 84) 24 (by omega) ⟨Mt.rf, fun p hp => absurd hp (Nat.not_lt_zero _), rfl⟩
    (by
      rintro k V' hk ⟨g1, g2, g3⟩
      obtain ⟨V2, e2, hy2⟩ := m_seersNow (hT.t g1) hk ht
      unfold iX10_laysSights_L2 fX10_laysSights_L2
      simp only []
      rw [if_neg (show ¬ (24 : Int32) ≤ nI k from nI_ge (b := 24) hk (by omega)), e2, q_I, bc_e, q_R, bc_8 (seer_lt hT.2.1), q_rd hk (by omega), nI_clamp (by omega), q_lt, nI_1, q_lt]
      refine ⟨_, rfl, (g1.tr hy2.t).tr (Mt.u (by omega)), fun p hp => ?_, by rw [va_n (by omega), hy2.1 84 (by omega) (by omega)]; exact g3⟩
      rw [va_s]
      by_cases e : p = k
      · rw [e, pk_us]; rfl
      · rw [pk_un e, hy2.1 85 (by omega) (by omega)]; exact g2 p (by omega))
    (by
      rintro V' -
      unfold iX10_laysSights_L2 fX10_laysSights_L2
      simp only []
      rw [if_pos (show (24 : Int32) ≤ nI 24 from nI_le (Nat.le_refl _) (by omega))])
  have e1 : it_ iX10_laysSights_L2 FV (V, nI t, 0) = _ := e1
  rw [e1, q_R]
  exact ⟨V1, rfl, g1, g2, g3⟩
theorem upP_le {s u : Nat → Nat} (hu : ∀ p, p < 24 → u p ≤ 1000008) : ∀ p, p < 24 → upP s u p ≤ 1000008
  | 0, h => hu 0 h
  | p + 1, h => Nat.le_trans (Nat.min_le_left _ _) (hu (p + 1) h)
theorem dnP_le {s u : Nat → Nat} (hu : ∀ p, p < 24 → u p ≤ 1000008) : ∀ k, k < 24 → dnP s u k ≤ 1000008
  | 0, h => hu 23 (by omega)
  | k + 1, h => Nat.le_trans (Nat.min_le_left _ _) (hu (22 - k) (by omega))
theorem m_goesAlong {s u : Nat → Nat} (hs : ∀ p, s p ≤ 8) (h85 : ∀ p, p < 24 → V 85 p = nI (s p)) (h84 : ∀ p, p < 24 → V 84 p = nI (u p)) (hu : ∀ p, p < 24 → u p ≤ 1000008) : ∃ V', fX10_goesAlong V = some V' ∧ (∀ q, q ≠ 84 → V' q = V q) ∧ ∀ p, p < 24 → V' 84 p = nI (gaM s u p) := by
  unfold fX10_goesAlong
  have hup := upP_le (s := s) hu
  obtain ⟨V1, e1, g1, g2, g3⟩ := lk (V := V) (f := iX10_goesAlong_L2) (fun _ => ()) (fun V' _ k => (V', nI (k + 1))) (fun V' _ => V') (fun k V' => (∀ q, q ≠ 84 → V' q = V q) ∧ (∀ p, p ≤ k → V' 84 p = nI (upP s u p)) ∧ ∀ p, k < p → p < 24 → V' 84 p = nI (u p)) 23 (by omega) ⟨fun _ _ => rfl, fun p hp => by rw [show p = 0 by omega]; exact h84 0 (by omega), fun p _ hp => h84 p hp⟩
    (by
      rintro k V' hk ⟨g1, g2, g3⟩
      have a1 := hup k (by omega)
      have a2 := hu (k + 1) (by omega)
      have a3 := hs (k + 1)
      have e85 : V' 85 (k + 1) = nI (s (k + 1)) := by rw [g1 85 (by omega)]; exact h85 _ (by omega)
      unfold iX10_goesAlong_L2 fX10_goesAlong_L2
      simp only []
      rw [if_neg (show ¬ (24 : Int32) ≤ nI (k + 1) from nI_ge (b := 24) (by omega) (by omega)), nI_pred, q_rd (show k + 1 < 24 by omega) (by omega), q_rd (show k < 24 by omega) (by omega), q_rd (show k + 1 < 24 by omega) (by omega), q_rd (show k + 1 < 24 by omega) (by omega), nI_clamp (by omega), nI_clamp (by omega), g2 k (Nat.le_refl _), g3 (k + 1) (by omega) (by omega), e85, nI_add, q_mi (by omega) (by omega), q_lt, nI_1, q_lt]
      refine ⟨_, rfl, fun q hq => by rw [va_n hq]; exact g1 q hq, fun p hp => ?_, fun p h1 h2 => ?_⟩
      · rw [va_s]
        by_cases e : p = k + 1
        · rw [e, pk_us, Nat.min_comm]; rfl
        · rw [pk_un e]; exact g2 p (by omega)
      · rw [va_s, pk_un (by omega)]; exact g3 p (by omega) h2)
    (by
      rintro V' -
      unfold iX10_goesAlong_L2 fX10_goesAlong_L2
      simp only []
      rw [if_pos (show (24 : Int32) ≤ nI (23 + 1) from nI_le (Nat.le_refl _) (by omega))])
  have e1 : it_ iX10_goesAlong_L2 FV (V, 1) = _ := e1
  rw [e1, q_R, q_lt]
  obtain ⟨V2, e2, f1, f2, f3⟩ := lk (V := V1) (f := iX10_goesAlong_L47) (fun _ => ()) (fun V' _ k => (V', nI (23 - k) - 1)) (fun V' _ => V') (fun k V' => (∀ q, q ≠ 84 → V' q = V q) ∧ (∀ p, 23 - k ≤ p → p < 24 → V' 84 p = nI (gaM s u p)) ∧ ∀ p, p < 23 - k → V' 84 p = nI (upP s u p)) 23 (by omega) ⟨g1, fun p h1 h2 => by rw [show p = 23 by omega]; exact g2 23 (by omega), fun p hp => g2 p (by omega)⟩
    (by
      rintro k V' hk ⟨f1, f2, f3⟩
      have a1 : gaM s u (23 - k) ≤ 1000008 := dnP_le hup _ (by omega)
      have a2 := hup (22 - k) (by omega)
      have a3 := hs (22 - k)
      have e85 : V' 85 (22 - k) = nI (s (22 - k)) := by rw [f1 85 (by omega)]; exact h85 _ (by omega)
      have em : nI (22 - k) + (-1) = nI (23 - (k + 1)) - 1 := by
        rw [show 23 - (k + 1) = 22 - k by omega]
        exact (Int32.sub_eq_add_neg _ _).symm
      unfold iX10_goesAlong_L47 fX10_goesAlong_L47
      simp only []
      rw [show nI (23 - k) - 1 = nI (22 - k) by rw [show nI (23 - k) - 1 = nI (23 - k - 1) from pk_sub (b := 1) (by omega), show 23 - k - 1 = 22 - k by omega], if_neg (nI_pos (by omega)), nI_1, q_rd (show 22 - k < 24 by omega) (by omega), q_rd (show 22 - k + 1 < 24 by omega) (by omega), q_rd (show 22 - k < 24 by omega) (by omega), q_rd (show 22 - k < 24 by omega) (by omega), nI_clamp (by omega), nI_clamp (by omega), f3 (22 - k) (by omega), show 22 - k + 1 = 23 - k by omega, f2 (23 - k) (Nat.le_refl _) (by omega), e85, nI_add, q_mi (by omega) (by omega), q_lt, em, q_lt]
      have eg : min (gaM s u (23 - k) + s (22 - k)) (upP s u (22 - k)) = gaM s u (22 - k) := by
        unfold gaM
        rw [show 23 - (23 - k) = k by omega, show 23 - (22 - k) = k + 1 by omega, Nat.min_comm]
        rfl
      rw [eg]
      refine ⟨_, rfl, fun q hq => by rw [va_n hq]; exact f1 q hq, fun p h1 h2 => ?_, fun p hp => ?_⟩
      · rw [va_s]
        by_cases e : p = 22 - k
        · rw [e, pk_us]
        · rw [pk_un e]; exact f2 p (by omega) h2
      · rw [va_s, pk_un (by omega)]; exact f3 p (by omega))
    (by
      rintro V' -
      unfold iX10_goesAlong_L47 fX10_goesAlong_L47
      simp only []
      rw [if_pos (show nI (23 - 23) - 1 < 0 by decide)])
  have e2 : it_ iX10_goesAlong_L47 FV (V1, 22) = _ := e2
  rw [e2, q_R]
  exact ⟨V2, rfl, f1, fun p hp => f2 p (by omega) hp⟩
theorem m_thief (hT : MT V A L) {f o t : Nat} (hf : f < 24) (ho : o < 24) (ht : t < 24) : ∃ V', (ob_R (fX10_laysSights V (nI t)) fun V8 => ob_R (it_ (iX10_thief_L49) FV (V8, nI f, nI o, nI t, (0 : Int32))) fun x19 => (dt3_ x19 fun V22 y20 y21 => ob_R (fX10_goesAlong V22 ) fun V24 => rd_ y20 24 (lt_ (V24 84 y20.toNatClampNeg) fun y26 => ob_R (it_ (iX10_thief_L103) FV (V24, y20, y21, y26, (1 : Int32))) fun x49 => some x49))) = some (nI (thS (sgT L A) f o t 24), V') ∧ Mt V V' := by
  have hs : ∀ t p, sgT L A t p ≤ 8 := fun t p => sgT_le
  obtain ⟨V8, e8, m8, h85, h84⟩ := m_laysSights hT ht
  rw [e8, q_R]
  obtain ⟨V9, e9, f1, f2⟩ := lk (V := V8) (f := iX10_thief_L49) (fun _ => ()) (fun V' _ k => (V', nI f, nI o, nI t, nI k)) (fun V' _ => (V', nI o, nI t)) (fun k V' => (∀ q, q ≠ 84 → V' q = V8 q) ∧ ∀ p, p < k → V' 84 p = nI (if p = f then sgT L A t p else 1000000)) 24 (by omega) ⟨fun _ _ => rfl, fun p hp => absurd hp (Nat.not_lt_zero _)⟩
    (by
      rintro k V' hk ⟨f1, f2⟩
      unfold iX10_thief_L49 fX10_thief_L49
      simp only []
      rw [if_neg (show ¬ (24 : Int32) ≤ nI k from nI_ge (b := 24) hk (by omega)), nI_clamp (by omega), f1 85 (by omega), h85 k hk, nI_1]
      by_cases c : k = f
      · rw [if_pos (by rw [c]), q_rd hk (by omega), q_rd hk (by omega), q_lt, q_lt]
        refine ⟨_, rfl, fun q hq => by rw [va_n hq]; exact f1 q hq, fun p hp => ?_⟩
        rw [va_s]
        by_cases e : p = k
        · rw [e, pk_us, if_pos c]
        · rw [pk_un e]; exact f2 p (by omega)
      · rw [if_neg (fun e => c ((nI_eq (by omega) (by omega)).1 e)), q_rd hk (by omega), q_lt, q_lt]
        refine ⟨_, rfl, fun q hq => by rw [va_n hq]; exact f1 q hq, fun p hp => ?_⟩
        rw [va_s]
        by_cases e : p = k
        · rw [e, pk_us, if_neg c]; rfl
        · rw [pk_un e]; exact f2 p (by omega))
    (by
      rintro V' -
      unfold iX10_thief_L49 fX10_thief_L49
      simp only []
      rw [if_pos (show (24 : Int32) ≤ nI 24 from nI_le (Nat.le_refl _) (by omega))])
  have e9 : it_ iX10_thief_L49 FV (V8, nI f, nI o, nI t, 0) = _ := e9
  rw [e9, q_R]
  simp only [dt3_]
  obtain ⟨V10, e10, k1, k2⟩ := m_goesAlong (V := V9) (hs t) (fun p hp => by rw [f1 85 (by omega)]; exact h85 p hp) f2 (fun p hp => by
    have := hs t p
    split <;> omega)
  have k2 : ∀ p, p < 24 → V10 84 p = nI (thT (sgT L A) f t 0 p) := k2
  have m10 : Mt V V10 := m8.tr ⟨fun j _ _ c _ => (k1 j c).trans (f1 j c), fun k _ => by rw [k1 22 (by omega), f1 22 (by omega)]⟩
  generalize hsg : sgT L A = sg at hs k2 ⊢
  have eS1 : thT sg f t 0 o = thS sg f o t (0 + 1) := by unfold thS; rw [if_neg (by omega)]; rfl
  rw [e10, q_R, q_rd ho (by omega), nI_clamp (by omega), k2 o ho, q_lt, eS1]
  obtain ⟨V11, e11, r1, r2⟩ := lk (V := V10) (f := iX10_thief_L103) (fun k => thS sg f o t (k + 1)) (fun V' a k => (V', nI o, nI t, nI a, nI (k + 1))) (fun V' a => (nI a, V')) (fun k V' => Mt V V' ∧ ∀ p, p < 24 → V' 84 p = nI (thT sg f t k p)) 23 (by omega) ⟨m10, k2⟩
    (by
      rintro k V' hk ⟨r1, r2⟩
      obtain ⟨V12, e12, m12, g85, g84⟩ := m_laysSights (hT.t r1) (t := (t + (k + 1)) % 24) (Nat.mod_lt _ (by omega))
      rw [hsg] at g85
      have hst := hs ((t + (k + 1)) % 24)
      have hle := thT_le (t := t) hs hf k
      unfold iX10_thief_L103 fX10_thief_L103
      simp only []
      rw [if_neg (show ¬ (24 : Int32) ≤ nI (k + 1) from nI_ge (b := 24) (by omega) (by omega)), nI_add, q_m24 (by omega), e12, q_R]
      obtain ⟨V13, e13, w1, w2, w3⟩ := lk (V := V12) (f := iX10_thief_L124) (fun _ => ()) (fun V' _ p => (V', nI o, nI t, nI (thS sg f o t (k + 1)), nI (k + 1), nI p)) (fun V' _ => (V', nI o, nI t, nI (thS sg f o t (k + 1)), nI (k + 1))) (fun p V' => (∀ q, q ≠ 84 → V' q = V12 q) ∧ (∀ j, j < p → V' 84 j = nI (thT sg f t k j + sg ((t + (k + 1)) % 24) j)) ∧ ∀ j, p ≤ j → j < 24 → V' 84 j = nI (thT sg f t k j)) 24 (by omega) ⟨fun _ _ => rfl, fun j hj => absurd hj (Nat.not_lt_zero _), fun j _ hj => by rw [g84]; exact r2 j hj⟩
        (by
          rintro p V' hp ⟨w1, w2, w3⟩
          unfold iX10_thief_L124 fX10_thief_L124
          simp only []
          rw [if_neg (show ¬ (24 : Int32) ≤ nI p from nI_ge (b := 24) hp (by omega)), q_rd hp (by omega), q_rd hp (by omega), q_rd hp (by omega), nI_clamp (by omega), w3 p (Nat.le_refl _) hp, w1 85 (by omega), g85 p hp, nI_add, q_lt, nI_1, q_lt]
          refine ⟨_, rfl, fun q hq => by rw [va_n hq]; exact w1 q hq, fun j hj => ?_, fun j h1 h2 => by rw [va_s, pk_un (by omega)]; exact w3 j (by omega) h2⟩
          rw [va_s]
          by_cases e : j = p
          · rw [e, pk_us]
          · rw [pk_un e]; exact w2 j (by omega))
        (by
          rintro V' -
          unfold iX10_thief_L124 fX10_thief_L124
          simp only []
          rw [if_pos (show (24 : Int32) ≤ nI 24 from nI_le (Nat.le_refl _) (by omega))])
      have e13 : it_ iX10_thief_L124 FV (V12, nI o, nI t, nI (thS sg f o t (k + 1)), nI (k + 1), 0) = _ := e13
      rw [e13, q_R]
      simp only [dt5_]
      obtain ⟨V14, e14, z1, z2⟩ := m_goesAlong (V := V13) hst (fun p hp => by rw [w1 85 (by omega)]; exact g85 p hp) w2 (fun p hp => by
        have := hle p hp
        have := hst p
        omega)
      have z2 : ∀ p, p < 24 → V14 84 p = nI (thT sg f t (k + 1) p) := z2
      have hto : thT sg f t (k + 1) o < 2 ^ 31 := Nat.lt_of_le_of_lt (thT_le hs hf (k + 1) o ho) (by omega)
      have hak : thS sg f o t (k + 1) < 2 ^ 31 := Nat.lt_of_le_of_lt (thS_le hs hf ho) (by decide)
      rw [e14, q_R, q_rd ho (by omega), nI_clamp (by omega), z2 o ho, q_mi hto hak, thS_s hs hf ho, q_lt, nI_1, q_lt]
      refine ⟨V14, rfl, (r1.tr m12).tr ⟨fun j _ _ c _ => (z1 j c).trans (w1 j c), fun q _ => by rw [z1 22 (by omega), w1 22 (by omega)]⟩, z2⟩)
    (by
      rintro V' -
      unfold iX10_thief_L103 fX10_thief_L103
      simp only []
      rw [if_pos (show (24 : Int32) ≤ nI (23 + 1) from nI_le (Nat.le_refl _) (by omega))])
  have e11 : it_ iX10_thief_L103 FV (V10, nI o, nI t, nI (thS sg f o t (0 + 1)), 1) = some (nI (thS sg f o t 24), V11) := e11
  rw [e11, q_R]
  exact ⟨V11, rfl, r1⟩
theorem op_thief {cd : String → Int32} (hI : INV V) (h1 : cd IOOB = 1) (x1 x2 x3 : Int32) : OpE (fun V => fX9_thief V x1 x2 x3) (fun V => fX10_thief V x1 x2 x3) cd V := by
  obtain ⟨g, hC, hM⟩ := hI
  have bad : ∀ (hb : ¬ (ix x1 24 = true ∧ ix x2 24 = true ∧ ix x3 24 = true)), OpE (fun V => fX9_thief V x1 x2 x3) (fun V => fX10_thief V x1 x2 x3) cd V := by
    intro hb
    refine op_x hC hM IOOB ?_ (m_thr ⟨0, ?_⟩)
    · show fX9_thief V _ _ _ = _
      unfold fX9_thief
      rw [n_place, n_place, n_hour]
      by_cases b1 : ix x1 24 = true
      · by_cases b2 : ix x2 24 = true
        · have b3 := nf (fun b3 => hb ⟨b1, b2, b3⟩)
          rw [b1, b2, b3]; rfl
        · rw [b1, nf b2]; rfl
      · rw [nf b1]; rfl
    · have hT := hM.t0
      show fX10_thief V _ _ _ = _
      unfold fX10_thief
      rw [q_lt, t0_e, m_noPlace, m_noPlace, m_noHour, q_R, q_R, q_R]
      have fin : fX10_thief_j27 (t0 V) x1 x2 x3 = some (0, va_up (t0 V) 22 (upd (t0 V 22) 0 (cd IOOB))) := by
        unfold fX10_thief_j27 fX10_thief_j32
        rw [m_thr1, q_I, if_neg q_10, h1]
      by_cases b1 : ix x1 24 = true
      · by_cases b2 : ix x2 24 = true
        · have b3 := nf (fun b3 => hb ⟨b1, b2, b3⟩)
          rw [b1, b2, b3, if_pos (show bI (!true) = 0 from rfl), if_pos (show bI (!true) = 0 from rfl), if_neg (show ¬ bI (!false) = 0 by decide)]; exact fin
        · rw [b1, nf b2, if_pos (show bI (!true) = 0 from rfl), if_neg (show ¬ bI (!false) = 0 by decide)]; exact fin
      · rw [nf b1, if_neg (show ¬ bI (!false) = 0 by decide)]; exact fin
  by_cases hb : ix x1 24 = true ∧ ix x2 24 = true ∧ ix x3 24 = true
  · obtain ⟨b1, b2, b3⟩ := hb
    obtain ⟨f, hf, rfl⟩ := ix_t (by omega) b1
    obtain ⟨o, ho, rfl⟩ := ix_t (by omega) b2
    obtain ⟨t, ht, rfl⟩ := ix_t (by omega) b3
    refine op_q hC hM (nI (thS (sgT (xL g) (xA g)) f o t 24)) ?_ (fun V1 hM1 => ?_)
    · obtain ⟨V2, e2, hq2⟩ := c_thief hC.t hf ho ht
      refine ⟨V2, ?_, hq2.c⟩
      show fX9_thief V _ _ _ = _
      unfold fX9_thief
      rw [n_place, b1, n_place, b2, n_hour, b3]
      simp only [if_true, q_N1]
      rw [e2, q_I]
    · have hT := hM1.t0
      obtain ⟨V2, e2, hq2⟩ := m_thief hT hf ho ht
      refine m_ans ⟨V2, ?_, hq2.q⟩
      show fX10_thief V1 _ _ _ = _
      unfold fX10_thief
      rw [q_lt, t0_e, m_noPlace, b1, q_R, if_pos (show bI (!true) = 0 from rfl), m_noPlace, b2, q_R, if_pos (show bI (!true) = 0 from rfl), m_noHour, b3, q_R, if_pos (show bI (!true) = 0 from rfl)]
      unfold fX10_thief_j32
      rw [m_thr0, q_I, if_pos rfl]
      exact e2
  · exact bad hb
end OP
