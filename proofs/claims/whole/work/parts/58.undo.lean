/-! ===== undo ===== -/
def undG (g : GA) : GA := (xa g 0, g.2.1, g.2.2.1, g.2.2.2.1, g.2.2.2.2.1, (xc g - 1, fun j => xa g (j + 1)))
section OP
variable {V : VT} {g : GA}
theorem m_L26 {V : VT} {c : Nat} (hc : c < 12) (h7 : V 22 7 = nI c) : it_ iX10_undo_L26 FV (V, 0) = some (1, va_up V 76 (fa_fill (fun q => V 80 (314 * c + q)) (V 76) 314)) := by
  have e := lq (f := iX10_undo_L26) (r := (1, va_up V 76 (fa_fill (fun q => V 80 (314 * c + q)) (V 76) 314))) (fun k => va_up V 76 (fa_fill (fun q => V 80 (314 * c + q)) (V 76) k)) (fun a k => (a, nI k)) 314 (by omega)
    (by
      intro k hk
      unfold iX10_undo_L26 fX10_undo_L26
      simp only []
      rw [if_neg (show ¬ (314 : Int32) ≤ nI k from nI_ge (b := 314) hk (by omega)), va_n (show (22 : Nat) ≠ 76 by omega), h7, q_mulL, nI_add, q_rd (by omega) (by omega), q_rd (by omega) (by omega), nI_clamp (by omega), nI_clamp (by omega), va_n (show (80 : Nat) ≠ 76 by omega), va_s, va_uu, q_lt, q_lt, nI_1]
      have this : upd (fa_fill (fun q => V 80 (314 * c + q)) (V 76) k) k (V 80 (314 * c + k)) = _ := fa_fill_succ (fun q => V 80 (314 * c + q)) (V 76) k
      rw [this])
    (by
      unfold iX10_undo_L26 fX10_undo_L26
      simp only []
      rw [if_pos (show (314 : Int32) ≤ nI 314 from nI_le (Nat.le_refl _) (by omega)), q_zo1])
  simp only [fa_fill_0, va_self] at e
  exact e
theorem op_undo (hI : INV V) : OpI (fun V => fX9_undo V) (fun V => fX10_undo V) V := by
  obtain ⟨g, hC, hM⟩ := hI
  obtain ⟨h1, h2, h3, h4, h5, h6, h7, h8, h9, h10, nx, h11, h12, h13⟩ := id hC
  have ey : (V 20 1 + 12 - 1) - (V 20 1 + 12 - 1) / 12 * 12 = nI ((nx + 11) % 12) := by
    rw [h12, q_add, show nI (nx + 12) - 1 = nI (nx + 11) from pk_sub (a := nx + 12) (b := 1) (by omega), q_r12 (by omega)]
  have hlt : (nx + 11) % 12 < 12 := Nat.mod_lt _ (by omega)
  by_cases c0 : xc g = 0
  · refine op_i hC hM 0 ⟨V, ?_, Cs.rf⟩ (fun V1 hM1 => ⟨t0 V1, ?_, t0_m⟩)
    · show fX9_undo V = _
      unfold fX9_undo fX0_takeBack
      rw [ey, q_lt, sl_in hlt, h10, c0, if_pos (show nI 0 = 0 from rfl), q_zo0, q_I, q_zo0]
    · show fX10_undo V1 = _
      unfold fX10_undo
      rw [q_lt, t0_e, (hM1.m t0_m).2.2.2.2.2.2.2.2.2.1, c0, if_pos (show nI 0 = 0 from rfl), q_zo0]
  · obtain ⟨r0, w0⟩ := h13 0 (by omega)
    have w3 : aS (xa g 0) 3 = aS (xA g) 3 := (hM.2.2.2.2.2.2.2.2.2.2 0 (by omega)).2.2
    refine op_gi (g := g) (g' := undG g) hM 1 ?_ ?_
    · obtain ⟨V9, e9, hR9, hq9⟩ := c_copy (i := 2) r0 w0 (by omega) (by omega) (by omega)
      have e20 : V9 20 = V 20 := hq9 20 ⟨by omega, by omega, by omega, by omega⟩
      have f1 : upd (upd (V 20) 1 (nI ((nx + 11) % 12))) 2 (nI (xc g - 1)) 1 = nI ((nx + 11) % 12) := by rw [pk_un (by omega), pk_us]
      have f2 : upd (upd (V 20) 1 (nI ((nx + 11) % 12))) 2 (nI (xc g - 1)) 2 = nI (xc g - 1) := by rw [pk_us]
      refine ⟨va_up V9 20 (upd (upd (V 20) 1 (nI ((nx + 11) % 12))) 2 (nI (xc g - 1))), ?_, ?_, ?_, ?_⟩
      · show fX9_undo V = _
        unfold fX9_undo fX0_takeBack
        have e9 : fX6_copyFrom V 2 (5 + (nx + 11) % 12) = some V9 := e9
        rw [ey, q_lt, sl_in hlt, h10, if_neg (nI_ne0 (by omega) (by omega)), e9, q_R, q_lt, va_s, va_uu, e20, pk_un (by omega), h10, show nI (xc g) - 1 = nI (xc g - 1) from pk_sub (b := 1) (by omega), q_lt, q_zo1, q_I, q_zo1]
      · generalize upd (upd (V 20) 1 (nI ((nx + 11) % 12))) 2 (nI (xc g - 1)) = f at f1 f2 ⊢
        have e : ∀ j, j ≠ 20 → StN 2 j → va_up V9 20 f j = V j := fun j a b => by rw [va_n a]; exact hq9 j b
        refine ⟨hR9.w (va_n (by omega)) (va_n (by omega)) (va_n (by omega)) (va_n (by omega)), w0, ?_, ?_, ?_, ?_, ?_, fun hk => ?_, ?_, ?_, (nx + 11) % 12, hlt, ?_, fun j hj => ?_⟩
        · rw [e 17 (by omega) ⟨by omega, by omega, by omega, by omega⟩]; exact h3
        · rw [e 17 (by omega) ⟨by omega, by omega, by omega, by omega⟩, e 69 (by omega) ⟨by omega, by omega, by omega, by omega⟩]; exact h4
        · rw [e 1 (by omega) ⟨by omega, by omega, by omega, by omega⟩, e 23 (by omega) ⟨by omega, by omega, by omega, by omega⟩]; exact h5
        · rw [e 0 (by omega) ⟨by omega, by omega, by omega, by omega⟩]; exact h6
        · rw [e 0 (by omega) ⟨by omega, by omega, by omega, by omega⟩]; exact h7
        · obtain ⟨x1, x2, x3, x4⟩ := h8 hk
          refine ⟨x1.w (e _ (by omega) ⟨by omega, by omega, by omega, by omega⟩) (e _ (by omega) ⟨by omega, by omega, by omega, by omega⟩) (e _ (by omega) ⟨by omega, by omega, by omega, by omega⟩) (e _ (by omega) ⟨by omega, by omega, by omega, by omega⟩), x2, ?_, ?_⟩
          · rw [e 19 (by omega) ⟨by omega, by omega, by omega, by omega⟩]; exact x3
          · rw [e 19 (by omega) ⟨by omega, by omega, by omega, by omega⟩, e 71 (by omega) ⟨by omega, by omega, by omega, by omega⟩]; exact x4
        · show xc g - 1 ≤ 12
          omega
        · rw [va_s]; exact f2
        · rw [va_s]; exact f1
        · have hj : j < xc g - 1 := hj
          obtain ⟨y1, y2⟩ := h13 (j + 1) (by omega)
          show RS _ _ (xa g (j + 1)) ∧ WA (xa g (j + 1))
          rw [show 5 + ((nx + 11) % 12 + 11 - j) % 12 = 5 + (nx + 11 - (j + 1)) % 12 by omega]
          exact ⟨y1.w (e _ (by omega) ⟨by omega, by omega, by omega, by omega⟩) (e _ (by omega) ⟨by omega, by omega, by omega, by omega⟩) (e _ (by omega) ⟨by omega, by omega, by omega, by omega⟩) (e _ (by omega) ⟨by omega, by omega, by omega, by omega⟩), y2⟩
      · rw [va_n (by omega)]; exact hq9 22 ⟨by omega, by omega, by omega, by omega⟩
      · intro j hj
        rw [va_n (by omega)]; exact hq9 j ⟨by omega, by omega, by omega, by omega⟩
    · intro V1 hM1
      have hM2 := hM1.m t0_m
      obtain ⟨k1, k2, k3, k4, k5, k6, k7, k8, k9, k10, k11⟩ := hM2
      obtain ⟨z1, z2, z3⟩ := k11 0 (by omega)
      have hL := m_L26 (V := va_up (t0 V1) 22 (upd (t0 V1 22) 7 (nI (xc g - 1)))) (c := xc g - 1) (by omega) (by rw [va_s, pk_us])
      rw [va_n (show (80 : Nat) ≠ 22 by omega), va_n (show (76 : Nat) ≠ 22 by omega)] at hL
      refine ⟨va_up (va_up (t0 V1) 22 (upd (t0 V1 22) 7 (nI (xc g - 1)))) 76 (fa_fill (fun q => t0 V1 80 (314 * (xc g - 1) + q)) (t0 V1 76) 314), ?_, ?_, ?_⟩
      · show fX10_undo V1 = _
        unfold fX10_undo
        rw [q_lt, t0_e, k10, if_neg (nI_ne0 (by omega) (by omega)), show nI (xc g) - 1 = nI (xc g - 1) from pk_sub (b := 1) (by omega), q_lt, hL, q_R]
      · have hlo : ∀ k, k < 314 → fa_fill (fun q => t0 V1 80 (314 * (xc g - 1) + q)) (t0 V1 76) 314 k = t0 V1 80 (314 * (xc g - 1 - 0) + k) := fun k hk => fa_fill_in hk
        have hhi : ∀ k, 314 ≤ k → fa_fill (fun q => t0 V1 80 (314 * (xc g - 1) + q)) (t0 V1 76) 314 k = t0 V1 76 k := fun k hk => fa_fill_out hk
        have hR : RM (fa_fill (fun q => t0 V1 80 (314 * (xc g - 1) + q)) (t0 V1 76) 314) (xa g 0) := z1.w z2 hlo
        have e3 : fa_fill (fun q => t0 V1 80 (314 * (xc g - 1) + q)) (t0 V1 76) 314 3 = t0 V1 76 3 := by rw [hR.1 3 (by omega), k1.1 3 (by omega), z3]
        refine ⟨?_, w0, ?_, ?_, ?_, ?_, ?_, ?_, ?_, ?_, fun j hj => ?_⟩
        · rw [va_s]; exact hR
        · rw [va_s]
          show lnW _ (xl g)
          unfold lnW
          rw [e3, hhi 314 (by omega)]
          exact k3
        · rw [va_s]; exact k4.w e3 (fun k a _ => hhi k a)
        · rw [va_n (by omega), va_s, pk_un (by omega), va_n (by omega), va_n (by omega)]; exact k5
        · rw [va_n (by omega), va_s, pk_un (by omega)]; exact k6
        · rw [va_n (by omega), va_s, pk_un (by omega)]; exact k7
        · rw [va_n (by omega), va_n (by omega)]; exact k8
        · show xc g - 1 ≤ 12
          omega
        · rw [va_n (by omega), va_s, pk_us]; rfl
        · have hj : j < xc g - 1 := hj
          rw [va_n (by omega), va_n (by omega)]
          obtain ⟨y1, y2, y3⟩ := k11 (j + 1) (by omega)
          show RM (fun q => t0 V1 80 (314 * (xc g - 1 - 1 - j) + q)) (xa g (j + 1)) ∧ WA (xa g (j + 1)) ∧ aS (xa g (j + 1)) 3 = aS (xa g 0) 3
          rw [show xc g - 1 - 1 - j = xc g - 1 - (j + 1) by omega]
          exact ⟨y1, y2, y3.trans z3.symm⟩
      · intro j hj h22
        rw [va_n (by omega), va_n h22]
        exact va_n h22
/-! ===== the image ===== -/
theorem cR_cong {F : Fa} {c c' : Nat → Int32} {i : Nat} {q : Tr} : ∀ m, (∀ k, i ≤ k → k < i + m → c' k = c k) → cR F c' i m q = cR F c i m q
  | 0, _ => rfl
  | m + 1, h => by
    show cw F (c' (i + m)) (cR F c' i m q) = cw F (c (i + m)) (cR F c i m q)
    rw [cR_cong m (fun k a b => h k a (by omega)), h (i + m) (by omega) (by omega)]
theorem LD.w {ln sz : Int32} {c c' : Nat → Int32} {L : Fa → Bool} (h : LD ln sz c L) (e : ∀ k, k < 400 → nI k < sz → c' k = c k) : LD ln sz c' L := by
  rcases h with h | ⟨n, ty, t, hl, hn, ⟨b, hb0, hsz, h400, hb⟩, rfl⟩
  · exact Or.inl h
  · have hmono : ∀ a d, a ≤ d → d ≤ n → b a ≤ b d := by
      intro a d had
      induction d with
      | zero => intro _; rw [show a = 0 by omega]; omega
      | succ d ih =>
        intro hd
        by_cases e : a = d + 1
        · rw [e]; omega
        · have := ih (by omega) (by omega)
          have := (hb d (by omega)).1
          omega
    have e2 : ∀ k, k < b n → c' k = c k := fun k hk => e k (by omega) (by rw [hsz]; exact nI_lt hk (by omega))
    refine Or.inr ⟨n, ty, t, hl, hn, ⟨b, hb0, hsz, h400, fun j hj => ?_⟩, rfl⟩
    obtain ⟨a1, a2, a3, a4⟩ := hb j hj
    have hj2 := hmono (j + 1) n (by omega) (by omega)
    refine ⟨a1, by rw [e2 _ (by omega)]; exact a2, fun k x1 x2 => by rw [e2 k (by omega)]; exact a3 k x1 x2, fun F l => ?_⟩
    rw [cR_cong (c := c) (c' := c') _ (fun k x1 x2 => e2 k (by omega))]
    exact a4 F l
theorem c_lawcopy {i j : Nat} (hi : 17 ≤ i) (hi2 : i < 20) (hj : 17 ≤ j) (hj2 : j < 20) (hij : j ≠ i) : ∃ V', fX3_copyFrom V i j = some V' ∧ V' i 1 = V j 1 ∧ V' i 2 = V j 2 ∧ (∀ k, k < 400 → nI k < V j 1 → V' (i + 52) k = V (j + 52) k) ∧ ∀ q, q ≠ i → q ≠ i + 52 → V' q = V q := by
  unfold fX3_copyFrom
  rw [q_lt, q_lt, va_n hij]
  have a1 : va_up (va_up V i (upd (V i) 1 (V j 1))) i (upd (va_up V i (upd (V i) 1 (V j 1)) i) 2 (V j 2)) i 1 = V j 1 := by rw [va_s, pk_un (by omega), va_s, pk_us]
  have a2 : va_up (va_up V i (upd (V i) 1 (V j 1))) i (upd (va_up V i (upd (V i) 1 (V j 1)) i) 2 (V j 2)) i 2 = V j 2 := by rw [va_s, pk_us]
  have a3 : ∀ q, q ≠ i → va_up (va_up V i (upd (V i) 1 (V j 1))) i (upd (va_up V i (upd (V i) 1 (V j 1)) i) 2 (V j 2)) q = V q := fun q hq => by rw [va_n hq, va_n hq]
  generalize va_up (va_up V i (upd (V i) 1 (V j 1))) i (upd (va_up V i (upd (V i) 1 (V j 1)) i) 2 (V j 2)) = V2 at a1 a2 a3 ⊢
  obtain ⟨r, e, hr1, hr2⟩ := it_forE (F := FV) (f := iX3_copyFrom_L18 i j) 400 (fun k s => ∃ V', s = (V', nI k) ∧ (∀ q, q ≠ i + 52 → V' q = V2 q) ∧ ∀ m, m < k → V' (i + 52) m = V (j + 52) m) (fun r => (∀ q, q ≠ i + 52 → r q = V2 q) ∧ ∀ m, m < 400 → nI m < V j 1 → r (i + 52) m = V (j + 52) m)
    (by
      rintro k s hk ⟨V', rfl, h1, h2⟩
      unfold iX3_copyFrom_L18 fX3_copyFrom_L18
      simp only []
      rw [h1 i (by omega), a1]
      by_cases c : V j 1 ≤ nI k
      · right
        rw [if_pos c]
        refine ⟨_, rfl, h1, fun m hm hlt => h2 m ?_⟩
        rw [fa_le, nI_toInt (by omega)] at c
        rw [fa_lt, nI_toInt (by omega)] at hlt
        omega
      · left
        rw [if_neg c, if_neg (nI_ge hk (by omega)), if_neg (nI_ge hk (by omega)), q_rd hk (by omega), q_rd hk (by omega), nI_clamp (by omega), h1 (j + 52) (by omega), a3 (j + 52) (by omega), q_lt, nI_1, q_lt]
        refine ⟨_, rfl, _, rfl, fun q hq => by rw [va_n hq]; exact h1 q hq, fun m hm => ?_⟩
        rw [va_s]
        by_cases e : m = k
        · rw [e, pk_us]
        · rw [pk_un e]; exact h2 m (by omega))
    (by
      rintro s ⟨V', rfl, h1, h2⟩
      unfold iX3_copyFrom_L18 fX3_copyFrom_L18
      simp only []
      rw [if_pos (show nI 400 ≤ nI 400 from nI_le (Nat.le_refl _) (by omega))]
      refine ⟨V', ?_, h1, fun m hm _ => h2 m hm⟩
      split <;> rfl) (by have := FV_ge; omega) (s := (V2, 0)) ⟨V2, rfl, fun _ _ => rfl, fun m hm => absurd hm (Nat.not_lt_zero _)⟩
  rw [e, q_R]
  exact ⟨r, rfl, by rw [hr1 i (by omega)]; exact a1, by rw [hr1 i (by omega)]; exact a2, hr2, fun q h1 h2 => by rw [hr1 q h2]; exact a3 q h1⟩
def imgG (g : GA) : GA := (g.1, g.2.1, g.2.2.1, g.2.2.2.1, (true, xA g, (xl g, xL g)), g.2.2.2.2.2)
def bckG (g : GA) : GA := (xi g, (xil g, xiL g), g.2.2.1, g.2.2.2.1, g.2.2.2.2.1, (0, xa g))
theorem m_img {V : VT} : it_ iX10_image_L7 FV (V, 0) = some (va_up (va_up V 77 (fa_fill (V 76) (V 77) 1151)) 22 (upd (V 22) 6 1)) := by
  have e := lq (f := iX10_image_L7) (r := va_up (va_up V 77 (fa_fill (V 76) (V 77) 1151)) 22 (upd (V 22) 6 1)) (fun k => va_up V 77 (fa_fill (V 76) (V 77) k)) (fun a k => (a, nI k)) 1151 (by omega)
    (by
      intro k hk
      unfold iX10_image_L7 fX10_image_L7
      simp only []
      rw [if_neg (show ¬ (1151 : Int32) ≤ nI k from nI_ge (b := 1151) hk (by omega)), q_rd (by omega) (by omega), q_rd (by omega) (by omega), nI_clamp (by omega), va_s, va_n (show (76 : Nat) ≠ 77 by omega), va_uu, q_lt, q_lt, nI_1, fa_fill_succ])
    (by
      unfold iX10_image_L7 fX10_image_L7
      simp only []
      rw [if_pos (show (1151 : Int32) ≤ nI 1151 from nI_le (Nat.le_refl _) (by omega)), q_zo1, va_n (show (22 : Nat) ≠ 77 by omega), q_lt])
  simp only [fa_fill_0, va_self] at e
  exact e
theorem m_bck {V : VT} : it_ iX10_back_L16 FV (V, 0) = some (1, va_up (va_up V 76 (fa_fill (V 77) (V 76) 1151)) 22 (upd (V 22) 7 0)) := by
  have e := lq (f := iX10_back_L16) (r := (1, va_up (va_up V 76 (fa_fill (V 77) (V 76) 1151)) 22 (upd (V 22) 7 0))) (fun k => va_up V 76 (fa_fill (V 77) (V 76) k)) (fun a k => (a, nI k)) 1151 (by omega)
    (by
      intro k hk
      unfold iX10_back_L16 fX10_back_L16
      simp only []
      rw [if_neg (show ¬ (1151 : Int32) ≤ nI k from nI_ge (b := 1151) hk (by omega)), q_rd (by omega) (by omega), q_rd (by omega) (by omega), nI_clamp (by omega), va_s, va_n (show (77 : Nat) ≠ 76 by omega), va_uu, q_lt, q_lt, nI_1, fa_fill_succ])
    (by
      unfold iX10_back_L16 fX10_back_L16
      simp only []
      rw [if_pos (show (1151 : Int32) ≤ nI 1151 from nI_le (Nat.le_refl _) (by omega)), va_n (show (22 : Nat) ≠ 76 by omega), q_lt, q_zo1])
  simp only [fa_fill_0, va_self] at e
  exact e
theorem op_image (hI : INV V) : ∃ V1 V2, fX9_image V = some V1 ∧ fX10_image V1 = some V2 ∧ INV V2 := by
  obtain ⟨g, hC, hM⟩ := hI
  have : OpI (fun V => ob_R (fX9_image V) fun V1 => some (0, V1)) (fun V => ob_R (fX10_image V) fun V1 => some (0, V1)) V := by
    refine op_gi (g := g) (g' := imgG g) hM 0 ?_ ?_
    · obtain ⟨h1, h2, h3, h4, h5, h6, h7, h8, h9, h10, nx, h11, h12, h13⟩ := hC
      obtain ⟨V2, e2, hR2, hq2⟩ := c_copy (i := 4) h1 h2 (by omega) (by omega) (by omega)
      obtain ⟨V4, e4, l1, l2, l3, l4⟩ := c_lawcopy (V := V2) (i := 19) (j := 17) (by omega) (by omega) (by omega) (by omega) (by omega)
      have e17 : V2 17 = V 17 := hq2 17 ⟨by omega, by omega, by omega, by omega⟩
      have e69 : V2 69 = V 69 := hq2 69 ⟨by omega, by omega, by omega, by omega⟩
      have e : ∀ q, q ≠ 0 → q ≠ 19 → q ≠ 71 → StN 4 q → va_up V4 0 (upd (V4 0) 9 1) q = V q := fun q a b c d => by rw [va_n a, l4 q b c]; exact hq2 q d
      have e0 : V4 0 = V 0 := by rw [l4 0 (by omega) (by omega)]; exact hq2 0 ⟨by omega, by omega, by omega, by omega⟩
      refine ⟨va_up V4 0 (upd (V4 0) 9 1), ?_, ?_, ?_, ?_⟩
      · show ob_R (fX9_image V) _ = _
        unfold fX9_image
        rw [e2, q_R, e4, q_R, q_zo1, q_lt, q_R]
      · refine ⟨h1.w (e _ (by omega) (by omega) (by omega) ⟨by omega, by omega, by omega, by omega⟩) (e _ (by omega) (by omega) (by omega) ⟨by omega, by omega, by omega, by omega⟩) (e _ (by omega) (by omega) (by omega) ⟨by omega, by omega, by omega, by omega⟩) (e _ (by omega) (by omega) (by omega) ⟨by omega, by omega, by omega, by omega⟩), h2, ?_, ?_, ?_, ?_, ?_, fun _ => ?_, h9, ?_, nx, h11, ?_, fun j hj => ?_⟩
        · rw [e 17 (by omega) (by omega) (by omega) ⟨by omega, by omega, by omega, by omega⟩]; exact h3
        · rw [e 17 (by omega) (by omega) (by omega) ⟨by omega, by omega, by omega, by omega⟩, e 69 (by omega) (by omega) (by omega) ⟨by omega, by omega, by omega, by omega⟩]; exact h4
        · rw [e 1 (by omega) (by omega) (by omega) ⟨by omega, by omega, by omega, by omega⟩, e 23 (by omega) (by omega) (by omega) ⟨by omega, by omega, by omega, by omega⟩]; exact h5
        · rw [va_s, pk_un (by omega), e0]; exact h6
        · rw [va_s, pk_us]; rfl
        · refine ⟨hR2.w ?_ ?_ ?_ ?_, h2, ?_, ?_⟩
          · rw [va_n (by omega)]; exact l4 4 (by omega) (by omega)
          · rw [va_n (by omega)]; exact l4 _ (by omega) (by omega)
          · rw [va_n (by omega)]; exact l4 _ (by omega) (by omega)
          · rw [va_n (by omega)]; exact l4 _ (by omega) (by omega)
          · rw [va_n (by omega), l2, e17]; exact h3
          · rw [va_n (by omega), va_n (by omega), l2, l1, e17]
            refine h4.w (fun k hk hlt => ?_)
            have := l3 k hk (by rw [e17]; exact hlt)
            rw [show 17 + 52 = 69 from rfl, e69] at this
            exact this
        · rw [e 20 (by omega) (by omega) (by omega) ⟨by omega, by omega, by omega, by omega⟩]; exact h10
        · rw [e 20 (by omega) (by omega) (by omega) ⟨by omega, by omega, by omega, by omega⟩]; exact h12
        · have hj : j < xc g := hj
          exact ⟨(h13 j hj).1.w (e _ (by omega) (by omega) (by omega) ⟨by omega, by omega, by omega, by omega⟩) (e _ (by omega) (by omega) (by omega) ⟨by omega, by omega, by omega, by omega⟩) (e _ (by omega) (by omega) (by omega) ⟨by omega, by omega, by omega, by omega⟩) (e _ (by omega) (by omega) (by omega) ⟨by omega, by omega, by omega, by omega⟩), (h13 j hj).2⟩
      · exact e 22 (by omega) (by omega) (by omega) ⟨by omega, by omega, by omega, by omega⟩
      · intro j hj
        exact e j (by omega) (by omega) (by omega) ⟨by omega, by omega, by omega, by omega⟩
    · intro V1 hM1
      obtain ⟨k1, k2, k3, k4, k5, k6, k7, k8, k9, k10, k11⟩ := hM1.m t0_m
      refine ⟨va_up (va_up (t0 V1) 77 (fa_fill (t0 V1 76) (t0 V1 77) 1151)) 22 (upd (t0 V1 22) 6 1), ?_, ?_, ?_⟩
      · show ob_R (fX10_image V1) _ = _
        unfold fX10_image
        rw [q_lt, t0_e, m_img, q_R, q_R]
      · have f76 : va_up (va_up (t0 V1) 77 (fa_fill (t0 V1 76) (t0 V1 77) 1151)) 22 (upd (t0 V1 22) 6 1) 76 = t0 V1 76 := by rw [va_n (by omega), va_n (by omega)]
        have f77 : ∀ k, k < 1151 → va_up (va_up (t0 V1) 77 (fa_fill (t0 V1 76) (t0 V1 77) 1151)) 22 (upd (t0 V1 22) 6 1) 77 k = t0 V1 76 k := fun k hk => by rw [va_n (by omega), va_s, fa_fill_in hk]
        refine ⟨by rw [f76]; exact k1, k2, by rw [f76]; exact k3, by rw [f76]; exact k4, ?_, ?_, ?_, fun _ => ⟨k1.w k2 (fun k hk => f77 k (by omega)), k2, ?_, k4.w (f77 3 (by omega)) (fun k _ hk => f77 k hk)⟩, k9, ?_, fun j hj => ?_⟩
        · rw [va_s, pk_un (by omega), va_n (by omega), va_n (by omega)]; exact k5
        · rw [va_s, pk_un (by omega)]; exact k6
        · rw [va_s, pk_us]; rfl
        · show lnW _ (xl g)
          unfold lnW
          rw [f77 3 (by omega), f77 314 (by omega)]
          exact k3
        · rw [va_s, pk_un (by omega)]; exact k10
        · rw [va_n (by omega), va_n (by omega)]; exact k11 j hj
      · intro j hj h22
        rw [va_n h22, va_n (by omega)]
        exact va_n h22
  obtain ⟨x, V1, V2, e1, e2, h⟩ := this
  obtain ⟨W1, a1, b1⟩ := ob_R_some e1
  obtain ⟨W2, a2, b2⟩ := ob_R_some e2
  cases b1
  cases b2
  exact ⟨_, _, a1, a2, h⟩
theorem op_back (hI : INV V) : OpI (fun V => fX9_back V) (fun V => fX10_back V) V := by
  obtain ⟨g, hC, hM⟩ := hI
  cases hk : xk g
  · refine op_i hC hM 0 ⟨V, ?_, Cs.rf⟩ (fun V1 hM1 => ⟨t0 V1, ?_, t0_m⟩)
    · show fX9_back V = _
      unfold fX9_back
      rw [hC.2.2.2.2.2.2.1, hk, if_pos (show bI false = 0 from rfl), q_zo0]
    · show fX10_back V1 = _
      unfold fX10_back
      rw [q_lt, t0_e, (hM1.m t0_m).2.2.2.2.2.2.1, hk, if_pos (show bI false = 0 from rfl), q_zo0]
  · refine op_gi (g := g) (g' := bckG g) hM 1 ?_ ?_
    · obtain ⟨h1, h2, h3, h4, h5, h6, h7, h8, h9, h10, nx, h11, h12, h13⟩ := hC
      obtain ⟨x1, x2, x3, x4⟩ := h8 hk
      obtain ⟨V2, e2, hR2, hq2⟩ := c_copy (i := 2) x1 x2 (by omega) (by omega) (by omega)
      obtain ⟨V4, e4, l1, l2, l3, l4⟩ := c_lawcopy (V := V2) (i := 17) (j := 19) (by omega) (by omega) (by omega) (by omega) (by omega)
      have e19 : V2 19 = V 19 := hq2 19 ⟨by omega, by omega, by omega, by omega⟩
      have e71 : V2 71 = V 71 := hq2 71 ⟨by omega, by omega, by omega, by omega⟩
      have e : ∀ q, q ≠ 20 → q ≠ 17 → q ≠ 69 → StN 2 q → va_up V4 20 (upd (V4 20) 2 0) q = V q := fun q a b c d => by rw [va_n a, l4 q b c]; exact hq2 q d
      have e20 : V4 20 = V 20 := by rw [l4 20 (by omega) (by omega)]; exact hq2 20 ⟨by omega, by omega, by omega, by omega⟩
      refine ⟨va_up V4 20 (upd (V4 20) 2 0), ?_, ?_, ?_, ?_⟩
      · show fX9_back V = _
        unfold fX9_back fX0_forget
        rw [h7, hk, if_neg (show ¬ bI true = 0 by decide), e2, q_R, e4, q_R, q_lt, q_R, q_zo1]
      · have el : LD (V4 17 2) (V4 17 1) (V4 69) (xiL g) := by
          rw [l2, l1, e19]
          refine x4.w (fun k hk hlt => ?_)
          have := l3 k hk (by rw [e19]; exact hlt)
          rw [show 19 + 52 = 71 from rfl, e71] at this
          exact this
        refine ⟨hR2.w ?_ ?_ ?_ ?_, x2, ?_, ?_, ?_, ?_, ?_, fun _ => ?_, ?_, ?_, nx, h11, ?_, fun j hj => absurd hj (Nat.not_lt_zero _)⟩
        · rw [va_n (by omega)]; exact l4 2 (by omega) (by omega)
        · rw [va_n (by omega)]; exact l4 _ (by omega) (by omega)
        · rw [va_n (by omega)]; exact l4 _ (by omega) (by omega)
        · rw [va_n (by omega)]; exact l4 _ (by omega) (by omega)
        · rw [va_n (by omega), l2, e19]; exact x3
        · rw [va_n (by omega), va_n (by omega)]; exact el
        · rw [e 1 (by omega) (by omega) (by omega) ⟨by omega, by omega, by omega, by omega⟩, e 23 (by omega) (by omega) (by omega) ⟨by omega, by omega, by omega, by omega⟩]; exact h5
        · rw [e 0 (by omega) (by omega) (by omega) ⟨by omega, by omega, by omega, by omega⟩]; exact h6
        · rw [e 0 (by omega) (by omega) (by omega) ⟨by omega, by omega, by omega, by omega⟩]; exact h7
        · refine ⟨x1.w (e _ (by omega) (by omega) (by omega) ⟨by omega, by omega, by omega, by omega⟩) (e _ (by omega) (by omega) (by omega) ⟨by omega, by omega, by omega, by omega⟩) (e _ (by omega) (by omega) (by omega) ⟨by omega, by omega, by omega, by omega⟩) (e _ (by omega) (by omega) (by omega) ⟨by omega, by omega, by omega, by omega⟩), x2, ?_, ?_⟩
          · rw [e 19 (by omega) (by omega) (by omega) ⟨by omega, by omega, by omega, by omega⟩]; exact x3
          · rw [e 19 (by omega) (by omega) (by omega) ⟨by omega, by omega, by omega, by omega⟩, e 71 (by omega) (by omega) (by omega) ⟨by omega, by omega, by omega, by omega⟩]; exact x4
        · exact Nat.zero_le _
        · rw [va_s, pk_us]; rfl
        · rw [va_s, pk_un (by omega), e20]; exact h12
      · exact e 22 (by omega) (by omega) (by omega) ⟨by omega, by omega, by omega, by omega⟩
      · intro j hj
        exact e j (by omega) (by omega) (by omega) ⟨by omega, by omega, by omega, by omega⟩
    · intro V1 hM1
      obtain ⟨k1, k2, k3, k4, k5, k6, k7, k8, k9, k10, k11⟩ := hM1.m t0_m
      obtain ⟨z1, z2, z3, z4⟩ := k8 hk
      refine ⟨va_up (va_up (t0 V1) 76 (fa_fill (t0 V1 77) (t0 V1 76) 1151)) 22 (upd (t0 V1 22) 7 0), ?_, ?_, ?_⟩
      · show fX10_back V1 = _
        unfold fX10_back
        rw [q_lt, t0_e, k7, hk, if_neg (show ¬ bI true = 0 by decide), m_bck, q_R]
      · have f76 : ∀ k, k < 1151 → va_up (va_up (t0 V1) 76 (fa_fill (t0 V1 77) (t0 V1 76) 1151)) 22 (upd (t0 V1 22) 7 0) 76 k = t0 V1 77 k := fun k hk => by rw [va_n (by omega), va_s, fa_fill_in hk]
        refine ⟨z1.w z2 (fun k hk => f76 k (by omega)), z2, ?_, z4.w (f76 3 (by omega)) (fun k _ hk => f76 k hk), ?_, ?_, ?_, fun _ => ?_, Nat.zero_le _, ?_, fun j hj => absurd hj (Nat.not_lt_zero _)⟩
        · show lnW _ (xil g)
          unfold lnW
          rw [f76 3 (by omega), f76 314 (by omega)]
          exact z3
        · rw [va_s, pk_un (by omega), va_n (by omega), va_n (by omega)]; exact k5
        · rw [va_s, pk_un (by omega)]; exact k6
        · rw [va_s, pk_un (by omega)]; exact k7
        · rw [va_n (by omega), va_n (by omega)]; exact k8 hk
        · rw [va_s, pk_us]; rfl
      · intro j hj h22
        rw [va_n h22, va_n (by omega)]
        exact va_n h22
end OP
