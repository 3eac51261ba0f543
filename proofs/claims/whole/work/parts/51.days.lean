/-! ===== a house says all that it saw ===== -/
def spk1 (A : AT) (h d : Nat) : AT := if ((aD A d 3).testBit h && !(aD A d 4).testBit h) = true then sayA A h d else A
def spkN (A : AT) (h : Nat) : Nat → AT
  | 0 => A
  | n + 1 => spk1 (spkN A h n) h n
theorem spk1_S {A : AT} {h d q : Nat} (h7 : q ≠ 7) (h8 : q ≠ 8) : aS (spk1 A h d) q = aS A q := by
  unfold spk1
  split
  · exact sayA_S h7 h8
  · rfl
theorem spkN_S {A : AT} {h q : Nat} (h7 : q ≠ 7) (h8 : q ≠ 8) : ∀ {n : Nat}, aS (spkN A h n) q = aS A q
  | 0 => rfl
  | n + 1 => (spk1_S h7 h8).trans (spkN_S h7 h8)
theorem spk1_H {A : AT} {h d : Nat} : aH (spk1 A h d) = aH A := by unfold spk1; split <;> rfl
theorem spkN_H {A : AT} {h : Nat} : ∀ {n : Nat}, aH (spkN A h n) = aH A
  | 0 => rfl
  | n + 1 => spk1_H.trans spkN_H
theorem WA.spk {A : AT} (hW : WA A) {h d : Nat} (hh : h < aS A 0) (hd : d < aS A 1) : WA (spk1 A h d) := by
  unfold spk1
  split
  · next hc =>
    refine hW.say hh hd ?_
    cases e : (aD A d 4).testBit h
    · rfl
    · rw [e] at hc; simp at hc
  · exact hW
theorem WA.spkN {A : AT} (hW : WA A) {h : Nat} (hh : h < aS A 0) : ∀ n, n ≤ aS A 1 → WA (spkN A h n)
  | 0, _ => hW
  | n + 1, hn => (hW.spkN hh n (by omega)).spk (by rw [spkN_S (by omega) (by omega)]; exact hh) (by rw [spkN_S (by omega) (by omega)]; exact hn)
section OP
variable {V : VT} {i : Nat} {A : AT} {L : Fa → Bool}
theorem c_sayAll (hC : CT V i A L) {h : Nat} (hh : h < aS A 0) : ∃ V', fX6_sayAll V i (nI h) = some V' ∧ CT V' i (spkN A h (aS A 1)) L ∧ Cd i V V' := by
  have h1 := hC.2.1.1.2.1
  have hi := hC.2.2.2
  unfold fX6_sayAll
  obtain ⟨V', e, hC', hy⟩ := lk (V := V) (f := iX6_sayAll_L2 i) (fun _ => ()) (fun V' _ k => (V', nI h, nI k)) (fun V' _ => V') (fun k V' => CT V' i (spkN A h k) L ∧ Cd i V V') (aS A 1) (by omega) ⟨hC, Cd.rf⟩
    (by
      rintro k V' hk ⟨hC', hy⟩
      have s0 : aS (spkN A h k) 0 = aS A 0 := spkN_S (by omega) (by omega)
      have s1 : aS (spkN A h k) 1 = aS A 1 := spkN_S (by omega) (by omega)
      have hk' : k < aS (spkN A h k) 1 := by rw [s1]; exact hk
      have hh' : h < aS (spkN A h k) 0 := by rw [s0]; exact hh
      unfold iX6_sayAll_L2 fX6_sayAll_L2
      simp only []
      rw [hC'.1.1.2.1, s1, if_neg (nI_ge hk (by omega)), c_hasSeen hC'.1 hC'.2.1 hh' hk', q_R, q_ifb, c_hasSaid hC'.1 hC'.2.1 hh' hk', q_R, q_ifb]
      have en : spkN A h (k + 1) = spk1 (spkN A h k) h k := rfl
      have hW2 := hC'.2.1.spk hh' hk'
      rw [en]
      unfold spk1 at hW2 ⊢
      cases b3 : (aD (spkN A h k) k 3).testBit h
      · rw [if_neg (by decide), q_lt, nI_1, if_neg (by simp)]
        exact ⟨V', rfl, hC', hy⟩
      · rw [if_pos rfl]
        cases b4 : (aD (spkN A h k) k 4).testBit h
        · rw [if_neg (by decide), if_pos (show (true && !false) = true from rfl)]
          rw [b3, b4, if_pos (show (true && !false) = true from rfl)] at hW2
          obtain ⟨V2, e2, hR2, hy2⟩ := c_addWord hC'.1 hC'.2.1 hi hh' hk'
          rw [e2, q_R, q_lt, nI_1]
          exact ⟨V2, rfl, hC'.d hy2 hR2 hW2, hy.tr hy2⟩
        · rw [if_pos rfl, q_lt, nI_1, if_neg (by decide)]
          exact ⟨V', rfl, hC', hy⟩)
    (by
      rintro V' ⟨hC', hy⟩
      unfold iX6_sayAll_L2 fX6_sayAll_L2
      simp only []
      rw [hC'.1.1.2.1, spkN_S (by omega) (by omega), if_pos (nI_le (Nat.le_refl _) (by omega))])
  have e : it_ (iX6_sayAll_L2 i) FV (V, nI h, 0) = _ := e
  rw [e, q_R]
  exact ⟨V', rfl, hC', hy⟩
theorem m_speaks (hC : MT V A L) {h : Nat} (hh : h < aS A 0) : ∃ V', fX10_speaks V (nI h) = some V' ∧ MT V' (spkN A h (aS A 1)) L ∧ Md V V' := by
  have h0 := hC.2.1.1.1
  have h1 := hC.2.1.1.2.1
  unfold fX10_speaks
  obtain ⟨V', e, hC', hy⟩ := lk (V := V) (f := iX10_speaks_L2) (fun _ => ()) (fun V' _ k => (V', nI h, nI k)) (fun V' _ => V') (fun k V' => MT V' (spkN A h k) L ∧ Md V V') (aS A 1) (by omega) ⟨hC, Md.rf⟩
    (by
      rintro k V' hk ⟨hC', hy⟩
      have s0 : aS (spkN A h k) 0 = aS A 0 := spkN_S (by omega) (by omega)
      have s1 : aS (spkN A h k) 1 = aS A 1 := spkN_S (by omega) (by omega)
      have hk' : k < aS (spkN A h k) 1 := by rw [s1]; exact hk
      have hh' : h < aS (spkN A h k) 0 := by rw [s0]; exact hh
      have hdd := hC'.2.1.2.2.1 k hk'
      unfold iX10_speaks_L2 fX10_speaks_L2
      simp only []
      have e3 : fX10_ofDeed V' (nI k) 3 = some (nI (aD (spkN A h k) k 3)) := m_ofDeed hC'.1 hC'.2.1 hk' (k := 3) (by omega) (by omega)
      have e4 : fX10_ofDeed V' (nI k) 4 = some (nI (aD (spkN A h k) k 4)) := m_ofDeed hC'.1 hC'.2.1 hk' (k := 4) (by omega) (by omega)
      rw [m_deeds hC'.1, q_R, s1, if_neg (nI_ge hk (by omega)), e3, q_R, m_has (by omega) (by omega), q_R, q_ifb, e4, q_R, m_has (by omega) (by omega), q_R, q_ifb]
      have en : spkN A h (k + 1) = spk1 (spkN A h k) h k := rfl
      have hW2 := hC'.2.1.spk hh' hk'
      rw [en]
      unfold spk1 at hW2 ⊢
      cases b3 : (aD (spkN A h k) k 3).testBit h
      · rw [if_neg (by decide), q_lt, nI_1, if_neg (by simp)]
        exact ⟨V', rfl, hC', hy⟩
      · rw [if_pos rfl]
        cases b4 : (aD (spkN A h k) k 4).testBit h
        · rw [if_neg (by decide), if_pos (show (true && !false) = true from rfl)]
          rw [b3, b4, if_pos (show (true && !false) = true from rfl)] at hW2
          obtain ⟨V2, e2, hR2, hy2⟩ := m_says hC' hh' hk'
          rw [e2, q_R, q_lt, nI_1]
          exact ⟨V2, rfl, hC'.d hy2 hR2 hW2 (sayA_S (by omega) (by omega)), hy.tr hy2⟩
        · rw [if_pos rfl, q_lt, nI_1, if_neg (by decide)]
          exact ⟨V', rfl, hC', hy⟩)
    (by
      rintro V' ⟨hC', hy⟩
      unfold iX10_speaks_L2 fX10_speaks_L2
      simp only []
      rw [m_deeds hC'.1, q_R, spkN_S (by omega) (by omega), if_pos (nI_le (Nat.le_refl _) (by omega))])
  have e : it_ iX10_speaks_L2 FV (V, nI h, 0) = _ := e
  rw [e, q_R]
  exact ⟨V', rfl, hC', hy⟩
end OP
/-! ===== draws ===== -/
theorem nx_ex : ∃ f : Int32 → Int32, ∀ z, f z = (1103515245 : Int32) * z + 12345 := ⟨_, fun _ => rfl⟩
noncomputable def nxZ : Int32 → Int32 := Classical.choose nx_ex
theorem nx_e (z : Int32) : (1103515245 : Int32) * z + 12345 = nxZ z := (Classical.choose_spec nx_ex z).symm
theorem pZ_S {A : AT} {z : Int32} : aS (pZ A z) = aS A := rfl
def dwN (z : Int32) : Nat := z.toBitVec.toNat / 65536 % 32768 % 10
theorem dwN_lt (z : Int32) : dwN z < 10 := Nat.mod_lt _ (by omega)
theorem q_r10 {k : Nat} (hk : k < 2 ^ 31) : nI k - nI k / 10 * 10 = nI (k % 10) := pk_rem hk (d := 10) (by omega) (by omega)
theorem q_d1 (z : Int32) : (z.toUInt32 >>> ((16 : Int32).toUInt32 &&& Int32.toUInt32 31)).toInt32 &&& (32767 : Int32) = nI (z.toBitVec.toNat / 65536 % 32768) := by
  rw [pk_and _ 15 (by decide), pk_ushr z 16 16 (by decide)]
theorem q_d2 (z : Int32) : (z >>> ((16 : Int32) &&& 31)) &&& (32767 : Int32) = nI (z.toBitVec.toNat / 65536 % 32768) := by
  rw [pk_and _ 15 (by decide)]
  congr 1
  apply Nat.eq_of_testBit_eq
  intro j
  have e : (z >>> ((16 : Int32) &&& 31)).toBitVec = z.toBitVec.sshiftRight 16 := by
    have : (z >>> ((16 : Int32) &&& 31)).toBitVec = z.toBitVec.sshiftRight' (((16 : Int32) &&& 31).toBitVec.smod 32) := rfl
    rw [this]
    have h2 : (((16 : Int32) &&& 31).toBitVec.smod 32) = 16#32 := by decide
    rw [h2]
    rfl
  rw [e, Nat.testBit_mod_two_pow, show (32768 : Nat) = 2 ^ 15 from rfl, Nat.testBit_mod_two_pow, show (65536 : Nat) = 2 ^ 16 from rfl, Nat.testBit_div_two_pow]
  by_cases hj : j < 15
  · simp only [hj, decide_true, Bool.true_and]
    have h1 := BitVec.getLsbD_sshiftRight (x := z.toBitVec) (s := 16) (i := j)
    rw [BitVec.testBit_toNat, h1, BitVec.testBit_toNat]
    have h2 : ¬ 32 ≤ j := by omega
    have h3 : 16 + j < 32 := by omega
    simp [h2, h3, Nat.add_comm]
    intro h
    omega
  · simp [hj]
section OP
variable {V : VT} {i : Nat} {A : AT} {L : Fa → Bool}
theorem c_draw (hC : CT V i A L) : ∃ V' y, fX6_draw V i = some (y, V') ∧ y - y / 10 * 10 = nI (dwN (nxZ (aZ A))) ∧ CT V' i (pZ A (nxZ (aZ A))) L ∧ Cd i V V' := by
  have hi := hC.2.2.2
  unfold fX6_draw
  rw [hC.1.1.2.2.2.2.2.2.2.2.1, nx_e, q_lt]
  have hd : Cd i V (va_up V i (upd (V i) 11 (nxZ (aZ A)))) := Cd.u hi (Or.inl rfl)
  refine ⟨_, _, rfl, ?_, hC.d hd (hC.1.seed hi _) (hC.2.1.seed _), hd⟩
  rw [va_s, pk_us, q_d1]
  exact q_r10 (by omega)
theorem m_drawn (hC : MT V A L) : ∃ V', fX10_drawn V 10 = some (nI (dwN (nxZ (aZ A))), V') ∧ MT V' (pZ A (nxZ (aZ A))) L ∧ Md V V' := by
  unfold fX10_drawn
  rw [q_rdl (by omega) (by omega), q_rdl (by omega) (by omega), q_cl (by omega), hC.1.2.1, nx_e, q_lt, q_rdl (by omega) (by omega), va_s]
  rw [show upd (V 76) (OfNat.ofNat 9) (nxZ (aZ A)) (OfNat.ofNat 9) = nxZ (aZ A) from pk_us, q_d2]
  have hd : Md V (va_up V 76 (upd (V 76) 9 (nxZ (aZ A)))) := Md.u (by omega)
  refine ⟨va_up V 76 (upd (V 76) 9 (nxZ (aZ A))), ?_, hC.d hd (by rw [va_s]; exact hC.1.z _) (hC.2.1.seed _) rfl, hd⟩
  unfold nz_
  rw [if_neg (by decide)]
  have := q_r10 (k := (nxZ (aZ A)).toBitVec.toNat / 65536 % 32768) (by omega)
  rw [this]
  rfl
end OP
/-! ===== a day ===== -/
noncomputable def dyH (dr : Bool) (A : AT) : Nat → AT
  | 0 => A
  | h + 1 => if aw (dyH dr A h) h = true then dyH dr A h else if dr = true then (if dwN (nxZ (aZ (dyH dr A h))) < aH (dyH dr A h) h 5 then pZ (dyH dr A h) (nxZ (aZ (dyH dr A h))) else spkN (pZ (dyH dr A h) (nxZ (aZ (dyH dr A h)))) h (aS A 1)) else spkN (dyH dr A h) h (aS A 1)
def dyE (A : AT) : AT := pS (askN A (aS A 1)) 4 (min 9999 (aS A 4 + 1))
noncomputable def dyA (L : Fa → Bool) (dr : Bool) (A : AT) : AT := dyE (dyH dr (freN L A (aS A 1)) (aS A 0))
noncomputable def calmD (L : Fa → Bool) (f : Nat) (A : AT) : AT := dyA L false (pS A 5 f)
noncomputable def drawD (L : Fa → Bool) (A : AT) : AT := dyA L true (pS (pZ A (nxZ (aZ A))) 5 (min (dwN (nxZ (aZ A))) (aS A 6)))
theorem dyH_S {dr : Bool} {A : AT} {q : Nat} (h7 : q ≠ 7) (h8 : q ≠ 8) : ∀ {n : Nat}, aS (dyH dr A n) q = aS A q
  | 0 => rfl
  | n + 1 => by
    have ih : aS (dyH dr A n) q = aS A q := dyH_S h7 h8
    unfold dyH
    split
    · exact ih
    · split
      · split
        · rw [pZ_S]; exact ih
        · rw [spkN_S h7 h8, pZ_S]; exact ih
      · rw [spkN_S h7 h8]; exact ih
theorem WA.dyh {dr : Bool} {A : AT} (hW : WA A) : ∀ n, n ≤ aS A 0 → WA (dyH dr A n)
  | 0, _ => hW
  | n + 1, hn => by
    have ih : WA (dyH dr A n) := hW.dyh n (by omega)
    have s0 : aS (dyH dr A n) 0 = aS A 0 := dyH_S (by omega) (by omega)
    have s1 : aS (dyH dr A n) 1 = aS A 1 := dyH_S (by omega) (by omega)
    unfold dyH
    split
    · exact ih
    · split
      · split
        · exact ih.seed _
        · exact (ih.seed _).spkN (h := n) (by show n < aS (dyH dr A n) 0; omega) _ (by show _ ≤ aS (dyH dr A n) 1; omega)
      · exact ih.spkN (h := n) (by omega) _ (by omega)
theorem WA.day {A : AT} (hW : WA A) {v : Nat} (hv : v ≤ 9999) : WA (pS A 4 v) := by
  obtain ⟨⟨a0, a1, a2, a3, a4, a5, a6, a7, a8⟩, b, c, d⟩ := hW
  exact ⟨⟨a0, a1, a2, a3, hv, a5, a6, a7, a8⟩, b, c, d⟩
theorem WA.dye {A : AT} (hW : WA A) : WA (dyE A) := (hW.askN _).day (by omega)
theorem WA.dya {L : Fa → Bool} {dr : Bool} {A : AT} (hW : WA A) : WA (dyA L dr A) := by
  unfold dyA
  exact (((hW.freN _ (Nat.le_refl _)).dyh _ (by rw [freN_S]; exact Nat.le_refl _))).dye
theorem dyA_S {L : Fa → Bool} {dr : Bool} {A : AT} {q : Nat} (h4 : q ≠ 4) (h7 : q ≠ 7) (h8 : q ≠ 8) : aS (dyA L dr A) q = aS A q := by
  unfold dyA dyE
  rw [aS_p, if_neg h4, askN_S, dyH_S h7 h8, freN_S]
theorem RS.day {V : VT} {i : Nat} {A : AT} (hR : RS V i A) (hi : i < 17) (f : Nat) : RS (va_up V i (upd (V i) 10 (nI f))) i (pS A 4 f) := by
  have e : ∀ k, k ≠ 10 → va_up V i (upd (V i) 10 (nI f)) i k = V i k := fun k hk => by rw [va_s, pk_un hk]
  refine ⟨⟨(e 3 (by omega)).trans hR.1.1, (e 4 (by omega)).trans hR.1.2.1, (e 5 (by omega)).trans hR.1.2.2.1, (e 6 (by omega)).trans hR.1.2.2.2.1, (e 7 (by omega)).trans hR.1.2.2.2.2.1, (e 8 (by omega)).trans hR.1.2.2.2.2.2.1, (e 9 (by omega)).trans hR.1.2.2.2.2.2.2.1, by rw [va_s, pk_us]; rfl, (e 11 (by omega)).trans hR.1.2.2.2.2.2.2.2.2.1, (e 12 (by omega)).trans hR.1.2.2.2.2.2.2.2.2.2⟩, ?_, ?_, ?_, ?_⟩
  · intro h k hh hk; rw [va_n (by omega)]; exact hR.2.1 h k hh hk
  · intro d k hd hk hk2; rw [va_n (by omega)]; exact hR.2.2.1 d k hd hk hk2
  · intro d hd; rw [va_n (by omega)]; exact hR.2.2.2.1 d hd
  · intro k hk; rw [va_n (by omega)]; exact hR.2.2.2.2 k hk
section OP
variable {V : VT} {i : Nat} {A : AT} {L : Fa → Bool}
theorem c_endDay (hC : CT V i A L) : ∃ V', fX6_endDay V i = some V' ∧ CT V' i (dyE A) L ∧ Cd i V V' := by
  have hi := hC.2.2.2
  have h4 := hC.2.1.1.2.2.2.2.1
  unfold fX6_endDay
  obtain ⟨V2, e2, hR2, hy2⟩ := c_askAnew hC.1 hC.2.1 hi
  have e10 : V2 i 10 = nI (aS A 4) := by
    have := hR2.1.2.2.2.2.2.2.2.1
    rw [askN_S] at this
    exact this
  have e6 : (if (9999 : Int32) < nI (aS A 4 + 1) then (9999 : Int32) else nI (aS A 4 + 1)) = nI (min 9999 (aS A 4 + 1)) := q_mi (a := 9999) (by omega) (by omega)
  rw [e2, q_R, e10, nI_1, e6, q_lt]
  have hd : Cd i V2 (va_up V2 i (upd (V2 i) 10 (nI (min 9999 (aS A 4 + 1))))) := Cd.u hi (Or.inl rfl)
  exact ⟨_, rfl, hC.d (hy2.tr hd) (hR2.day hi _) hC.2.1.dye, hy2.tr hd⟩
theorem c_pass25 (hC : CT V i A L) : ∃ V', it_ (iX1_pass_L25 i) FV (V, 0) = some V' ∧ CT V' i (dyE (dyH true A (aS A 0))) L ∧ Cd i V V' := by
  have h0 := hC.2.1.1.1
  have hi := hC.2.2.2
  obtain ⟨r, e, h⟩ := it_for (F := FV) (f := iX1_pass_L25 i) (aS A 0) (fun k s => ∃ V', s = (V', nI k) ∧ CT V' i (dyH true A k) L ∧ Cd i V V') (fun V' => CT V' i (dyE (dyH true A (aS A 0))) L ∧ Cd i V V')
    (by
      rintro k s hk ⟨V', rfl, hC', hy⟩
      have s0 : aS (dyH true A k) 0 = aS A 0 := dyH_S (by omega) (by omega)
      have s1 : aS (dyH true A k) 1 = aS A 1 := dyH_S (by omega) (by omega)
      have hk' : k < aS (dyH true A k) 0 := by rw [s0]; exact hk
      have hb := hC'.2.1.2.1 k hk'
      unfold iX1_pass_L25 fX1_pass_L25
      simp only []
      rw [hC'.1.1.1, s0, if_neg (nI_ge hk (by omega)), c_isAway hC'.1 hC'.2.1 hk', q_R, q_ifb]
      have en : dyH true A (k + 1) = if aw (dyH true A k) k = true then dyH true A k else if true = true then (if dwN (nxZ (aZ (dyH true A k))) < aH (dyH true A k) k 5 then pZ (dyH true A k) (nxZ (aZ (dyH true A k))) else spkN (pZ (dyH true A k) (nxZ (aZ (dyH true A k)))) k (aS A 1)) else spkN (dyH true A k) k (aS A 1) := rfl
      rw [en]
      cases aw (dyH true A k) k
      · rw [if_neg (by decide), if_neg (by decide), if_pos rfl]
        obtain ⟨V2, y, e2, ey, hC2, hy2⟩ := c_draw hC'
        have e5 : fX6_ofHouse V2 i (nI k) 5 = some (nI (aH (dyH true A k) k 5)) := c_ofHouse hC2.1 hC2.2.1 (h := k) hk' (k := 5) (by omega)
        have hdw := dwN_lt (nxZ (aZ (dyH true A k)))
        rw [e2, q_I, e5, q_R, ey]
        by_cases hc : dwN (nxZ (aZ (dyH true A k))) < aH (dyH true A k) k 5
        · rw [if_pos (nI_lt hc (by omega)), if_pos hc, q_lt, nI_1]
          exact ⟨_, rfl, V2, rfl, hC2, hy.tr hy2⟩
        · rw [if_neg (nI_nlt (by omega) (by omega)), if_neg hc]
          obtain ⟨V3, e3, hC3, hy3⟩ := c_sayAll hC2 (h := k) hk'
          have hC3 : CT V3 i (spkN (pZ (dyH true A k) (nxZ (aZ (dyH true A k)))) k (aS (dyH true A k) 1)) L := hC3
          rw [s1] at hC3
          rw [e3, q_R, q_lt, nI_1]
          exact ⟨_, rfl, V3, rfl, hC3, (hy.tr hy2).tr hy3⟩
      · rw [if_pos rfl, if_pos rfl, q_lt, nI_1]
        exact ⟨_, rfl, V', rfl, hC', hy⟩)
    (by
      rintro s ⟨V', rfl, hC', hy⟩
      obtain ⟨V2, e2, hC2, hy2⟩ := c_endDay hC'
      have s0 : aS (dyH true A (aS A 0)) 0 = aS A 0 := dyH_S (by omega) (by omega)
      unfold iX1_pass_L25 fX1_pass_L25
      simp only []
      rw [hC'.1.1.1, s0, if_pos (nI_le (Nat.le_refl _) (by omega)), e2, q_R]
      exact ⟨_, rfl, hC2, hy.tr hy2⟩) (by have := FV_ge; omega) (s := (V, 0)) ⟨V, rfl, hC, Cd.rf⟩
  exact ⟨r, e, h⟩
theorem c_pass12 (hC : CT V i A L) : ∃ V', it_ (iX1_passTold_L12 i) FV (V, 0) = some V' ∧ CT V' i (dyE (dyH false A (aS A 0))) L ∧ Cd i V V' := by
  have h0 := hC.2.1.1.1
  have hi := hC.2.2.2
  obtain ⟨r, e, h⟩ := it_for (F := FV) (f := iX1_passTold_L12 i) (aS A 0) (fun k s => ∃ V', s = (V', nI k) ∧ CT V' i (dyH false A k) L ∧ Cd i V V') (fun V' => CT V' i (dyE (dyH false A (aS A 0))) L ∧ Cd i V V')
    (by
      rintro k s hk ⟨V', rfl, hC', hy⟩
      have s0 : aS (dyH false A k) 0 = aS A 0 := dyH_S (by omega) (by omega)
      have s1 : aS (dyH false A k) 1 = aS A 1 := dyH_S (by omega) (by omega)
      have hk' : k < aS (dyH false A k) 0 := by rw [s0]; exact hk
      unfold iX1_passTold_L12 fX1_passTold_L12
      simp only []
      rw [hC'.1.1.1, s0, if_neg (nI_ge hk (by omega)), c_isAway hC'.1 hC'.2.1 hk', q_R, q_ifb]
      have en : dyH false A (k + 1) = if aw (dyH false A k) k = true then dyH false A k else spkN (dyH false A k) k (aS A 1) := rfl
      rw [en]
      cases aw (dyH false A k) k
      · rw [if_neg (by decide), if_neg (by decide)]
        obtain ⟨V3, e3, hC3, hy3⟩ := c_sayAll hC' hk'
        rw [s1] at hC3
        rw [e3, q_R, q_lt, nI_1]
        exact ⟨_, rfl, V3, rfl, hC3, hy.tr hy3⟩
      · rw [if_pos rfl, if_pos rfl, q_lt, nI_1]
        exact ⟨_, rfl, V', rfl, hC', hy⟩)
    (by
      rintro s ⟨V', rfl, hC', hy⟩
      obtain ⟨V2, e2, hC2, hy2⟩ := c_endDay hC'
      have s0 : aS (dyH false A (aS A 0)) 0 = aS A 0 := dyH_S (by omega) (by omega)
      unfold iX1_passTold_L12 fX1_passTold_L12
      simp only []
      rw [hC'.1.1.1, s0, if_pos (nI_le (Nat.le_refl _) (by omega)), e2, q_R]
      exact ⟨_, rfl, hC2, hy.tr hy2⟩) (by have := FV_ge; omega) (s := (V, 0)) ⟨V, rfl, hC, Cd.rf⟩
  exact ⟨r, e, h⟩
theorem c_passTold (hC : CT V i A L) {f : Nat} (hf : f ≤ 9) : ∃ V', fX1_passTold V i (nI f) = some V' ∧ CT V' i (calmD L f A) L ∧ Cd i V V' := by
  have hi := hC.2.2.2
  unfold fX1_passTold
  rw [q_lt]
  have hd : Cd i V (va_up V i (upd (V i) 8 (nI f))) := Cd.u hi (Or.inl rfl)
  have hC1 := hC.d hd (hC.1.fog hi f) (hC.2.1.fog hf)
  obtain ⟨V3, e3, hC3, hy3⟩ := c_free hC1
  obtain ⟨V4, e4, hC4, hy4⟩ := c_pass12 hC3
  rw [e3, q_R, e4, q_R]
  refine ⟨V4, rfl, ?_, (hd.tr hy3).tr hy4⟩
  rw [freN_S] at hC4
  exact hC4
theorem c_pass (hC : CT V i A L) : ∃ V', fX1_pass V i = some V' ∧ CT V' i (drawD L A) L ∧ Cd i V V' := by
  have hi := hC.2.2.2
  have h6 := hC.2.1.1.2.2.2.2.2.2.1
  unfold fX1_pass
  obtain ⟨V2, y, e2, ey, hC2, hy2⟩ := c_draw hC
  have hdw := dwN_lt (nxZ (aZ A))
  have e9 : V2 i 9 = nI (aS A 6) := hC2.1.1.2.2.2.2.2.2.1
  rw [e2, q_I, e9, ey, q_mi (by omega) (by omega), Nat.min_comm, q_lt]
  have hd : Cd i V2 (va_up V2 i (upd (V2 i) 8 (nI (min (dwN (nxZ (aZ A))) (aS A 6))))) := Cd.u hi (Or.inl rfl)
  have hC1 := hC2.d hd (hC2.1.fog hi _) (hC2.2.1.fog (f := min (dwN (nxZ (aZ A))) (aS A 6)) (by omega))
  obtain ⟨V3, e3, hC3, hy3⟩ := c_free hC1
  obtain ⟨V4, e4, hC4, hy4⟩ := c_pass25 hC3
  rw [e3, q_R, e4, q_R]
  refine ⟨V4, rfl, ?_, ((hy2.tr hd).tr hy3).tr hy4⟩
  rw [freN_S] at hC4
  exact hC4
theorem m_one39 (hC : MT V A L) (dr : Bool) : ∃ V', it_ iX10_oneDay_L39 FV (V, bI (!dr), 0) = some V' ∧ MT V' (dyH dr A (aS A 0)) L ∧ Md V V' := by
  have h0 := hC.2.1.1.1
  exact lk (V := V) (f := iX10_oneDay_L39) (fun _ => ()) (fun V' _ k => (V', bI (!dr), nI k)) (fun V' _ => V') (fun k V' => MT V' (dyH dr A k) L ∧ Md V V') (aS A 0) (by omega) ⟨hC, Md.rf⟩
    (by
      rintro k V' hk ⟨hC', hy⟩
      have s0 : aS (dyH dr A k) 0 = aS A 0 := dyH_S (by omega) (by omega)
      have s1 : aS (dyH dr A k) 1 = aS A 1 := dyH_S (by omega) (by omega)
      have hk' : k < aS (dyH dr A k) 0 := by rw [s0]; exact hk
      have hb := hC'.2.1.2.1 k hk'
      have e7 : fX10_of V' (nI k) 7 = some (nI (aH (dyH dr A k) k 7)) := m_of hC'.1 hC'.2.1 hk' (k := 7) (by omega)
      unfold iX10_oneDay_L39 fX10_oneDay_L39
      simp only []
      rw [m_houses hC'.1, q_R, s0, if_neg (nI_ge hk (by omega)), e7, q_R]
      have en : dyH dr A (k + 1) = if aw (dyH dr A k) k = true then dyH dr A k else if dr = true then (if dwN (nxZ (aZ (dyH dr A k))) < aH (dyH dr A k) k 5 then pZ (dyH dr A k) (nxZ (aZ (dyH dr A k))) else spkN (pZ (dyH dr A k) (nxZ (aZ (dyH dr A k)))) k (aS A 1)) else spkN (dyH dr A k) k (aS A 1) := rfl
      rw [en]
      by_cases h7 : aH (dyH dr A k) k 7 = 1
      · rw [if_neg (nI_ne0 (by omega) (by omega)), if_pos (show aw (dyH dr A k) k = true from decide_eq_true h7), q_lt, nI_1]
        exact ⟨V', rfl, hC', hy⟩
      · rw [show aH (dyH dr A k) k 7 = 0 by omega, if_pos (show nI 0 = 0 from rfl), if_neg (show ¬ aw (dyH dr A k) k = true from fun e => h7 (of_decide_eq_true e))]
        cases dr
        · rw [if_neg (show ¬ bI (!false) = 0 by decide), if_neg (show ¬ false = true by decide)]
          obtain ⟨V3, e3, hC3, hy3⟩ := m_speaks hC' hk'
          rw [s1] at hC3
          rw [e3, q_R, q_lt, nI_1]
          exact ⟨V3, rfl, hC3, hy.tr hy3⟩
        · rw [if_pos (show bI (!true) = 0 from rfl), if_pos (show true = true from rfl)]
          obtain ⟨V2, e2, hC2, hy2⟩ := m_drawn hC'
          have e5 : fX10_of V2 (nI k) 5 = some (nI (aH (dyH true A k) k 5)) := m_of hC2.1 hC2.2.1 (h := k) hk' (k := 5) (by omega)
          have hdw := dwN_lt (nxZ (aZ (dyH true A k)))
          rw [e2, q_I, e5, q_R]
          by_cases hc : dwN (nxZ (aZ (dyH true A k))) < aH (dyH true A k) k 5
          · rw [if_pos (nI_lt hc (by omega)), if_pos hc, q_lt, nI_1]
            exact ⟨V2, rfl, hC2, hy.tr hy2⟩
          · rw [if_neg (nI_nlt (by omega) (by omega)), if_neg hc]
            obtain ⟨V3, e3, hC3, hy3⟩ := m_speaks hC2 (h := k) hk'
            have hC3 : MT V3 (spkN (pZ (dyH true A k) (nxZ (aZ (dyH true A k)))) k (aS (dyH true A k) 1)) L := hC3
            rw [s1] at hC3
            rw [e3, q_R, q_lt, nI_1]
            exact ⟨V3, rfl, hC3, (hy.tr hy2).tr hy3⟩)
    (by
      rintro V' ⟨hC', hy⟩
      have s0 : aS (dyH dr A (aS A 0)) 0 = aS A 0 := dyH_S (by omega) (by omega)
      unfold iX10_oneDay_L39 fX10_oneDay_L39
      simp only []
      rw [m_houses hC'.1, q_R, s0, if_pos (nI_le (Nat.le_refl _) (by omega))])
theorem m_oneDay (hC : MT V A L) (dr : Bool) : ∃ V', fX10_oneDay V (bI (!dr)) = some V' ∧ MT V' (dyA L dr A) L ∧ Md V V' := by
  have h4 := hC.2.1.1.2.2.2.2.1
  unfold fX10_oneDay
  obtain ⟨V2, e2, hC2, hy2⟩ := m_free (x := bI (!dr)) hC
  rw [e2, q_R]
  simp only [dt2_]
  obtain ⟨V3, e3, hC3, hy3⟩ := m_one39 hC2 dr
  rw [e3, q_R, q_lt]
  obtain ⟨V4, e4, hR4, hy4⟩ := m_asks hC3
  rw [freN_S] at hC3 hR4
  have e10 : V4 76 4 = nI (aS A 4) := by
    have := hR4.1 4 (by omega)
    rw [askN_S, dyH_S (by omega) (by omega), freN_S] at this
    exact this
  have e6 : (if nI (aS A 4 + 1) < (9999 : Int32) then nI (aS A 4 + 1) else (9999 : Int32)) = nI (min (aS A 4 + 1) 9999) := q_mi (b := 9999) (by omega) (by omega)
  rw [e4, q_R, q_rdl (by omega) (by omega), q_rdl (by omega) (by omega), q_cl (by omega), e10, nI_1, e6, Nat.min_comm, q_lt]
  have hd : Md V4 (va_up V4 76 (upd (V4 76) 4 (nI (min 9999 (aS A 4 + 1))))) := Md.u (by omega)
  refine ⟨_, rfl, ?_, ((hy2.tr hy3).tr hy4).tr hd⟩
  refine hC.d (((hy2.tr hy3).tr hy4).tr hd) ?_ hC.2.1.dya (dyA_S (by omega) (by omega) (by omega))
  rw [va_s]
  have := hR4.s (k := 4) (v := min 9999 (aS A 4 + 1)) (by omega) (by omega) (by omega) (by omega)
  unfold dyA dyE
  rw [show aS (dyH dr (freN L A (aS A 1)) (aS A 0)) 4 = aS A 4 from (dyH_S (by omega) (by omega)).trans (by rw [freN_S])]
  exact this
theorem m_calmDay (hC : MT V A L) {f : Nat} (hf : f ≤ 9) : ∃ V', fX10_calmDay V (nI f) = some V' ∧ MT V' (calmD L f A) L ∧ Md V V' := by
  unfold fX10_calmDay
  rw [q_rdl (by omega) (by omega), q_cl (by omega), q_lt]
  have hd : Md V (va_up V 76 (upd (V 76) 5 (nI f))) := Md.u (by omega)
  have hC1 := hC.d hd (by rw [va_s]; exact hC.1.s (by omega) (by omega) (by omega) (by omega)) (hC.2.1.fog hf) rfl
  obtain ⟨V3, e3, hC3, hy3⟩ := m_oneDay hC1 false
  have e3 : fX10_oneDay (va_up V 76 (upd (V 76) (OfNat.ofNat 5) (nI f))) 1 = some V3 := e3
  rw [e3, q_R]
  exact ⟨V3, rfl, hC3, hd.tr hy3⟩
theorem m_drawnDay (hC : MT V A L) : ∃ V', fX10_drawnDay V = some V' ∧ MT V' (drawD L A) L ∧ Md V V' := by
  have h6 := hC.2.1.1.2.2.2.2.2.2.1
  unfold fX10_drawnDay
  obtain ⟨V2, e2, hC2, hy2⟩ := m_drawn hC
  have hdw := dwN_lt (nxZ (aZ A))
  rw [q_rdl (by omega) (by omega), e2, q_I, q_rdl (by omega) (by omega), q_cl (by omega), show V 76 (6 : Int32).toNatClampNeg = nI (aS A 6) from hC.1.1 6 (by omega), q_mi (by omega) (by omega), q_lt]
  have hd : Md V2 (va_up V2 76 (upd (V2 76) 5 (nI (min (dwN (nxZ (aZ A))) (aS A 6))))) := Md.u (by omega)
  have hC1 := hC2.d hd (by rw [va_s]; exact hC2.1.s (by omega) (by omega) (by omega) (by omega)) (hC2.2.1.fog (f := min (dwN (nxZ (aZ A))) (aS A 6)) (by omega)) rfl
  obtain ⟨V3, e3, hC3, hy3⟩ := m_oneDay hC1 true
  have e3 : fX10_oneDay (va_up V2 76 (upd (V2 76) (OfNat.ofNat 5) (nI (min (dwN (nxZ (aZ A))) (aS A 6))))) 0 = some V3 := e3
  rw [e3, q_R]
  exact ⟨V3, rfl, hC3, (hy2.tr hd).tr hy3⟩
end OP
