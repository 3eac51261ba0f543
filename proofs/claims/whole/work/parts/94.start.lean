/-! ===== the law from its entry (by program mk_start.py) ===== -/
theorem dL_law__0 : decode cL_law_ 0 = .ok (.new 8, 3) := by decide +kernel
theorem dL_law__3 : decode cL_law_ 3 = .ok (.dup, 1) := by decide +kernel
theorem dL_law__4 : decode cL_law_ 4 = .ok (.invokespecial 121, 3) := by decide +kernel
theorem dL_law__7 : decode cL_law_ 7 = .ok (.astore_n 1, 1) := by decide +kernel
theorem dL_law__8 : decode cL_law_ 8 = .ok (.new 122, 3) := by decide +kernel
theorem dL_law__11 : decode cL_law_ 11 = .ok (.dup, 1) := by decide +kernel
theorem dL_law__12 : decode cL_law_ 12 = .ok (.invokespecial 124, 3) := by decide +kernel
theorem dL_law__15 : decode cL_law_ 15 = .ok (.astore_n 2, 1) := by decide +kernel
theorem dL_law__16 : decode cL_law_ 16 = .ok (.iconst 1, 1) := by decide +kernel
theorem dL_law__17 : decode cL_law_ 17 = .ok (.newarray .long, 2) := by decide +kernel
theorem dL_law__19 : decode cL_law_ 19 = .ok (.astore_n 3, 1) := by decide +kernel
theorem dL_law__20 : decode cL_law_ 20 = .ok (.iconst 0, 1) := by decide +kernel
theorem dL_law__21 : decode cL_law_ 21 = .ok (.istore 4, 2) := by decide +kernel
set_option maxHeartbeats 4000000 in
set_option maxRecDepth 100000 in
theorem whole_start {p : Program} {e : Env} {s : State} {m : MethodId} {below : List Frame} {meth : Method} {c : Code} (l : Launch) (hlt : l.stackTraces = false) {b L : Nat} {xs : Nat → Int32} (hL : L ≤ 3072) (C0 : lw_At p s m meth c b L xs) : W p l e room_1 s m #[Value.ref b] below meth c s.heap [] 0 0 (lw_Z below #[Value.ref b] s) (entryFrame m ([Value.ref b] : List Value).toArray 7) := by
  obtain ⟨hx, hb, hr, hml, hown, hts, hX, hbl, hlocks, hgv⟩ := id C0
  have hA : ∀ q : Nat, s.heap.size ≤ q → (fun q : Nat => s.heap.size ≤ q) q := fun _ h => h
  have hT : TB s := st_TB hts
  obtain ⟨D, cy, hK⟩ := st_K hts
  have hO : va_AO "AllSawIt$State" s := va_AO.of (hts _ ao_St)
  have hnw : narrow_1.before #[Value.ref b] s = true := by
    rw [Cond.before_and, Bool.and_eq_true] at hgv
    exact hgv.2
  obtain ⟨Z, hZ⟩ := st_SH (A := fun q : Nat => s.heap.size ≤ q) (flat_of_before _ hnw) hts (fun a h1 h2 => absurd h2 (Nat.not_le.mpr h1))
  have hS : va_S (fun q : Nat => s.heap.size ≤ q) s.heap s.heap [] := va_S.rf
  have hP : va_P D vwCl [] s.heap := fun k q h => by simp at h
  have hD : va_D (fun q : Nat => s.heap.size ≤ q) [] := ⟨fun i j p q h => by simp at h, fun k q h => by simp at h⟩
  have hl := lv_entry ([.ref b]) (n := 7) (Nat.le_of_ble_eq_true rfl)
  rw [lg_entry_eq]
  generalize (lg_sl ([.ref b]) ++ List.replicate (7 - (lg_sl ([.ref b])).length) Slot.unset).toArray = ls at hl ⊢
  have hl : lv_has ls 7 [(0, .ref b)] := hl
  refine va_new (ci := 5) (fs := [.null, .null, .null, .null, .null, .null, .null, .null, .null, .int 0, .int 0]) (C := RX9) (T := TX9) (N := 11) (Ts := u_ws RX9 TX9 11) hx hb (fun w h => hT.at (iw_9 w h).1 (iw_9 w h).2 _) (fun _ h => h) tyX9 tyX9_ok hown (hT.at ln_RL_8 rfl _) (hT.at ni_9.1 rfl _) (hT.at ni_9.2 rfl _) hK hP hD hS hA rfl (by decide +kernel) (by decide) (by decide) dL_law__0 (fun h0 H hP hD hS => ?_)
  have hP : va_P D vwCl [(h0, .inr (5, [.null, .null, .null, .null, .null, .null, .null, .null, .null, .int 0, .int 0]))] H := hP
  have hD : va_D (fun q : Nat => s.heap.size ≤ q) [(h0, .inr (5, [.null, .null, .null, .null, .null, .null, .null, .null, .null, .int 0, .int 0]))] := hD
  refine W.widen (k := 1) (n := 11) (by decide) (by decide) ?_
  refine lv_dup hx hb dL_law__3 rfl ?_
  refine n_callL (wc := [(h0, .inr (5, [.null, .null, .null, .null, .null, .null, .null, .null, .null, .int 0, .int 0]))]) (wr := []) hx hb hml hown hT hK hO hP hD hS hA (kX9_init (l := l) (D := D) (cy := cy) h0) yi_X9_init.1 yi_X9_init.2.1 yi_X9_init.2.2 li_RL_121 ⟨by decide, by decide, by decide +kernel⟩ rfl rfl [0] [] rfl rfl (by decide) (by decide) hl.1 (by decide) (by decide) (Nat.le_of_ble_eq_true rfl) dL_law__4 (by decide) (fun ad H locs hP hD hS => ?_)
  have hP : va_P D vwCl (mX9_init cy h0 ad) H := hP
  have hD : va_D (fun q : Nat => s.heap.size ≤ q) (mX9_init cy h0 ad) := hD
  refine lv_astore_n (lv' := [(1, .ref h0), (0, .ref b)]) hx hb dL_law__7 rfl hl (by decide) rfl (fun ls hl => ?_)
  refine va_new (ci := 6) (fs := [.int 0, .null, .null, .null, .null, .null, .int 0, .int 0, .null, .int 0, .int 0, .int 0, .int 0, .int 0, .int 0, .null, .int 0, .null, .int 0, .int 0, .int 0, .int 0, .int 0, .int 0, .int 0, .null, .null, .null, .null]) (C := RX10) (T := TX10) (N := 29) (Ts := u_ws RX10 TX10 29) hx hb (fun w h => hT.at (iw_10 w h).1 (iw_10 w h).2 _) (fun _ h => h) tyX10 tyX10_ok hown (hT.at ln_RL_122 rfl _) (hT.at ni_10.1 rfl _) (hT.at ni_10.2 rfl _) hK hP hD hS hA rfl (by decide +kernel) (by decide) (by decide) dL_law__8 (fun h1 H hP hD hS => ?_)
  refine W.widen (k := 76) (n := 4435) (by decide) (by decide) ?_
  refine lv_dup hx hb dL_law__11 rfl ?_
  refine n_callL (wc := [(h1, .inr (6, [.int 0, .null, .null, .null, .null, .null, .int 0, .int 0, .null, .int 0, .int 0, .int 0, .int 0, .int 0, .int 0, .null, .int 0, .null, .int 0, .int 0, .int 0, .int 0, .int 0, .int 0, .int 0, .null, .null, .null, .null]))]) (wr := mX9_init cy h0 ad) hx hb hml hown hT hK hO hP hD hS hA (kX10_init (l := l) (D := D) (cy := cy) h1) yi_X10_init.1 yi_X10_init.2.1 yi_X10_init.2.2 li_RL_124 ⟨by decide, by decide, by decide +kernel⟩ rfl rfl [75] [0, 1, 2, 3, 4, 5, 6, 7, 8, 9, 10, 11, 12, 13, 14, 15, 16, 17, 18, 19, 20, 21, 22, 23, 24, 25, 26, 27, 28, 29, 30, 31, 32, 33, 34, 35, 36, 37, 38, 39, 40, 41, 42, 43, 44, 45, 46, 47, 48, 49, 50, 51, 52, 53, 54, 55, 56, 57, 58, 59, 60, 61, 62, 63, 64, 65, 66, 67, 68, 69, 70, 71, 72, 73, 74] rfl rfl (by decide) (by decide) hl.1 (by decide) (by decide) (Nat.le_of_ble_eq_true rfl) dL_law__12 (by decide) (fun ae H locs hP hD hS => ?_)
  refine lv_astore_n (lv' := [(2, .ref h1), (1, .ref h0), (0, .ref b)]) hx hb dL_law__15 rfl hl (by decide) rfl (fun ls hl => ?_)
  refine lv_iconst (v := 1) hx hb dL_law__16 (by decide) ?_
  refine n_arr (atype := .long) (ty := .long) (N' := 1) (a0 := (1, .inr (.inl (fun _ => 0)))) hx hb hT ac_long rfl hK hP hD hS hA 4 rfl pr_long (fun cA => rfl) (by decide) (by decide) (by decide) (by decide) (by decide) dL_law__17 (fun oa H hP hD hS => ?_)
  have hP : va_P D vwCl (big cy h0 ad h1 ae oa) H := hP
  have hD : va_D (fun q : Nat => s.heap.size ≤ q) (big cy h0 ad h1 ae oa) := hD
  refine lv_astore_n (lv' := [(3, .ref oa), (2, .ref h1), (1, .ref h0), (0, .ref b)]) hx hb dL_law__19 rfl hl (by decide) rfl (fun ls hl => ?_)
  refine lv_iconst (v := 0) hx hb dL_law__20 (by decide) ?_
  refine lv_istore (lv' := [(4, .int 0), (3, .ref oa), (2, .ref h1), (1, .ref h0), (0, .ref b)]) hx hb dL_law__21 hl (by decide) rfl (fun ls hl => ?_)
  have hPo := wo_P0 hP
  have hDo : va_D (fun q : Nat => s.heap.size ≤ q) (wo (g0_ D cy h0 ad h1 ae) v0 oa (fun _ => 0)) := wo_D0 hD
  have hG : ∀ i, i < 88 → s.heap.size ≤ (g0_ D cy h0 ad h1 ae).2.2 i := fun i hi => hDo.2 i _ (by rw [wo_lo hi]; exact wl_get _ _ hi)
  have ho : s.heap.size ≤ oa := hDo.2 88 _ wo_hi
  have hgo : ∀ q, gO (g0_ D cy h0 ad h1 ae) oa s.heap.size q → s.heap.size ≤ q := fun q h => by
    rcases h with (⟨i, h3, h4⟩ | h3) | h3
    · rw [h4]; exact hG i h3
    · exact h3
    · rw [h3]; exact ho
  have hwo : HO (g0_ D cy h0 ad h1 ae) oa s.heap v0 (fun _ => 0) H locs := ⟨hPo, wo_Dg hDo, hS.1, fun q h1 h2 => hS.2.1 q h1 (Nat.not_le.mpr h1), fun q hq => Or.inl (Or.inr (hS.2.2 q hq))⟩
  exact lw_loop (G := g0_ D cy h0 ad h1 ae) (Z := Z) (oa := oa) ⟨hx, hb, hml, hown, hT, hK, hlocks, (SH_ok Z).2.2 _ _ _ _ hZ hgo, SH_ok Z, hr⟩ hlt hX hbl (fun h => absurd (hgo b h) (Nat.not_le.mpr hbl)) hL hG ho 513 0 v0 _ H locs ls _ _ (by omega) (Nat.zero_le _) inv0 hwo (lv_sub hl [4, 3, 2, 1, 0] rfl) (by omega) (by omega)
set_option maxHeartbeats 4000000 in
theorem lw_walk (l : Launch) (hlt : l.stackTraces = false) (b : Addr) (xs : List Int32) : MetFree l x (headSpec (Jvm.Cond.code x code maxLocals ret :: tables_1) room_1) (lw_P b xs) (fun _ _ _ _ _ => True) lw_Q := by
  refine MetFree.of_bodyS (code := code) (maxLocals := maxLocals) (ret := ret) (by decide) ?_ ?_
  · intro args s m h hn
    obtain ⟨meth, c, h1, h2, h3, h4, h5, h6, -, -⟩ := Cond.code_spec hn (atoms_spec (ws := Jvm.Cond.code x code maxLocals ret :: tables_1) h _ List.mem_cons_self)
    exact ⟨meth, c, h1, h2, h3, h4, h5, h6⟩
  · intro p e s m args below meth c s₁ B hml0 hP _
    obtain ⟨rfl, hx, hbd, hgv⟩ := hP
    obtain ⟨scr, harrAt, hlist, hof, hsmall⟩ := hx
    obtain ⟨hcb, hkn, -, -⟩ := State.arrayAt?_spec harrAt
    have hown : s.vm.findClass R_law = some m.cls := findClass_of_methodNamed B.named
    have hts0 : ∀ c ∈ (Jvm.Cond.code x code maxLocals ret :: tables_1), c.before #[Value.ref b] s = true := atoms_spec (ws := Jvm.Cond.code x code maxLocals ret :: tables_1) B.pre
    have hts : ∀ w ∈ lw_tbl, w.before #[Value.ref b] s = true := k2_hts_sels lw_privs (fun w hw => hts0 w (List.mem_cons_of_mem _ hw)) lw_privs_ok
    have hml : c.maxLocals = 7 := B.maxLocals_eq (hts0 _ List.mem_cons_self)
    have X₀ : Stand p l e room_1 s m #[Value.ref b] below meth c s₁ [] 0 0 := Stand.of_body B
    have hh0 : s₁.heap = s.heap := by rw [B.state]; rfl
    have hsz : scr.slots.size = xs.length := by rw [← Array.length_toList, hlist, List.length_map]
    have hval : ∀ j : Nat, j < xs.length → scr.slots[j]? = some (.int (xs.getD j 0)) := fun j hj => by
      rw [← Array.getElem?_toList, hlist]
      simp [hj]
    have hbl : b < s.heap.size := (Array.getElem?_eq_some_iff.mp hcb).1
    have hX : va_X b xs.length (fun j => xs.getD j 0) s s.heap := ⟨scr, hcb, hof, hkn, hsz, hval⟩
    have K : W p l e room_1 s m #[Value.ref b] below meth c s₁.heap [] 0 0 (lw_Z below #[Value.ref b] s) (entryFrame m ([Value.ref b] : List Value).toArray 7) := by
      rw [hh0]
      exact whole_start l hlt hbd ⟨B.exec, B.bytes, B.returns, hml, hown, hts, hX, hbl, B.notSynchronized, hgv⟩
    obtain ⟨t, a1, o, b1, b2, b3⟩ := K s₁ rfl X₀
    exact ⟨t, o, a1, b1, b2, b3⟩
theorem lw_pre_spec {args : Array Value} {s : State} (h : (Jvm.Cond.and given_1 narrow_1).before args s = true) (hr : rest_1_c.before args s = true) : ∃ (b : Addr) (xs : List Int32), lw_P b xs args s := by
  have hs := flat_of_before _ h
  have hq := flat_of_before _ hr
  have hc : (Cond.count 1).before args s = true := hs _ (by decide +kernel)
  have harr : (Cond.arrayOf (.arg 0) .int).before args s = true := hs _ (by decide +kernel)
  have hle : (Cond.le (.length (.arg 0)) (.int 3072)).before args s = true := hs _ (by decide +kernel)
  have hlen : (Cond.isInt (.length (.arg 0))).before args s = true := hq _ (by decide +kernel)
  have hall : (Cond.all (.arg 0) (.isInt (.elem (.arg 0) (.index 0)))).before args s = true := hq _ (by decide +kernel)
  obtain ⟨b, xs, hb, hx⟩ := State.ints_of_pre rfl harr hlen hall
  have hsm : xs.length < 2 ^ 31 := hx.choose_spec.2.2.2
  have hev : (Term.length (.arg 0)).eval args s none [] s = some (.int xs.length.toInt32) := hx.length_eval hb
  have hv := Cond.le_ints hev (show (Term.int 3072).eval args s none [] s = some (.int 3072) from rfl)
  have hd : xs.length.toInt32 ≤ 3072 := by
    simpa [Cond.before, Cond.holds, hv] using hle
  have hN : xs.length ≤ 3072 := (Int32.ofNat_le_ofNat hsm (by decide)).mp (show Int32.ofNat xs.length ≤ Int32.ofNat 3072 from hd)
  exact ⟨b, xs, Cond.one_arg hc (show args[0]? = some (.ref b) from hb), hx, hN, h⟩
theorem lw_comes (l : Launch) (hlt : l.stackTraces = false) : Comes l x (Jvm.Cond.code x code maxLocals ret :: tables_1) room_1 (fun tb e args s => Calls_1 tb e args s ∧ rest_1 tb e args s ∧ Pre_1 tb e args s)
    (fun _ _ args s o t => lw_Q args s o t) := by
  intro p e ha hc hk s m args below hf hfit hheap happ hpre
  obtain ⟨b, xs, hP⟩ := lw_pre_spec hpre.2.2 hpre.2.1
  obtain ⟨k, o, h1, h2, h3, hQ⟩ := lw_walk l hlt b xs p e ha hc hk s m args below hf ((Spec.applies_iff_loose hf).mp happ).1 hP trivial
  exact ⟨k, o, h1, h2, h3, hQ⟩
theorem lw_frame {s t : State} {o : Outcome} {args : Array Value} (h : Framed s o t [] 601024 7293034) :
    Framed s o t (fieldLocs frame_1_writes args s ++ arrayLocs frame_1_arrays args s ++ staticLocs frame_1_statics s) 601024 7293034 := h
theorem lw_limb (L : Cond) (hL : ∀ (args : Array Value) (s t : State), L.after args s (.returned (some (.int 1))) t = true) :
    ArmFor flags0 classFile x code maxLocals ret World_1 tables_1 room_1 Calls_1 rest_1 Pre_1
      (fun tb e a s o t => postC L tb e a s o t ∧ Framed s o t (fieldLocs frame_1_writes a s ++ arrayLocs frame_1_arrays a s ++ staticLocs frame_1_statics s) 601024 7293034) := by
  intro l hfl _ _ p e ha hc hk s m args below hf hfit hheap happ hpre
  have hlt : l.stackTraces = false := by
    unfold Launch.stackTraces
    rw [hfl]
    decide
  obtain ⟨k, o, h1, h2, h3, rfl, hF⟩ := lw_comes l hlt p e ha hc hk s m args below hf hfit hheap happ hpre
  exact ⟨k, _, h1, h2, h3, hL args s _, lw_frame hF⟩
theorem i_vc : Claimed_1_1 ∧ Claimed_1_2 := ⟨lw_limb limb_1_1 (fun args s t => by simp [limb_1_1, Cond.after, Cond.holds, Cond.value]), lw_limb limb_1_2 (fun args s t => Cond.after_iff.mpr (by
  first | (rw [show limb_1_2 = Cond.eq .result (.int 1) from rfl, Cond.eq_ints (x := 1) (y := 1) rfl rfl]; simp; done) | (simp [limb_1_2, Cond.value, Term.eval]; done)))⟩
