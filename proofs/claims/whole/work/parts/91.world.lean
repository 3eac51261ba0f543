/-! ===== what the constructors leave (by program mk_world.py) ===== -/
def v0 : VT := fun i => if i = 0 then (fun k => if k = 10 then -1 else 0) else if i < 2 then (fun _ => 0) else if i < 17 then (fun k => if k = 11 then 1 else 0) else if i < 20 then (fun k => if k = 2 then -1 else 0) else if i = 22 then (fun k => if k = 14 then -1 else 0) else if i = 76 then upd (fun _ => 0) ((9 : Int32)).toNatClampNeg (1 : Int32) else (fun _ => 0)
def adL (h0 : Nat) (ad : Nat → Nat) (h1 : Nat) (ae : Nat → Nat) : List Nat := [h0, ad 0, ad 2, ad 6, ad 10, ad 22, ad 26, ad 30, ad 34, ad 38, ad 42, ad 46, ad 50, ad 54, ad 58, ad 62, ad 66, ad 14, ad 16, ad 18, ad 20, ad 70, h1, ad 1, ad 3, ad 4, ad 5, ad 7, ad 8, ad 9, ad 11, ad 12, ad 13, ad 23, ad 24, ad 25, ad 27, ad 28, ad 29, ad 31, ad 32, ad 33, ad 35, ad 36, ad 37, ad 39, ad 40, ad 41, ad 43, ad 44, ad 45, ad 47, ad 48, ad 49, ad 51, ad 52, ad 53, ad 55, ad 56, ad 57, ad 59, ad 60, ad 61, ad 63, ad 64, ad 65, ad 67, ad 68, ad 69, ad 15, ad 17, ad 19, ad 21, ad 71, ad 72, ad 73, ae 0, ae 1, ae 2, ae 3, ae 4, ae 5, ae 6, ae 7, ae 8, ae 9, ae 10, ae 11]
def pmL : List Nat := [0, 1, 3, 7, 11, 23, 27, 31, 35, 39, 43, 47, 51, 55, 59, 63, 67, 15, 17, 19, 21, 71, 75, 2, 4, 5, 6, 8, 9, 10, 12, 13, 14, 24, 25, 26, 28, 29, 30, 32, 33, 34, 36, 37, 38, 40, 41, 42, 44, 45, 46, 48, 49, 50, 52, 53, 54, 56, 57, 58, 60, 61, 62, 64, 65, 66, 68, 69, 70, 16, 18, 20, 22, 72, 73, 74, 76, 77, 78, 79, 80, 81, 82, 83, 84, 85, 86, 87, 88]
def g0_ (D : va_G) (cy : Nat → ClassId) (h0 : Nat) (ad : Nat → Nat) (h1 : Nat) (ae : Nat → Nat) : GT := (D, cy, fun i => (adL h0 ad h1 ae).getD i 0)
def big (cy : Nat → ClassId) (h0 : Nat) (ad : Nat → Nat) (h1 : Nat) (ae : Nat → Nat) (oa : Nat) : va_W := mX9_init cy h0 ad ++ mX10_init cy h1 ae ++ [(oa, .inl (cy 4, 1, .inr (.inl (fun _ => 0))))]
def ac72 (ad : Nat → Nat) : Nat → Option Nat := va_up (va_up (va_up (va_up (va_up (va_up (va_up (va_up (va_up (va_up (va_up (va_up (fun _ => none) ((0 : Int32)).toNatClampNeg (some ((ad 22)))) ((1 : Int32)).toNatClampNeg (some ((ad 26)))) ((2 : Int32)).toNatClampNeg (some ((ad 30)))) ((3 : Int32)).toNatClampNeg (some ((ad 34)))) ((4 : Int32)).toNatClampNeg (some ((ad 38)))) ((5 : Int32)).toNatClampNeg (some ((ad 42)))) ((6 : Int32)).toNatClampNeg (some ((ad 46)))) ((7 : Int32)).toNatClampNeg (some ((ad 50)))) ((8 : Int32)).toNatClampNeg (some ((ad 54)))) ((9 : Int32)).toNatClampNeg (some ((ad 58)))) ((10 : Int32)).toNatClampNeg (some ((ad 62)))) ((11 : Int32)).toNatClampNeg (some ((ad 66)))
section BG
variable {D : va_G} {cy : Nat → ClassId} {h0 : Nat} {ad : Nat → Nat} {h1 : Nat} {ae : Nat → Nat} {oa : Nat}
theorem se_0 : (big cy h0 ad h1 ae oa)[0]? = some ((g0_ D cy h0 ad h1 ae).2.2 0, sh_e (g0_ D cy h0 ad h1 ae) v0 0) := rfl
theorem se_1 : (big cy h0 ad h1 ae oa)[1]? = some ((g0_ D cy h0 ad h1 ae).2.2 1, sh_e (g0_ D cy h0 ad h1 ae) v0 1) := rfl
theorem se_2 : (big cy h0 ad h1 ae oa)[3]? = some ((g0_ D cy h0 ad h1 ae).2.2 2, sh_e (g0_ D cy h0 ad h1 ae) v0 2) := rfl
theorem se_3 : (big cy h0 ad h1 ae oa)[7]? = some ((g0_ D cy h0 ad h1 ae).2.2 3, sh_e (g0_ D cy h0 ad h1 ae) v0 3) := rfl
theorem se_4 : (big cy h0 ad h1 ae oa)[11]? = some ((g0_ D cy h0 ad h1 ae).2.2 4, sh_e (g0_ D cy h0 ad h1 ae) v0 4) := rfl
theorem se_5 : (big cy h0 ad h1 ae oa)[23]? = some ((g0_ D cy h0 ad h1 ae).2.2 5, sh_e (g0_ D cy h0 ad h1 ae) v0 5) := rfl
theorem se_6 : (big cy h0 ad h1 ae oa)[27]? = some ((g0_ D cy h0 ad h1 ae).2.2 6, sh_e (g0_ D cy h0 ad h1 ae) v0 6) := rfl
theorem se_7 : (big cy h0 ad h1 ae oa)[31]? = some ((g0_ D cy h0 ad h1 ae).2.2 7, sh_e (g0_ D cy h0 ad h1 ae) v0 7) := rfl
theorem se_8 : (big cy h0 ad h1 ae oa)[35]? = some ((g0_ D cy h0 ad h1 ae).2.2 8, sh_e (g0_ D cy h0 ad h1 ae) v0 8) := rfl
theorem se_9 : (big cy h0 ad h1 ae oa)[39]? = some ((g0_ D cy h0 ad h1 ae).2.2 9, sh_e (g0_ D cy h0 ad h1 ae) v0 9) := rfl
theorem se_10 : (big cy h0 ad h1 ae oa)[43]? = some ((g0_ D cy h0 ad h1 ae).2.2 10, sh_e (g0_ D cy h0 ad h1 ae) v0 10) := rfl
theorem se_11 : (big cy h0 ad h1 ae oa)[47]? = some ((g0_ D cy h0 ad h1 ae).2.2 11, sh_e (g0_ D cy h0 ad h1 ae) v0 11) := rfl
theorem se_12 : (big cy h0 ad h1 ae oa)[51]? = some ((g0_ D cy h0 ad h1 ae).2.2 12, sh_e (g0_ D cy h0 ad h1 ae) v0 12) := rfl
theorem se_13 : (big cy h0 ad h1 ae oa)[55]? = some ((g0_ D cy h0 ad h1 ae).2.2 13, sh_e (g0_ D cy h0 ad h1 ae) v0 13) := rfl
theorem se_14 : (big cy h0 ad h1 ae oa)[59]? = some ((g0_ D cy h0 ad h1 ae).2.2 14, sh_e (g0_ D cy h0 ad h1 ae) v0 14) := rfl
theorem se_15 : (big cy h0 ad h1 ae oa)[63]? = some ((g0_ D cy h0 ad h1 ae).2.2 15, sh_e (g0_ D cy h0 ad h1 ae) v0 15) := rfl
theorem se_16 : (big cy h0 ad h1 ae oa)[67]? = some ((g0_ D cy h0 ad h1 ae).2.2 16, sh_e (g0_ D cy h0 ad h1 ae) v0 16) := rfl
theorem se_17 : (big cy h0 ad h1 ae oa)[15]? = some ((g0_ D cy h0 ad h1 ae).2.2 17, sh_e (g0_ D cy h0 ad h1 ae) v0 17) := rfl
theorem se_18 : (big cy h0 ad h1 ae oa)[17]? = some ((g0_ D cy h0 ad h1 ae).2.2 18, sh_e (g0_ D cy h0 ad h1 ae) v0 18) := rfl
theorem se_19 : (big cy h0 ad h1 ae oa)[19]? = some ((g0_ D cy h0 ad h1 ae).2.2 19, sh_e (g0_ D cy h0 ad h1 ae) v0 19) := rfl
theorem se_20 : (big cy h0 ad h1 ae oa)[21]? = some ((g0_ D cy h0 ad h1 ae).2.2 20, sh_e (g0_ D cy h0 ad h1 ae) v0 20) := rfl
theorem se_21 : (big cy h0 ad h1 ae oa)[71]? = some ((g0_ D cy h0 ad h1 ae).2.2 21, sh_e (g0_ D cy h0 ad h1 ae) v0 21) := rfl
theorem se_22 : (big cy h0 ad h1 ae oa)[75]? = some ((g0_ D cy h0 ad h1 ae).2.2 22, sh_e (g0_ D cy h0 ad h1 ae) v0 22) := rfl
theorem se_23 : (big cy h0 ad h1 ae oa)[2]? = some ((g0_ D cy h0 ad h1 ae).2.2 23, sh_e (g0_ D cy h0 ad h1 ae) v0 23) := rfl
theorem se_24 : (big cy h0 ad h1 ae oa)[4]? = some ((g0_ D cy h0 ad h1 ae).2.2 24, sh_e (g0_ D cy h0 ad h1 ae) v0 24) := rfl
theorem se_25 : (big cy h0 ad h1 ae oa)[5]? = some ((g0_ D cy h0 ad h1 ae).2.2 25, sh_e (g0_ D cy h0 ad h1 ae) v0 25) := rfl
theorem se_26 : (big cy h0 ad h1 ae oa)[6]? = some ((g0_ D cy h0 ad h1 ae).2.2 26, sh_e (g0_ D cy h0 ad h1 ae) v0 26) := rfl
theorem se_27 : (big cy h0 ad h1 ae oa)[8]? = some ((g0_ D cy h0 ad h1 ae).2.2 27, sh_e (g0_ D cy h0 ad h1 ae) v0 27) := rfl
theorem se_28 : (big cy h0 ad h1 ae oa)[9]? = some ((g0_ D cy h0 ad h1 ae).2.2 28, sh_e (g0_ D cy h0 ad h1 ae) v0 28) := rfl
theorem se_29 : (big cy h0 ad h1 ae oa)[10]? = some ((g0_ D cy h0 ad h1 ae).2.2 29, sh_e (g0_ D cy h0 ad h1 ae) v0 29) := rfl
theorem se_30 : (big cy h0 ad h1 ae oa)[12]? = some ((g0_ D cy h0 ad h1 ae).2.2 30, sh_e (g0_ D cy h0 ad h1 ae) v0 30) := rfl
theorem se_31 : (big cy h0 ad h1 ae oa)[13]? = some ((g0_ D cy h0 ad h1 ae).2.2 31, sh_e (g0_ D cy h0 ad h1 ae) v0 31) := rfl
theorem se_32 : (big cy h0 ad h1 ae oa)[14]? = some ((g0_ D cy h0 ad h1 ae).2.2 32, sh_e (g0_ D cy h0 ad h1 ae) v0 32) := rfl
theorem se_33 : (big cy h0 ad h1 ae oa)[24]? = some ((g0_ D cy h0 ad h1 ae).2.2 33, sh_e (g0_ D cy h0 ad h1 ae) v0 33) := rfl
theorem se_34 : (big cy h0 ad h1 ae oa)[25]? = some ((g0_ D cy h0 ad h1 ae).2.2 34, sh_e (g0_ D cy h0 ad h1 ae) v0 34) := rfl
theorem se_35 : (big cy h0 ad h1 ae oa)[26]? = some ((g0_ D cy h0 ad h1 ae).2.2 35, sh_e (g0_ D cy h0 ad h1 ae) v0 35) := rfl
theorem se_36 : (big cy h0 ad h1 ae oa)[28]? = some ((g0_ D cy h0 ad h1 ae).2.2 36, sh_e (g0_ D cy h0 ad h1 ae) v0 36) := rfl
theorem se_37 : (big cy h0 ad h1 ae oa)[29]? = some ((g0_ D cy h0 ad h1 ae).2.2 37, sh_e (g0_ D cy h0 ad h1 ae) v0 37) := rfl
theorem se_38 : (big cy h0 ad h1 ae oa)[30]? = some ((g0_ D cy h0 ad h1 ae).2.2 38, sh_e (g0_ D cy h0 ad h1 ae) v0 38) := rfl
theorem se_39 : (big cy h0 ad h1 ae oa)[32]? = some ((g0_ D cy h0 ad h1 ae).2.2 39, sh_e (g0_ D cy h0 ad h1 ae) v0 39) := rfl
theorem se_40 : (big cy h0 ad h1 ae oa)[33]? = some ((g0_ D cy h0 ad h1 ae).2.2 40, sh_e (g0_ D cy h0 ad h1 ae) v0 40) := rfl
theorem se_41 : (big cy h0 ad h1 ae oa)[34]? = some ((g0_ D cy h0 ad h1 ae).2.2 41, sh_e (g0_ D cy h0 ad h1 ae) v0 41) := rfl
theorem se_42 : (big cy h0 ad h1 ae oa)[36]? = some ((g0_ D cy h0 ad h1 ae).2.2 42, sh_e (g0_ D cy h0 ad h1 ae) v0 42) := rfl
theorem se_43 : (big cy h0 ad h1 ae oa)[37]? = some ((g0_ D cy h0 ad h1 ae).2.2 43, sh_e (g0_ D cy h0 ad h1 ae) v0 43) := rfl
theorem se_44 : (big cy h0 ad h1 ae oa)[38]? = some ((g0_ D cy h0 ad h1 ae).2.2 44, sh_e (g0_ D cy h0 ad h1 ae) v0 44) := rfl
theorem se_45 : (big cy h0 ad h1 ae oa)[40]? = some ((g0_ D cy h0 ad h1 ae).2.2 45, sh_e (g0_ D cy h0 ad h1 ae) v0 45) := rfl
theorem se_46 : (big cy h0 ad h1 ae oa)[41]? = some ((g0_ D cy h0 ad h1 ae).2.2 46, sh_e (g0_ D cy h0 ad h1 ae) v0 46) := rfl
theorem se_47 : (big cy h0 ad h1 ae oa)[42]? = some ((g0_ D cy h0 ad h1 ae).2.2 47, sh_e (g0_ D cy h0 ad h1 ae) v0 47) := rfl
theorem se_48 : (big cy h0 ad h1 ae oa)[44]? = some ((g0_ D cy h0 ad h1 ae).2.2 48, sh_e (g0_ D cy h0 ad h1 ae) v0 48) := rfl
theorem se_49 : (big cy h0 ad h1 ae oa)[45]? = some ((g0_ D cy h0 ad h1 ae).2.2 49, sh_e (g0_ D cy h0 ad h1 ae) v0 49) := rfl
theorem se_50 : (big cy h0 ad h1 ae oa)[46]? = some ((g0_ D cy h0 ad h1 ae).2.2 50, sh_e (g0_ D cy h0 ad h1 ae) v0 50) := rfl
theorem se_51 : (big cy h0 ad h1 ae oa)[48]? = some ((g0_ D cy h0 ad h1 ae).2.2 51, sh_e (g0_ D cy h0 ad h1 ae) v0 51) := rfl
theorem se_52 : (big cy h0 ad h1 ae oa)[49]? = some ((g0_ D cy h0 ad h1 ae).2.2 52, sh_e (g0_ D cy h0 ad h1 ae) v0 52) := rfl
theorem se_53 : (big cy h0 ad h1 ae oa)[50]? = some ((g0_ D cy h0 ad h1 ae).2.2 53, sh_e (g0_ D cy h0 ad h1 ae) v0 53) := rfl
theorem se_54 : (big cy h0 ad h1 ae oa)[52]? = some ((g0_ D cy h0 ad h1 ae).2.2 54, sh_e (g0_ D cy h0 ad h1 ae) v0 54) := rfl
theorem se_55 : (big cy h0 ad h1 ae oa)[53]? = some ((g0_ D cy h0 ad h1 ae).2.2 55, sh_e (g0_ D cy h0 ad h1 ae) v0 55) := rfl
theorem se_56 : (big cy h0 ad h1 ae oa)[54]? = some ((g0_ D cy h0 ad h1 ae).2.2 56, sh_e (g0_ D cy h0 ad h1 ae) v0 56) := rfl
theorem se_57 : (big cy h0 ad h1 ae oa)[56]? = some ((g0_ D cy h0 ad h1 ae).2.2 57, sh_e (g0_ D cy h0 ad h1 ae) v0 57) := rfl
theorem se_58 : (big cy h0 ad h1 ae oa)[57]? = some ((g0_ D cy h0 ad h1 ae).2.2 58, sh_e (g0_ D cy h0 ad h1 ae) v0 58) := rfl
theorem se_59 : (big cy h0 ad h1 ae oa)[58]? = some ((g0_ D cy h0 ad h1 ae).2.2 59, sh_e (g0_ D cy h0 ad h1 ae) v0 59) := rfl
theorem se_60 : (big cy h0 ad h1 ae oa)[60]? = some ((g0_ D cy h0 ad h1 ae).2.2 60, sh_e (g0_ D cy h0 ad h1 ae) v0 60) := rfl
theorem se_61 : (big cy h0 ad h1 ae oa)[61]? = some ((g0_ D cy h0 ad h1 ae).2.2 61, sh_e (g0_ D cy h0 ad h1 ae) v0 61) := rfl
theorem se_62 : (big cy h0 ad h1 ae oa)[62]? = some ((g0_ D cy h0 ad h1 ae).2.2 62, sh_e (g0_ D cy h0 ad h1 ae) v0 62) := rfl
theorem se_63 : (big cy h0 ad h1 ae oa)[64]? = some ((g0_ D cy h0 ad h1 ae).2.2 63, sh_e (g0_ D cy h0 ad h1 ae) v0 63) := rfl
theorem se_64 : (big cy h0 ad h1 ae oa)[65]? = some ((g0_ D cy h0 ad h1 ae).2.2 64, sh_e (g0_ D cy h0 ad h1 ae) v0 64) := rfl
theorem se_65 : (big cy h0 ad h1 ae oa)[66]? = some ((g0_ D cy h0 ad h1 ae).2.2 65, sh_e (g0_ D cy h0 ad h1 ae) v0 65) := rfl
theorem se_66 : (big cy h0 ad h1 ae oa)[68]? = some ((g0_ D cy h0 ad h1 ae).2.2 66, sh_e (g0_ D cy h0 ad h1 ae) v0 66) := rfl
theorem se_67 : (big cy h0 ad h1 ae oa)[69]? = some ((g0_ D cy h0 ad h1 ae).2.2 67, sh_e (g0_ D cy h0 ad h1 ae) v0 67) := rfl
theorem se_68 : (big cy h0 ad h1 ae oa)[70]? = some ((g0_ D cy h0 ad h1 ae).2.2 68, sh_e (g0_ D cy h0 ad h1 ae) v0 68) := rfl
theorem se_69 : (big cy h0 ad h1 ae oa)[16]? = some ((g0_ D cy h0 ad h1 ae).2.2 69, sh_e (g0_ D cy h0 ad h1 ae) v0 69) := rfl
theorem se_70 : (big cy h0 ad h1 ae oa)[18]? = some ((g0_ D cy h0 ad h1 ae).2.2 70, sh_e (g0_ D cy h0 ad h1 ae) v0 70) := rfl
theorem se_71 : (big cy h0 ad h1 ae oa)[20]? = some ((g0_ D cy h0 ad h1 ae).2.2 71, sh_e (g0_ D cy h0 ad h1 ae) v0 71) := rfl
theorem se_72 : (big cy h0 ad h1 ae oa)[22]? = some ((g0_ D cy h0 ad h1 ae).2.2 72, .inl (cy 3, 12, .inr (.inr (.inr (.inr (ac72 ad)))))) := rfl
theorem se_73 : (big cy h0 ad h1 ae oa)[72]? = some ((g0_ D cy h0 ad h1 ae).2.2 73, sh_e (g0_ D cy h0 ad h1 ae) v0 73) := rfl
theorem se_74 : (big cy h0 ad h1 ae oa)[73]? = some ((g0_ D cy h0 ad h1 ae).2.2 74, sh_e (g0_ D cy h0 ad h1 ae) v0 74) := rfl
theorem se_75 : (big cy h0 ad h1 ae oa)[74]? = some ((g0_ D cy h0 ad h1 ae).2.2 75, sh_e (g0_ D cy h0 ad h1 ae) v0 75) := rfl
theorem se_76 : (big cy h0 ad h1 ae oa)[76]? = some ((g0_ D cy h0 ad h1 ae).2.2 76, sh_e (g0_ D cy h0 ad h1 ae) v0 76) := rfl
theorem se_77 : (big cy h0 ad h1 ae oa)[77]? = some ((g0_ D cy h0 ad h1 ae).2.2 77, sh_e (g0_ D cy h0 ad h1 ae) v0 77) := rfl
theorem se_78 : (big cy h0 ad h1 ae oa)[78]? = some ((g0_ D cy h0 ad h1 ae).2.2 78, sh_e (g0_ D cy h0 ad h1 ae) v0 78) := rfl
theorem se_79 : (big cy h0 ad h1 ae oa)[79]? = some ((g0_ D cy h0 ad h1 ae).2.2 79, sh_e (g0_ D cy h0 ad h1 ae) v0 79) := rfl
theorem se_80 : (big cy h0 ad h1 ae oa)[80]? = some ((g0_ D cy h0 ad h1 ae).2.2 80, sh_e (g0_ D cy h0 ad h1 ae) v0 80) := rfl
theorem se_81 : (big cy h0 ad h1 ae oa)[81]? = some ((g0_ D cy h0 ad h1 ae).2.2 81, sh_e (g0_ D cy h0 ad h1 ae) v0 81) := rfl
theorem se_82 : (big cy h0 ad h1 ae oa)[82]? = some ((g0_ D cy h0 ad h1 ae).2.2 82, sh_e (g0_ D cy h0 ad h1 ae) v0 82) := rfl
theorem se_83 : (big cy h0 ad h1 ae oa)[83]? = some ((g0_ D cy h0 ad h1 ae).2.2 83, sh_e (g0_ D cy h0 ad h1 ae) v0 83) := rfl
theorem se_84 : (big cy h0 ad h1 ae oa)[84]? = some ((g0_ D cy h0 ad h1 ae).2.2 84, sh_e (g0_ D cy h0 ad h1 ae) v0 84) := rfl
theorem se_85 : (big cy h0 ad h1 ae oa)[85]? = some ((g0_ D cy h0 ad h1 ae).2.2 85, sh_e (g0_ D cy h0 ad h1 ae) v0 85) := rfl
theorem se_86 : (big cy h0 ad h1 ae oa)[86]? = some ((g0_ D cy h0 ad h1 ae).2.2 86, sh_e (g0_ D cy h0 ad h1 ae) v0 86) := rfl
theorem se_87 : (big cy h0 ad h1 ae oa)[87]? = some ((g0_ D cy h0 ad h1 ae).2.2 87, sh_e (g0_ D cy h0 ad h1 ae) v0 87) := rfl
theorem se_88 : (big cy h0 ad h1 ae oa)[88]? = some (oa, .inl (cy 4, 1, .inr (.inl (fun _ => 0)))) := rfl
theorem ac_ok : ∀ j, j < 12 → ac72 ad j = some ((g0_ D cy h0 ad h1 ae).2.2 (5 + j)) := by
  intro j hj
  rcases (show j = 0 ∨ j = 1 ∨ j = 2 ∨ j = 3 ∨ j = 4 ∨ j = 5 ∨ j = 6 ∨ j = 7 ∨ j = 8 ∨ j = 9 ∨ j = 10 ∨ j = 11 by omega) with rfl | rfl | rfl | rfl | rfl | rfl | rfl | rfl | rfl | rfl | rfl | rfl <;> rfl
def allL (P : Nat → Prop) : List Nat → Prop
  | [] => True
  | a :: l => P a ∧ allL P l
theorem allL_mem {P : Nat → Prop} : ∀ {l : List Nat}, allL P l → ∀ a, a ∈ l → P a
  | [], _, a, h => by cases h
  | b :: l, h, a, ha => by
    rcases List.mem_cons.1 ha with rfl | ha
    · exact h.1
    · exact allL_mem h.2 a ha
def ix88 : List Nat := [0, 1, 2, 3, 4, 5, 6, 7, 8, 9, 10, 11, 12, 13, 14, 15, 16, 17, 18, 19, 20, 21, 22, 23, 24, 25, 26, 27, 28, 29, 30, 31, 32, 33, 34, 35, 36, 37, 38, 39, 40, 41, 42, 43, 44, 45, 46, 47, 48, 49, 50, 51, 52, 53, 54, 55, 56, 57, 58, 59, 60, 61, 62, 63, 64, 65, 66, 67, 68, 69, 70, 71, 72, 73, 74, 75, 76, 77, 78, 79, 80, 81, 82, 83, 84, 85, 86, 87]
theorem ix88_in : ∀ i, i < 88 → i ∈ ix88 := by decide +kernel
/-- the entry of index i, and the cell it tells -/
theorem se_all : ∀ i, i < 88 → ∃ e, (big cy h0 ad h1 ae oa)[pmL.getD i 0]? = some ((g0_ D cy h0 ad h1 ae).2.2 i, e) ∧ ∀ H, va_at D vwCl ((g0_ D cy h0 ad h1 ae).2.2 i, e) H → va_at D vwCl ((g0_ D cy h0 ad h1 ae).2.2 i, sh_e (g0_ D cy h0 ad h1 ae) v0 i) H := by
  intro i hi
  refine allL_mem (P := fun i => ∃ e, (big cy h0 ad h1 ae oa)[pmL.getD i 0]? = some ((g0_ D cy h0 ad h1 ae).2.2 i, e) ∧ ∀ H, va_at D vwCl ((g0_ D cy h0 ad h1 ae).2.2 i, e) H → va_at D vwCl ((g0_ D cy h0 ad h1 ae).2.2 i, sh_e (g0_ D cy h0 ad h1 ae) v0 i) H) (l := ix88) ?_ i (ix88_in i hi)
  exact ⟨⟨_, se_0, fun _ h => h⟩, ⟨_, se_1, fun _ h => h⟩, ⟨_, se_2, fun _ h => h⟩, ⟨_, se_3, fun _ h => h⟩, ⟨_, se_4, fun _ h => h⟩, ⟨_, se_5, fun _ h => h⟩, ⟨_, se_6, fun _ h => h⟩, ⟨_, se_7, fun _ h => h⟩, ⟨_, se_8, fun _ h => h⟩, ⟨_, se_9, fun _ h => h⟩, ⟨_, se_10, fun _ h => h⟩, ⟨_, se_11, fun _ h => h⟩, ⟨_, se_12, fun _ h => h⟩, ⟨_, se_13, fun _ h => h⟩, ⟨_, se_14, fun _ h => h⟩, ⟨_, se_15, fun _ h => h⟩, ⟨_, se_16, fun _ h => h⟩, ⟨_, se_17, fun _ h => h⟩, ⟨_, se_18, fun _ h => h⟩, ⟨_, se_19, fun _ h => h⟩, ⟨_, se_20, fun _ h => h⟩, ⟨_, se_21, fun _ h => h⟩, ⟨_, se_22, fun _ h => h⟩, ⟨_, se_23, fun _ h => h⟩, ⟨_, se_24, fun _ h => h⟩, ⟨_, se_25, fun _ h => h⟩, ⟨_, se_26, fun _ h => h⟩, ⟨_, se_27, fun _ h => h⟩, ⟨_, se_28, fun _ h => h⟩, ⟨_, se_29, fun _ h => h⟩, ⟨_, se_30, fun _ h => h⟩, ⟨_, se_31, fun _ h => h⟩, ⟨_, se_32, fun _ h => h⟩, ⟨_, se_33, fun _ h => h⟩, ⟨_, se_34, fun _ h => h⟩, ⟨_, se_35, fun _ h => h⟩, ⟨_, se_36, fun _ h => h⟩, ⟨_, se_37, fun _ h => h⟩, ⟨_, se_38, fun _ h => h⟩, ⟨_, se_39, fun _ h => h⟩, ⟨_, se_40, fun _ h => h⟩, ⟨_, se_41, fun _ h => h⟩, ⟨_, se_42, fun _ h => h⟩, ⟨_, se_43, fun _ h => h⟩, ⟨_, se_44, fun _ h => h⟩, ⟨_, se_45, fun _ h => h⟩, ⟨_, se_46, fun _ h => h⟩, ⟨_, se_47, fun _ h => h⟩, ⟨_, se_48, fun _ h => h⟩, ⟨_, se_49, fun _ h => h⟩, ⟨_, se_50, fun _ h => h⟩, ⟨_, se_51, fun _ h => h⟩, ⟨_, se_52, fun _ h => h⟩, ⟨_, se_53, fun _ h => h⟩, ⟨_, se_54, fun _ h => h⟩, ⟨_, se_55, fun _ h => h⟩, ⟨_, se_56, fun _ h => h⟩, ⟨_, se_57, fun _ h => h⟩, ⟨_, se_58, fun _ h => h⟩, ⟨_, se_59, fun _ h => h⟩, ⟨_, se_60, fun _ h => h⟩, ⟨_, se_61, fun _ h => h⟩, ⟨_, se_62, fun _ h => h⟩, ⟨_, se_63, fun _ h => h⟩, ⟨_, se_64, fun _ h => h⟩, ⟨_, se_65, fun _ h => h⟩, ⟨_, se_66, fun _ h => h⟩, ⟨_, se_67, fun _ h => h⟩, ⟨_, se_68, fun _ h => h⟩, ⟨_, se_69, fun _ h => h⟩, ⟨_, se_70, fun _ h => h⟩, ⟨_, se_71, fun _ h => h⟩, ⟨_, se_72, fun H h => by
    have h : H[(g0_ D cy h0 ad h1 ae).2.2 72]? = some (vp_cell (cy 3) (12, .inr (.inr (.inr (.inr (ac72 ad)))))) := h
    show H[(g0_ D cy h0 ad h1 ae).2.2 72]? = some (vp_cell (cy 3) (12, .inr (.inr (.inr (.inr (fun k => some ((g0_ D cy h0 ad h1 ae).2.2 (5 + k))))))))
    rw [h, vp_cell_q, vp_cell_q]
    unfold arrV
    congr 2⟩, ⟨_, se_73, fun _ h => h⟩, ⟨_, se_74, fun _ h => h⟩, ⟨_, se_75, fun _ h => h⟩, ⟨_, se_76, fun _ h => h⟩, ⟨_, se_77, fun _ h => h⟩, ⟨_, se_78, fun _ h => h⟩, ⟨_, se_79, fun _ h => h⟩, ⟨_, se_80, fun _ h => h⟩, ⟨_, se_81, fun _ h => h⟩, ⟨_, se_82, fun _ h => h⟩, ⟨_, se_83, fun _ h => h⟩, ⟨_, se_84, fun _ h => h⟩, ⟨_, se_85, fun _ h => h⟩, ⟨_, se_86, fun _ h => h⟩, ⟨_, se_87, fun _ h => h⟩, trivial⟩
theorem pm_inj : ∀ i, i < 89 → ∀ j, j < 89 → pmL.getD i 0 = pmL.getD j 0 → i = j := by decide +kernel
theorem wo_P0 {H : Heap} (h : va_P D vwCl (big cy h0 ad h1 ae oa) H) : va_P (g0_ D cy h0 ad h1 ae).1 vwCl (wo (g0_ D cy h0 ad h1 ae) v0 oa (fun _ => 0)) H := by
  intro k q hq
  rcases wo_ix hq with ⟨hk, hq⟩ | ⟨hk, rfl⟩
  · rw [wl_get _ _ hk] at hq
    cases hq
    obtain ⟨e, e1, e2⟩ := se_all (D := D) (cy := cy) (h0 := h0) (ad := ad) (h1 := h1) (ae := ae) (oa := oa) k hk
    exact e2 H (h _ _ e1)
  · exact h 88 _ se_88
theorem wo_D0 {A : Nat → Prop} (h : va_D A (big cy h0 ad h1 ae oa)) : va_D A (wo (g0_ D cy h0 ad h1 ae) v0 oa (fun _ => 0)) := by
  have key : ∀ (k : Nat) (q : Nat × va_E), (wo (g0_ D cy h0 ad h1 ae) v0 oa (fun _ => 0))[k]? = some q → k < 89 ∧ ∃ e, (big cy h0 ad h1 ae oa)[pmL.getD k 0]? = some (q.1, e) := by
    intro k q hq
    rcases wo_ix hq with ⟨hk, hq⟩ | ⟨hk, rfl⟩
    · rw [wl_get _ _ hk] at hq
      cases hq
      obtain ⟨e, e1, -⟩ := se_all (D := D) (cy := cy) (h0 := h0) (ad := ad) (h1 := h1) (ae := ae) (oa := oa) k hk
      exact ⟨by omega, e, e1⟩
    · subst hk
      exact ⟨by omega, _, se_88⟩
  refine ⟨fun i j a b ha hb hab => ?_, fun k q hq => ?_⟩
  · obtain ⟨i1, e1, x1⟩ := key i a ha
    obtain ⟨j1, e2, x2⟩ := key j b hb
    exact pm_inj i i1 j j1 (h.1 _ _ _ _ x1 x2 hab)
  · obtain ⟨-, e1, x1⟩ := key k q hq
    exact h.2 _ (q.1, e1) x1
end BG
/-! ===== INV at the start ===== -/
def a0_ : AT := (fun _ => 0, fun _ _ => 0, fun _ _ => 0, fun _ _ => 0, 1)
def gg0 : GA := (a0_, (-1, l0), (0, fun _ => 0), -1, (false, a0_, (-1, l0)), (0, fun _ => a0_))
theorem wa0 : WA a0_ := ⟨⟨Nat.zero_le _, Nat.zero_le _, Nat.zero_le _, Nat.zero_le _, Nat.zero_le _, Nat.zero_le _, Nat.zero_le _, rfl, rfl⟩, fun h hh => absurd hh (Nat.not_lt_zero _), fun h hh => absurd hh (Nat.not_lt_zero _), fun h hh => absurd hh (Nat.not_lt_zero _)⟩
theorem inv0 : INV v0 := by
  have e9 : ∀ k, k ≠ 9 → v0 76 k = 0 := fun k hk => by
    show upd (fun _ => 0) ((9 : Int32)).toNatClampNeg (1 : Int32) k = 0
    rw [pk_un (show k ≠ ((9 : Int32)).toNatClampNeg from hk)]
  refine ⟨gg0, ⟨⟨⟨rfl, rfl, rfl, rfl, rfl, rfl, rfl, rfl, rfl, rfl⟩, fun h k hh => absurd hh (Nat.not_lt_zero _), fun h k hh => absurd hh (Nat.not_lt_zero _), fun h hh => absurd hh (Nat.not_lt_zero _), fun h hh => absurd hh (Nat.not_lt_zero _)⟩, wa0, rfl, Or.inl ⟨rfl, rfl⟩, ⟨rfl, Nat.zero_le _, fun _ _ => rfl, fun _ _ => by show (0 : Int32).toInt8.toInt32 = 0; decide⟩, rfl, rfl, (fun h => by cases h), Nat.zero_le _, rfl, 0, by omega, rfl, fun j hj => absurd hj (Nat.not_lt_zero _)⟩, ⟨⟨fun k hk => e9 k (by omega), rfl, fun h k hh => absurd hh (Nat.not_lt_zero _), fun h k hh => absurd hh (Nat.not_lt_zero _), fun h hh => absurd hh (Nat.not_lt_zero _), fun h k hh => absurd hh (Nat.not_lt_zero _)⟩, wa0, Or.inl ⟨e9 3 (by omega), rfl⟩, Or.inl ⟨e9 3 (by omega), rfl⟩, ⟨rfl, Nat.zero_le _, fun _ _ => rfl, fun _ _ => by show (0 : Int32).toInt8.toInt32 = 0; decide⟩, rfl, rfl, (fun h => by cases h), Nat.zero_le _, rfl, fun j hj => absurd hj (Nat.not_lt_zero _)⟩⟩
