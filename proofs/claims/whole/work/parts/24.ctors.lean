/-! the constructors: their tables, their run -/
def n_Ho : MS := (⟨"ColdShares$House", "<init>", "()V"⟩, prog_2_method_1_code, 1, none, { frames := 1, cells := 0, slots := 0, locals := 20 }, 0, 0)
def tn_Ho : List En := [e0 0 (.aload_n 0) 1, eT 1 (.invokespecial 3) 3 0, e0 4 (.aload_n 0) 1, eC 5 (.bipush (-9)) 2 (-9), eF 7 (.putfield 9) 3 0 5, e0 10 .return_ 1]
def n_Ro : MS := (⟨"ColdShares$Row", "<init>", "(I)V"⟩, prog_5_method_1_code, 2, none, { frames := 1, cells := 1, slots := 60, locals := 21 }, 1, 3)
def tn_Ro : List En := [e0 0 (.aload_n 0) 1, eT 1 (.invokespecial 3) 3 0, e0 4 (.aload_n 0) 1, eC 5 (.iconst (-1)) 1 (-1), eF 6 (.putfield 9) 3 3 1, e0 9 (.aload_n 0) 1, eC 10 (.iconst 0) 1 0, e0 11 (.iload_n 1) 1, e0 12 (.invokestatic 15) 3, eT 15 (.newarray .int) 2 0, eF 17 (.putfield 21) 3 3 0, e0 20 .return_ 1]
def n_St : MS := (⟨"ColdShares$Street", "<init>", "()V"⟩, prog_6_method_1_code, 2, none, { frames := 2, cells := 10, slots := 223, locals := 40 }, 0, 4)
def tn_St : List En := [e0 0 (.aload_n 0) 1, eT 1 (.invokespecial 3) 3 0, e0 4 (.aload_n 0) 1, eC 5 (.bipush 8) 2 8, eT 7 (.newarray .int) 2 0, eF 9 (.putfield 9) 3 4 0, e0 12 (.aload_n 0) 1, eC 13 (.iconst 5) 1 5, eT 14 (.anewarray 15) 3 6, eF 17 (.putfield 17) 3 4 1, e0 20 (.aload_n 0) 1, eC 21 (.bipush 60) 2 60, eT 23 (.newarray .int) 2 0, eF 25 (.putfield 21) 3 4 2, e0 28 (.aload_n 0) 1, eC 29 (.bipush 60) 2 60, eT 31 (.newarray .int) 2 0, eF 33 (.putfield 24) 3 4 3, e0 36 (.aload_n 0) 1, eC 37 (.bipush 60) 2 60, eT 39 (.newarray .int) 2 0, eF 41 (.putfield 27) 3 4 4, e0 44 (.aload_n 0) 1, eC 45 (.iconst 0) 1 0, eF 46 (.putfield 30) 3 4 5, e0 49 (.aload_n 0) 1, eC 50 (.iconst 0) 1 0, eF 51 (.putfield 34) 3 4 6, e0 54 (.aload_n 0) 1, eC 55 (.iconst 0) 1 0, eF 56 (.putfield 37) 3 4 7, e0 59 (.aload_n 0) 1, eC 60 (.iconst 0) 1 0, eF 61 (.putfield 40) 3 4 8, eC 64 (.iconst 0) 1 0, e0 65 (.istore_n 1) 1, e0 66 (.iload_n 1) 1, eC 67 (.iconst 5) 1 5, eT 68 (.if_icmp .ge 22) 3 90, e0 71 (.aload_n 0) 1, eF 72 (.getfield 17) 3 4 1, e0 75 (.iload_n 1) 1, eF 76 (.new 15) 3 0 6, e0 79 .dup 1, eT 80 (.invokespecial 43) 3 1, eF 83 .aastore 1 0 6, eC 84 (.iinc 1 1) 3 1, eT 87 (.goto (-21)) 3 66, e0 90 .return_ 1]
def n_Re : MS := (⟨"ColdShares$Reader", "<init>", "()V"⟩, prog_4_method_1_code, 1, none, { frames := 3, cells := 11, slots := 232, locals := 61 }, 0, 2)
def tn_Re : List En := [e0 0 (.aload_n 0) 1, eT 1 (.invokespecial 3) 3 0, e0 4 (.aload_n 0) 1, eF 5 (.new 9) 3 4 9, e0 8 .dup 1, eT 9 (.invokespecial 11) 3 3, eF 12 (.putfield 12) 3 2 0, e0 15 (.aload_n 0) 1, e0 16 .aconst_null 1, eF 17 (.putfield 18) 3 2 1, e0 20 (.aload_n 0) 1, eC 21 (.iconst 0) 1 0, eF 22 (.putfield 22) 3 2 2, e0 25 .return_ 1]
def n_Pl : MS := (⟨"ColdShares$Plans", "<init>", "()V"⟩, prog_3_method_1_code, 1, none, { frames := 1, cells := 49, slots := 2208, locals := 20 }, 0, 1)
def tn_Pl : List En := [e0 0 (.aload_n 0) 1, eT 1 (.invokespecial 3) 3 0, e0 4 (.aload_n 0) 1, eC 5 (.bipush 9) 2 9, eC 7 (.bipush 47) 2 47, e0 9 (.multianewarray 9 2) 4, eF 13 (.putfield 11) 3 1 0, e0 16 (.aload_n 0) 1, eC 17 (.iconst 5) 1 5, eC 18 (.bipush 47) 2 47, e0 20 (.multianewarray 9 2) 4, eF 24 (.putfield 16) 3 1 1, e0 27 (.aload_n 0) 1, eC 28 (.bipush 32) 2 32, eC 30 (.bipush 47) 2 47, e0 32 (.multianewarray 9 2) 4, eF 36 (.putfield 19) 3 1 2, e0 39 .return_ 1]
def n_Wa : MS := (⟨"ColdShares$Ways", "<init>", "()V"⟩, prog_7_method_1_code, 1, none, { frames := 1, cells := 2, slots := 146, locals := 20 }, 0, 5)
def tn_Wa : List En := [e0 0 (.aload_n 0) 1, eT 1 (.invokespecial 3) 3 0, e0 4 (.aload_n 0) 1, eC 5 (.bipush 73) 2 73, eT 7 (.newarray .long) 2 1, eF 9 (.putfield 9) 3 5 0, e0 12 (.aload_n 0) 1, eC 13 (.bipush 73) 2 73, eT 15 (.newarray .long) 2 1, eF 17 (.putfield 15) 3 5 1, e0 20 .return_ 1]
def n_Cs : MS := (⟨"ColdShares", "<init>", "()V"⟩, prog_1_method_1_code, 2, none, { frames := 4, cells := 133, slots := 4161, locals := 81 }, 0, 6)
def tn_Cs : List En := [e0 0 (.aload_n 0) 1, eT 1 (.invokespecial 3) 3 0, e0 4 (.aload_n 0) 1, eC 5 (.bipush 6) 2 6, eT 7 (.anewarray 9) 3 4, eF 10 (.putfield 11) 3 6 0, e0 13 (.aload_n 0) 1, eC 14 (.iconst 4) 1 4, eT 15 (.anewarray 9) 3 4, eF 18 (.putfield 15) 3 6 1, e0 21 (.aload_n 0) 1, eF 22 (.new 18) 3 4 9, e0 25 .dup 1, eT 26 (.invokespecial 20) 3 3, eF 29 (.putfield 21) 3 6 2, e0 32 (.aload_n 0) 1, eC 33 (.iconst 3) 1 3, eT 34 (.anewarray 18) 3 5, eF 37 (.putfield 25) 3 6 3, e0 40 (.aload_n 0) 1, eF 41 (.new 29) 3 2 3, e0 44 .dup 1, eT 45 (.invokespecial 31) 3 4, eF 48 (.putfield 32) 3 6 4, e0 51 (.aload_n 0) 1, eF 52 (.new 36) 3 1 3, e0 55 .dup 1, eT 56 (.invokespecial 38) 3 5, eF 59 (.putfield 39) 3 6 5, e0 62 (.aload_n 0) 1, eF 63 (.new 43) 3 5 2, e0 66 .dup 1, eT 67 (.invokespecial 45) 3 6, eF 70 (.putfield 46) 3 6 6, e0 73 (.aload_n 0) 1, eC 74 (.bipush 6) 2 6, eT 76 (.newarray .int) 2 0, eF 78 (.putfield 50) 3 6 7, e0 81 (.aload_n 0) 1, eC 82 (.iconst 0) 1 0, eF 83 (.putfield 54) 3 6 8, e0 86 (.aload_n 0) 1, eC 87 (.iconst 0) 1 0, eF 88 (.putfield 58) 3 6 9, e0 91 (.aload_n 0) 1, eD 92 (.lconst 0) 1 0, eF 93 (.putfield 61) 3 6 10, e0 96 (.aload_n 0) 1, eD 97 (.lconst 1) 1 1, eF 98 (.putfield 65) 3 6 11, eC 101 (.iconst 0) 1 0, e0 102 (.istore_n 1) 1, e0 103 (.iload_n 1) 1, eC 104 (.bipush 6) 2 6, eT 106 (.if_icmp .ge 24) 3 130, e0 109 (.aload_n 0) 1, eF 110 (.getfield 11) 3 6 0, e0 113 (.iload_n 1) 1, eF 114 (.new 9) 3 3 2, e0 117 .dup 1, eC 118 (.bipush 40) 2 40, eT 120 (.invokespecial 68) 3 2, eF 123 .aastore 1 3 4, eC 124 (.iinc 1 1) 3 1, eT 127 (.goto (-24)) 3 103, eC 130 (.iconst 0) 1 0, e0 131 (.istore_n 1) 1, e0 132 (.iload_n 1) 1, eC 133 (.iconst 4) 1 4, eT 134 (.if_icmp .ge 24) 3 158, e0 137 (.aload_n 0) 1, eF 138 (.getfield 15) 3 6 1, e0 141 (.iload_n 1) 1, eF 142 (.new 9) 3 3 2, e0 145 .dup 1, eC 146 (.bipush 60) 2 60, eT 148 (.invokespecial 68) 3 2, eF 151 .aastore 1 3 4, eC 152 (.iinc 1 1) 3 1, eT 155 (.goto (-23)) 3 132, eC 158 (.iconst 0) 1 0, e0 159 (.istore_n 1) 1, e0 160 (.iload_n 1) 1, eC 161 (.iconst 3) 1 3, eT 162 (.if_icmp .ge 22) 3 184, e0 165 (.aload_n 0) 1, eF 166 (.getfield 25) 3 6 3, e0 169 (.iload_n 1) 1, eF 170 (.new 18) 3 4 9, e0 173 .dup 1, eT 174 (.invokespecial 20) 3 3, eF 177 .aastore 1 4 5, eC 178 (.iinc 1 1) 3 1, eT 181 (.goto (-21)) 3 160, e0 184 .return_ 1]
def n_Mo : MS := (⟨"ColdSharesModel", "<init>", "()V"⟩, prog_9_method_1_code, 2, none, { frames := 1, cells := 26, slots := 9422, locals := 20 }, 0, 7)
def tn_Mo : List En := [e0 0 (.aload_n 0) 1, eT 1 (.invokespecial 1) 3 0, e0 4 (.aload_n 0) 1, eC 5 (.bipush 6) 2 6, eT 7 (.newarray .int) 2 0, eF 9 (.putfield 7) 3 7 1, e0 12 (.aload_n 0) 1, eD 13 (.lconst 1) 1 1, eF 14 (.putfield 13) 3 7 4, e0 17 (.aload_n 0) 1, eC 18 (.bipush 6) 2 6, eT 20 (.newarray .int) 2 0, eF 22 (.putfield 17) 3 7 5, e0 25 (.aload_n 0) 1, eC 26 (.sipush 240) 3 240, eT 29 (.newarray .int) 2 0, eF 31 (.putfield 20) 3 7 6, e0 34 (.aload_n 0) 1, eC 35 (.bipush 40) 2 40, eT 37 (.newarray .int) 2 0, eF 39 (.putfield 23) 3 7 7, e0 42 (.aload_n 0) 1, eC 43 (.iconst 4) 1 4, eT 44 (.newarray .int) 2 0, eF 46 (.putfield 26) 3 7 8, e0 49 (.aload_n 0) 1, eC 50 (.sipush 240) 3 240, eT 53 (.newarray .byte) 2 2, eF 55 (.putfield 29) 3 7 9, e0 58 (.aload_n 0) 1, eC 59 (.iconst 5) 1 5, eT 60 (.newarray .int) 2 0, eF 62 (.putfield 33) 3 7 12, e0 65 (.aload_n 0) 1, eC 66 (.iconst 5) 1 5, eT 67 (.newarray .int) 2 0, eF 69 (.putfield 36) 3 7 13, e0 72 (.aload_n 0) 1, eC 73 (.bipush 8) 2 8, eT 75 (.newarray .int) 2 0, eF 77 (.putfield 39) 3 7 14, e0 80 (.aload_n 0) 1, eC 81 (.bipush 15) 2 15, eT 83 (.newarray .int) 2 0, eF 85 (.putfield 42) 3 7 18, e0 88 (.aload_n 0) 1, eC 89 (.bipush 8) 2 8, eT 91 (.newarray .int) 2 0, eF 93 (.putfield 45) 3 7 19, e0 96 (.aload_n 0) 1, eC 97 (.bipush 16) 2 16, eT 99 (.newarray .int) 2 0, eF 101 (.putfield 48) 3 7 20, e0 104 (.aload_n 0) 1, eC 105 (.sipush 960) 3 960, eT 108 (.newarray .int) 2 0, eF 110 (.putfield 51) 3 7 22, e0 113 (.aload_n 0) 1, eC 114 (.iconst 3) 1 3, eT 115 (.newarray .boolean) 2 3, eF 117 (.putfield 54) 3 7 23, e0 120 (.aload_n 0) 1, eC 121 (.iconst 3) 1 3, eT 122 (.newarray .int) 2 0, eF 124 (.putfield 58) 3 7 24, e0 127 (.aload_n 0) 1, eC 128 (.bipush 24) 2 24, eT 130 (.newarray .int) 2 0, eF 132 (.putfield 61) 3 7 25, e0 135 (.aload_n 0) 1, eC 136 (.bipush 48) 2 48, eT 138 (.newarray .int) 2 0, eF 140 (.putfield 64) 3 7 26, e0 143 (.aload_n 0) 1, eC 144 (.sipush 2880) 3 2880, eT 147 (.newarray .int) 2 0, eF 149 (.putfield 67) 3 7 27, e0 152 (.aload_n 0) 1, eC 153 (.sipush 909) 3 909, eT 156 (.newarray .int) 2 0, eF 158 (.putfield 70) 3 7 28, e0 161 (.aload_n 0) 1, eC 162 (.sipush 505) 3 505, eT 165 (.newarray .int) 2 0, eF 167 (.putfield 73) 3 7 29, e0 170 (.aload_n 0) 1, eC 171 (.bipush 8) 2 8, eT 173 (.newarray .int) 2 0, eF 175 (.putfield 76) 3 7 30, e0 178 (.aload_n 0) 1, eC 179 (.sipush 3006) 3 3006, eT 182 (.newarray .int) 2 0, eF 184 (.putfield 79) 3 7 31, e0 187 (.aload_n 0) 1, eC 188 (.iconst 5) 1 5, eT 189 (.newarray .int) 2 0, eF 191 (.putfield 82) 3 7 32, e0 194 (.aload_n 0) 1, eC 195 (.sipush 276) 3 276, eT 198 (.newarray .int) 2 0, eF 200 (.putfield 85) 3 7 33, e0 203 (.aload_n 0) 1, eC 204 (.bipush 101) 2 101, eT 206 (.newarray .long) 2 1, eF 208 (.putfield 88) 3 7 34, e0 211 (.aload_n 0) 1, eC 212 (.bipush 101) 2 101, eT 214 (.newarray .long) 2 1, eF 216 (.putfield 92) 3 7 35, eC 219 (.iconst 0) 1 0, e0 220 (.istore_n 1) 1, e0 221 (.iload_n 1) 1, eC 222 (.bipush 6) 2 6, eT 224 (.if_icmp .ge 16) 3 240, e0 227 (.aload_n 0) 1, eF 228 (.getfield 17) 3 7 5, e0 231 (.iload_n 1) 1, eC 232 (.iconst (-1)) 1 (-1), e0 233 .iastore 1, eC 234 (.iinc 1 1) 3 1, eT 237 (.goto (-16)) 3 221, eC 240 (.iconst 0) 1 0, e0 241 (.istore_n 1) 1, e0 242 (.iload_n 1) 1, eC 243 (.iconst 4) 1 4, eT 244 (.if_icmp .ge 16) 3 260, e0 247 (.aload_n 0) 1, eF 248 (.getfield 26) 3 7 8, e0 251 (.iload_n 1) 1, eC 252 (.iconst (-1)) 1 (-1), e0 253 .iastore 1, eC 254 (.iinc 1 1) 3 1, eT 257 (.goto (-15)) 3 242, e0 260 .return_ 1]
def nMs (j : Nat) : MS := [n_Ho, n_Ro, n_St, n_Re, n_Pl, n_Wa, n_Cs, n_Mo].getD j m0
def nTb (j : Nat) : List En := [tn_Ho, tn_Ro, tn_St, tn_Re, tn_Pl, tn_Wa, tn_Cs, tn_Mo].getD j []
def nLk (j : Nat) : Lk := [lk_Ho, lk_Ro, lk_St, lk_Re, lk_Pl, lk_Wa, lk_Cs, lk_Mo].getD j lk_Cs
def rrun : Nat → Nat → Nx
  | 0, _, _, _, _, _, _, _ => none
  | n + 1, mi, pc, ls, st, cs, k, w => match fnd pc (nTb mi) with
    | some e => rst (nMs mi) nMs e (rrun n mi) (fun j as cs1 => rrun n j 0 (entL (mL (nMs j)) as) [] cs1 0 0) ls st cs k w
    | none => none
theorem ok_nHo : ∀ e ∈ tn_Ho, okRE n_Ho nMs lk_Ho e = true := by decide +kernel
theorem ok_nRo : ∀ e ∈ tn_Ro, okRE n_Ro nMs lk_Ro e = true := by decide +kernel
theorem ok_nSt : ∀ e ∈ tn_St, okRE n_St nMs lk_St e = true := by decide +kernel
theorem ok_nRe : ∀ e ∈ tn_Re, okRE n_Re nMs lk_Re e = true := by decide +kernel
theorem ok_nPl : ∀ e ∈ tn_Pl, okRE n_Pl nMs lk_Pl e = true := by decide +kernel
theorem ok_nWa : ∀ e ∈ tn_Wa, okRE n_Wa nMs lk_Wa e = true := by decide +kernel
theorem ok_nCs : ∀ e ∈ tn_Cs, okRE n_Cs nMs lk_Cs e = true := by decide +kernel
theorem ok_nMo : ∀ e ∈ tn_Mo, okRE n_Mo nMs lk_Mo e = true := by decide +kernel
theorem fnd_mem : ∀ {pc : Nat} {tb : List En} {e : En}, fnd pc tb = some e → e ∈ tb ∧ e.1 = pc
  | pc, [], e, h => by cases h
  | pc, a :: l, e, h => by
    unfold fnd at h
    split at h
    · rename_i hb
      cases h
      exact ⟨List.mem_cons_self, Nat.eq_of_beq_eq_true hb⟩
    · exact ⟨List.mem_cons_of_mem _ (fnd_mem h).1, (fnd_mem h).2⟩
theorem nAll : ∀ mi e, e ∈ nTb mi → okRE (nMs mi) nMs (nLk mi) e = true ∧ okL (my (nMs mi)).cls (nLk mi) ∧ 1 ≤ (mR (nMs mi)).frames
  | 0, e, h => ⟨ok_nHo e h, lk_Ho_ok, by decide⟩
  | 1, e, h => ⟨ok_nRo e h, lk_Ro_ok, by decide⟩
  | 2, e, h => ⟨ok_nSt e h, lk_St_ok, by decide⟩
  | 3, e, h => ⟨ok_nRe e h, lk_Re_ok, by decide⟩
  | 4, e, h => ⟨ok_nPl e h, lk_Pl_ok, by decide⟩
  | 5, e, h => ⟨ok_nWa e h, lk_Wa_ok, by decide⟩
  | 6, e, h => ⟨ok_nCs e h, lk_Cs_ok, by decide⟩
  | 7, e, h => ⟨ok_nMo e h, lk_Mo_ok, by decide⟩
  | n + 8, e, h => by cases h
theorem rrun_s {G : Ge} : ∀ (n mi pc : Nat) (ls st : List Vl) (cs : Rm) (k w : Nat) (cs' : Rm), rrun n mi pc ls st cs k w = some cs' → RS G (nMs mi) pc ls st cs k w cs'
  | 0, mi, pc, ls, st, cs, k, w, cs', h => by cases h
  | n + 1, mi, pc, ls, st, cs, k, w, cs', h => by
    unfold rrun at h
    split at h
    · rename_i e he
      obtain ⟨hm, rfl⟩ := fnd_mem he
      obtain ⟨h1, h2, h3⟩ := nAll mi e hm
      exact rst_s e h2 h1 h3 (fun pc1 ls1 st1 cs1 k1 w1 q => rrun_s n mi pc1 ls1 st1 cs1 k1 w1 cs' q) (fun j as cs1 cs2 q => rrun_s n j 0 _ [] cs1 0 0 cs2 q) h
    · cases h
/-- the cells that the two constructors make -/
def cX : Rm := (rrun 2000 6 0 (entL 2 [(.ref 0, 0)]) [] [(0, 6, 12, [])] 0 0).getD []
def cM : Rm := (rrun 2000 7 0 (entL 2 [(.ref cX.length, 0)]) [] (cX ++ [(0, 7, 37, [])]) 0 0).getD []
theorem cX_len : cX.length = 134 := by decide +kernel
theorem cX_run : (rrun 2000 6 0 (entL 2 [(.ref 0, 0)]) [] [(0, 6, 12, [])] 0 0).isSome = true := by decide +kernel
theorem cM_run : (rrun 2000 7 0 (entL 2 [(.ref cX.length, 0)]) [] (cX ++ [(0, 7, 37, [])]) 0 0).isSome = true := by decide +kernel
theorem cM_len : cM.length = 161 := by decide +kernel
