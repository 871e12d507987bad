def R_law : String := "ColdSharesLaw"
def lw_P (b : Addr) (xs : List Int32) (args : Array Value) (s : State) : Prop := args = #[.ref b] ∧ s.IntsAt b xs ∧ xs.length ≤ 3072 ∧ (Jvm.Cond.and given_1 narrow_1).before args s = true
def lw_Q (_ : Array Value) (s : State) (o : Outcome) (t : State) : Prop := o = .returned (some (.int 1)) ∧ Framed s o t [] 600000 7302250
def lw_Z (below : List Frame) (a : Array Value) (s : State) : State → Prop := fun t => ∃ o, t.status = .running ∧ Ended t below o ∧ lw_Q a s o t
/-- the law's own end, with 1 on the stack, nothing written that was there before, its room as the claim has it -/
theorem lw_ret {p : Program} {l : Launch} {e : Env} {s : State} {m : MethodId} {below : List Frame} {meth : Method} {c : Code} {b : Nat} (hx : p.tables.exec = Jvm.exec) (hb : c.code = code) (hr : meth.sig.returnType = ret) (hlocks : meth.locks = false) {pc : Nat} {H : Heap} {ls : Array Slot} (hdg : decode code pc = .ok (.ireturn, 1)) : W p l e room_1 s m #[Value.ref b] below meth c H [] 600000 7302250 (lw_Z below #[Value.ref b] s) (F0 m pc ls [.int 1]) := by
  intro T hT X
  obtain ⟨fs, hret, hrun, hended, hW, hframe⟩ := X.leave (v := some (.int 1)) (hlocks := hlocks) (fun h => by rw [hr] at h; cases h)
  have hmeth' : T.vm.method? m = some meth := X.method'
  refine ⟨T.setFrames fs, ?_, .returned (some (.int 1)), hrun, hended, rfl, ⟨_, rfl⟩, hW, hframe⟩
  jvm_step X.here [X.here.top, hx, hb, hdg, hmeth', hr, ret, narrow_b1]
  (try refine ⟨rfl, ?_⟩); (try refine ⟨rfl, ?_⟩)
  first | (intro acts; rw [hret _ acts rfl rfl rfl]) | rw [hret _ _ rfl rfl rfl]
  exact Steps.refl _
/-- what holds at the law's entry: the machine, the code, the tables' words (any of lw_tbl by 'hts w (by decide +kernel)'), the script of L ints xs at the cell b, what the Statement gives of the start (any of its parts by flat_of_before) -/
def lw_At (p : Program) (s : State) (m : MethodId) (meth : Method) (c : Code) (b L : Nat) (xs : Nat → Int32) : Prop :=
  p.tables.exec = Jvm.exec ∧ c.code = code ∧ meth.sig.returnType = ret ∧ c.maxLocals = 4 ∧ s.vm.findClass R_law = some m.cls ∧ (∀ w ∈ lw_tbl, w.before #[Value.ref b] s = true) ∧ va_X b L xs s s.heap ∧ b < s.heap.size ∧ meth.locks = false ∧ (Jvm.Cond.and given_1 narrow_1).before #[Value.ref b] s = true
/-! the state in which the law's loop begins -/
theorem cell_ok {k i : Nat} (hk : k < 52) (hi : i < knum k) : cCell cM k i = true := allN_of (allN_of cAll k hk) i hi
theorem arrV_congr {c : ClassId} {n : Nat} {f g : Nat → Value} (h : ∀ j, j < n → f j = g j) : arrV c n f = arrV c n g := by
  unfold arrV
  congr 1
  have : (fun j : Fin n => f j.val) = (fun j : Fin n => g j.val) := by
    funext j
    exact h j.val j.isLt
  rw [this]
theorem cInt_s {G : Ge} {v : Vl} {x : Int32} (h : cInt v x = true) : mv G v = .int x := by
  unfold cInt at h
  split at h
  · cases of_decide_eq_true h
    rfl
  · cases h
theorem cLng_s {G : Ge} {v : Vl} {x : Int64} (h : cLng v x = true) : mv G v = .long x := by
  unfold cLng at h
  split at h
  · cases of_decide_eq_true h
    rfl
  · cases h
theorem cNul_s {G G' : Ge} {v : Vl} {x : Int32} (h : cNul v x = true) : mv G v = (if x = 0 then .null else .ref (gad G' 8 (x.toNatClampNeg - 1))) := by
  unfold cNul at h
  split at h
  · rw [if_pos (of_decide_eq_true h)]
    rfl
  · cases h
theorem cRef_s {Gr G : Ge} {v w : Vl} (hr : ∀ o i, gad Gr o i = gb Gr + o) (hg : ∀ k i, k < 52 → gad G k i = gb Gr + off k i) (h : cRef v w = true) : mv Gr v = mv G w := by
  unfold cRef at h
  split at h
  · rename_i o e
    split at h
    · rename_i k i
      obtain ⟨h1, h2⟩ := ok2 h
      have e1 := Nat.eq_of_beq_eq_true h1
      have e2 : k < 52 := Nat.le_of_ble_eq_true h2
      show Value.ref (gad Gr o e) = Value.ref (gad G k i)
      rw [hr, hg k i e2, e1]
    · cases h
  · cases h
theorem slot_s {Gr G : Ge} {q : RQ} {k i s : Nat} (hr : ∀ o i, gad Gr o i = gb Gr + o) (hg : ∀ k i, k < 52 → gad G k i = gb Gr + off k i) (h : cSlot q k i s = true) : mv Gr (rvl q s) = sv G μ0 k i s := by
  unfold cSlot at h
  unfold sv
  generalize ktag k = t at h ⊢
  generalize fc (kcl k) s = f at h ⊢
  rcases t with _ | _ | _ | _ | _ | _ | t
  · rcases f with _ | _ | _ | f
    · exact cInt_s h
    · exact cLng_s h
    · exact cRef_s hr hg h
    · exact cNul_s h
  · exact cInt_s h
  · exact cLng_s h
  · exact cInt_s h
  · exact cInt_s h
  · exact cRef_s hr hg h
  · exact cInt_s h
theorem Hd_start {Gr G : Ge} {H : Heap} (hr : ∀ o i, gad Gr o i = gb Gr + o) (hg : ∀ k i, k < 52 → gad G k i = gb Gr + off k i) (hC : gC Gr = gC G) (hI : gI Gr = gI G) (hA : gA Gr = gA G) (h : HR Gr cM H) : Hd G μ0 H := by
  refine ⟨fun k i hk hi => ?_, by decide⟩
  have hc := cell_ok hk hi
  unfold cCell at hc
  split at hc
  · rename_i q hq
    obtain ⟨hc, -⟩ := ok2 hc
    obtain ⟨hc, c4⟩ := ok2 hc
    obtain ⟨hc, c3⟩ := ok2 hc
    obtain ⟨c1, c2⟩ := ok2 hc
    have c1 := Nat.eq_of_beq_eq_true c1
    have c2 := Nat.eq_of_beq_eq_true c2
    have c3 := Nat.eq_of_beq_eq_true c3
    have hcell := h.2 _ q hq
    have hs : ∀ s, s < klen k → mv Gr (rvl q s) = sv G μ0 k i s := fun s hs => slot_s hr hg (allN_of c4 s hs)
    rw [← hg k i hk] at hcell
    unfold rcell at hcell
    rw [← c1, c2, c3, hC, hI, hA] at hcell
    unfold cellAt
    by_cases ht : ktag k = 0
    · rw [if_pos ht] at hcell
      rw [ht]
      exact t_OB.to hcell hs
    · rw [if_neg ht] at hcell
      have hcell : H[gad G k i]? = some (arrV (gA G (kcl k)) (klen k) (fun j => mv Gr (rvl q j))) := hcell
      rw [arrV_congr hs] at hcell
      split
      · exact absurd ‹_› ht
      · exact hcell
  · cases hc
theorem off_inj {k i k' i' : Nat} (hk : k < 52) (hi : i < knum k) (hk' : k' < 52) (hi' : i' < knum k') (h : off k i = off k' i') : k = k' ∧ i = i' := by
  have inv : ∀ k i, k < 52 → i < knum k → invT[off k i]? = some (k, i) := by
    intro k i hk hi
    have hc := cell_ok hk hi
    unfold cCell at hc
    split at hc
    · exact of_decide_eq_true (ok2 hc).2
    · cases hc
  have h1 := inv k i hk hi
  have h2 := inv k' i' hk' hi'
  rw [h, h2] at h1
  cases h1
  exact ⟨rfl, rfl⟩
theorem ar_over : ∀ t, t < 8 → 4 ≤ t → Cond.arrayOver (aty t) ∈ lw_tbl := by decide +kernel
theorem ar_get {args : Array Value} {s : State} (hts : ∀ w ∈ lw_tbl, w.before args s = true) : ∀ t, t < 8 → ∃ cA, s.vm.findClass ("[" ++ (aty t).toString) = some cA ∧ ArrOfT s cA (aty t) := by
  intro t ht
  by_cases h4 : t < 4
  · obtain ⟨c0, k0, comp, g1, g2, g3⟩ := Cond.arrayClass_spec (hts _ (lw_gm (arr_words t h4)))
    exact ⟨c0, g1, fun n z => ⟨(fun q h => by cases h), k0, g2, comp, g3⟩⟩
  · have hw := hts _ (ar_over t ht (by omega))
    by_cases h7 : t = 7
    · subst h7
      obtain ⟨comp, c0, k0, g1, -, g3, g4, g5⟩ := arrayOverA_spec (t := .int) hw
      exact ⟨c0, g5, fun n z => ⟨(fun q h => by cases h), k0, g3, comp, g4⟩⟩
    · have : ∃ n, aty t = .object n := by
        have : t = 4 ∨ t = 5 ∨ t = 6 := by omega
        rcases this with rfl | rfl | rfl <;> exact ⟨_, rfl⟩
      obtain ⟨n, hn⟩ := this
      rw [hn] at hw ⊢
      obtain ⟨comp, c0, k0, g1, -, g3, g4, g5⟩ := Cond.arrayOver_spec hw
      exact ⟨c0, g5, fun n z => ⟨(fun q h => by cases h), k0, g3, comp, g4⟩⟩
theorem cls_ins : ∀ (ci : Nat) (q : vw_C), vwCl[ci]? = some q → Cond.instantiable q.1 q.2.2 ∈ lw_tbl := by
  intro ci q h
  match ci, h with
  | 0, h => cases h; decide +kernel
  | 1, h => cases h; decide +kernel
  | 2, h => cases h; decide +kernel
  | 3, h => cases h; decide +kernel
  | 4, h => cases h; decide +kernel
  | 5, h => cases h; decide +kernel
  | 6, h => cases h; decide +kernel
  | 7, h => cases h; decide +kernel
  | n + 8, h => simp [vwCl] at h
theorem cl_get {args : Array Value} {s : State} (hts : ∀ w ∈ lw_tbl, w.before args s = true) : ∃ D : Nat → ClassId × (Nat → Nat), va_K (fun c => (D c).1, fun c => (D c).2) vwCl [] s := by
  have h : ∀ ci : Nat, ∃ d : ClassId × (Nat → Nat), ∀ q, vwCl[ci]? = some q → u_Kn s q.1 q.2.1 q.2.2 d.1 d.2 := by
    intro ci
    cases hc : vwCl[ci]? with
    | none => exact ⟨(default, fun _ => 0), fun q h => by cases h⟩
    | some q =>
      obtain ⟨cC, iS, hk⟩ := u_known hts (fun w hw => lw_gm (cls_in ci q hc w hw)) (hts _ (cls_ins ci q hc))
      exact ⟨(cC, iS), fun q' h => by cases h; exact hk⟩
  obtain ⟨D, hD⟩ := Classical.axiomOfChoice h
  exact ⟨D, fun c q hq => hD c q hq, fun k q h => by cases h⟩
theorem a_get {args : Array Value} {s : State} (hts : ∀ w ∈ lw_tbl, w.before args s = true) : ∃ A : Nat → ClassId, ∀ t, t < 8 → s.vm.findClass ("[" ++ (aty t).toString) = some (A t) ∧ ArrOfT s (A t) (aty t) := by
  have h : ∀ t : Nat, ∃ a : ClassId, t < 8 → s.vm.findClass ("[" ++ (aty t).toString) = some a ∧ ArrOfT s a (aty t) := by
    intro t
    by_cases ht : t < 8
    · obtain ⟨cA, h⟩ := ar_get hts t ht
      exact ⟨cA, fun _ => h⟩
    · exact ⟨default, fun h => absurd h ht⟩
  exact Classical.axiomOfChoice h
theorem nest_get {args : Array Value} {s : State} (hts : ∀ w ∈ lw_tbl, w.before args s = true) : ∀ w ∈ lw_tbl, isNest w = true → va_Nw w s := by
  intro w hw hn
  have h := hts w hw
  cases w <;> first | exact h | cases hn
theorem rom_of {args : Array Value} {s : State} {n : String} {v : Nat → Int32} {A : Nat → Prop} (hA : ∀ a : Nat, a < s.heap.size → ¬ A a) (hl : (Cond.laysStatic "ColdShares" n "[I").before args s = true) (hi : (Cond.initialized "ColdShares").before args s = true)
    (h1 : (Cond.arrayOf (.static "ColdShares" n "[I") .int).before args s = true) (h2 : (Cond.eq (.length (.static "ColdShares" n "[I")) (.int 6)).before args s = true) (h3 : ∀ j, j < 6 → (Cond.eq (.elem (.static "ColdShares" n "[I") (.int (Int32.ofNat j))) (.int (v j))).before args s = true) :
    ∃ t : Nat, va_Z "ColdShares" n "[I" (.ref t) A s s.heap ∧ va_T .int t 6 (fun j => .int (v j)) A s s.heap := by
  obtain ⟨t, ht, hT⟩ := va_Tof (N := 6) (f := fun j => .int (v j)) (A := A) (by decide) h1 (va_eqt h2) (fun j hj => va_eqt (h3 j hj)) hA
  exact ⟨t, va_Zof hl hi ht hA, hT⟩
theorem rom_words : ∀ r, r < 5 → Cond.laysStatic "ColdShares" (romN.getD r "") "[I" ∈ lw_tbl ∧ Cond.arrayOf (.static "ColdShares" (romN.getD r "") "[I") .int ∈ flatC (.and given_1 narrow_1) ∧ Cond.eq (.length (.static "ColdShares" (romN.getD r "") "[I")) (.int 6) ∈ flatC (.and given_1 narrow_1) ∧ ∀ j, j < 6 → Cond.eq (.elem (.static "ColdShares" (romN.getD r "") "[I") (.int (Int32.ofNat j))) (.int (rom (52 + r) j)) ∈ flatC (.and given_1 narrow_1) := by decide +kernel
theorem rom_ini : Cond.initialized "ColdShares" ∈ lw_tbl := by decide +kernel
theorem rom_get {args : Array Value} {s : State} {A : Nat → Prop} (hA : ∀ a : Nat, a < s.heap.size → ¬ A a) (hts : ∀ w ∈ lw_tbl, w.before args s = true) (hgv : (Jvm.Cond.and given_1 narrow_1).before args s = true) : ∃ T : Nat → Nat, ∀ r, r < 5 → va_Z "ColdShares" (romN.getD r "") "[I" (.ref (T r)) A s s.heap ∧ va_T .int (T r) 6 (fun j => .int (rom (52 + r) j)) A s s.heap := by
  have h : ∀ r : Nat, ∃ t : Nat, r < 5 → va_Z "ColdShares" (romN.getD r "") "[I" (.ref t) A s s.heap ∧ va_T .int t 6 (fun j => .int (rom (52 + r) j)) A s s.heap := by
    intro r
    by_cases hr : r < 5
    · obtain ⟨w1, w2, w3, w4⟩ := rom_words r hr
      obtain ⟨t, ht⟩ := rom_of (v := fun j => rom (52 + r) j) hA (hts _ w1) (hts _ rom_ini) (flat_of_before _ hgv _ w2) (flat_of_before _ hgv _ w3) (fun j hj => flat_of_before _ hgv _ (w4 j hj))
      exact ⟨t, fun _ => ht⟩
    · exact ⟨0, fun h => absurd h hr⟩
  exact Classical.axiomOfChoice h
theorem law_new {p : Program} {e : Env} {R : Room} {s : State} {m : MethodId} {args : Array Value} {below : List Frame} {meth : Method} {c : Code} {H : Heap} {locs : List Loc} {cells slots : Nat} {Q : State → Prop} {L : Array Slot} {stk : List Value} {cc : ByteArray} {own : String} {G : Ge} {cs : Rm} {pc idx ci n : Nat} (hx : p.tables.exec = Jvm.exec) (hb : c.code = cc) (hown : s.vm.findClass own = some m.cls) (hts : ∀ w ∈ lw_g, w.before args s = true) (hK : KR G s)
    (hd : decode cc pc = .ok (.new idx, 3)) (hq : ∃ C T, vwCl[ci]? = some (C, T, n) ∧ Cond.classLink own idx C ∈ lw_g ∧ Cond.instantiable C n ∈ lw_g ∧ Cond.initialized C ∈ lw_g) (hk : cells + 1 ≤ R.cells) (hw : slots + n ≤ R.slots) (hH : HR G cs H) (hS : va_S (Aw G) s.heap H locs)
    (kk : ∀ H1, HR G (cs ++ [(0, ci, n, [])]) H1 → va_S (Aw G) s.heap H1 locs → W p (gl G) e R s m args below meth c H1 locs (cells + 1) (slots + n) Q (F0 m (pc + 3) L (.ref (gb G + cs.length) :: stk))) : W p (gl G) e R s m args below meth c H locs cells slots Q (F0 m pc L stk) := by
  obtain ⟨C, T, hc, w1, w2, w3⟩ := hq
  have hKn := hK.1.1 ci _ hc
  refine W.newcK hx hb hown (hts _ w1) (hts _ w2) (hts _ w3) rfl hd hk hw hKn.2.1 rfl fun H1 kC hkC e1 z1 o1 => ?_
  obtain ⟨-, ty, hty⟩ := cls_nm ci _ hc
  have hob := u_born ty hts (cls_in ci _ hc) hKn hkC e1 hty
  have hcell : rcell G (0, ci, n, []) H.size H1 := by
    show t_OB H.size (gC G ci) n (gI G ci) H1 (fun f => mv G (rvl (0, ci, n, []) f))
    refine hob.to (fun f hf => ?_)
    obtain ⟨g1, g2⟩ := cls_df ci _ hc f hf
    rw [hty f hf] at g1
    have e0 : rvl (0, ci, n, []) f = rdf (0, ci, 0, []) f := rfl
    rw [e0, mv_nr g2]
    exact Option.some.inj g1
  have h9 := kk H1 (HR_push hH z1 o1 hcell) (va_S_push hS (by omega) o1)
  rw [← hH.1] at h9
  exact h9
def gFin (Gr : Ge) (T : Nat → Nat) (b : Nat) : Ge := (gl Gr, gC Gr, gI Gr, gA Gr, (fun k i => if k < 52 then gb Gr + off k i else if k = 57 then b else T (k - 52)), gb Gr, gL Gr, gxs Gr)
theorem d_law_0 : decode code 0 = .ok (.new 7, 3) := by decide +kernel
theorem d_law_3 : decode code 3 = .ok (.dup, 1) := by decide +kernel
theorem d_law_4 : decode code 4 = .ok (.invokespecial 9, 3) := by decide +kernel
theorem d_law_7 : decode code 7 = .ok (.astore_n 1, 1) := by decide +kernel
theorem d_law_8 : decode code 8 = .ok (.new 10, 3) := by decide +kernel
theorem d_law_11 : decode code 11 = .ok (.dup, 1) := by decide +kernel
theorem d_law_12 : decode code 12 = .ok (.invokespecial 12, 3) := by decide +kernel
theorem d_law_15 : decode code 15 = .ok (.astore_n 2, 1) := by decide +kernel
theorem d_law_16 : decode code 16 = .ok (.iconst 0, 1) := by decide +kernel
theorem d_law_17 : decode code 17 = .ok (.istore_n 3, 1) := by decide +kernel
theorem lawN_Cs : okN R_law 9 n_Cs = true := by decide +kernel
theorem lawN_Mo : okN R_law 12 n_Mo = true := by decide +kernel
theorem lawP_Cs : plainFor (my n_Cs) = true := by decide +kernel
theorem lawP_Mo : plainFor (my n_Mo) = true := by decide +kernel
theorem lawW_Cs : Cond.classLink R_law 7 "ColdShares" ∈ lw_g ∧ Cond.instantiable "ColdShares" 12 ∈ lw_g ∧ Cond.initialized "ColdShares" ∈ lw_g := by decide +kernel
theorem lawW_Mo : Cond.classLink R_law 10 "ColdSharesModel" ∈ lw_g ∧ Cond.instantiable "ColdSharesModel" 37 ∈ lw_g ∧ Cond.initialized "ColdSharesModel" ∈ lw_g := by decide +kernel
theorem cX_eq : rrun 2000 6 0 (entL 2 [(.ref 0, 0)]) [] [(0, 6, 12, [])] 0 0 = some cX := by
  have h := cX_run
  unfold cX
  cases hc : rrun 2000 6 0 (entL 2 [(.ref 0, 0)]) [] [(0, 6, 12, [])] 0 0 with
  | none => rw [hc] at h; cases h
  | some x => rfl
theorem cM_eq : rrun 2000 7 0 (entL 2 [(.ref cX.length, 0)]) [] (cX ++ [(0, 7, 37, [])]) 0 0 = some cM := by
  have h := cM_run
  unfold cM
  cases hc : rrun 2000 7 0 (entL 2 [(.ref cX.length, 0)]) [] (cX ++ [(0, 7, 37, [])]) 0 0 with
  | none => rw [hc] at h; cases h
  | some x => rfl
theorem kt_top {k : Nat} (h : 52 ≤ k) (h2 : k < 57) : ktag k = 6 := by
  have : k = 52 ∨ k = 53 ∨ k = 54 ∨ k = 55 ∨ k = 56 := by omega
  rcases this with rfl | rfl | rfl | rfl | rfl <;> rfl
theorem law_start (hLaw : ∀ G : Ge, gL G ≤ 3072 → SS G m_La_law 18 [vr 57 0, vr 6 0, vr 7 0, vi 0] [] μ0 (RI fun v _ => v = 1)) {p : Program} {e : Env} {s : State} {m : MethodId} {below : List Frame} {meth : Method} {c : Code} (l : Launch) {b L : Nat} {xs : Nat → Int32} (hL : L ≤ 3072) (C0 : lw_At p s m meth c b L xs) : W p l e room_1 s m #[Value.ref b] below meth c s.heap [] 0 0 (lw_Z below #[Value.ref b] s) (entryFrame m ([Value.ref b] : List Value).toArray 4) := by
  obtain ⟨hx, hb, hr, hml, hown, hts, hX, hbl, hlocks, hgv⟩ := id C0
  have htg : ∀ w ∈ lw_g, w.before #[Value.ref b] s = true := fun w hw => hts w (lw_gm hw)
  obtain ⟨D, hD⟩ := cl_get hts
  obtain ⟨A, hA⟩ := a_get hts
  obtain ⟨T, hT⟩ := rom_get (A := fun q => s.heap.size ≤ q) (fun a h => Nat.not_le.mpr h) hts hgv
  obtain ⟨Gr, hGr⟩ : ∃ Gr : Ge, Gr = (l, (fun c => (D c).1), (fun c => (D c).2), A, (fun o _ => s.heap.size + o), s.heap.size, L, xs) := ⟨_, rfl⟩
  have e1 : gl Gr = l := by rw [hGr]
  have e2 : gb Gr = s.heap.size := by rw [hGr]
  have hKR : KR Gr s := by
    subst hGr
    refine ⟨hD, fun t ht => (hA t ht).1, hts _ (ar_over 4 (by decide) (by decide)), hts _ (ar_over 5 (by decide) (by decide)), hts _ (ar_over 6 (by decide) (by decide)), hts _ (ar_over 7 (by decide) (by decide)), nest_get hts, fun _ _ => rfl⟩
  have hr0 : ∀ o i, gad Gr o i = gb Gr + o := hKR.2.2.2.2.2.2.2
  have hH0 : HR Gr [] s.heap := ⟨by rw [e2]; rfl, fun j q h => by cases h⟩
  have hS0 : va_S (Aw Gr) s.heap s.heap [] := va_S.rf
  have hl := lv_entry ([.ref b]) (n := 4) (Nat.le_of_ble_eq_true rfl)
  rw [lg_entry_eq]
  generalize (lg_sl ([.ref b]) ++ List.replicate (4 - (lg_sl ([.ref b])).length) Slot.unset).toArray = ls at hl ⊢
  have hl : lv_has ls 4 [(0, .ref b)] := hl
  rw [← e1]
  refine law_new (ci := 6) (n := 12) hx hb hown htg hKR d_law_0 ⟨_, _, rfl, lawW_Cs⟩ (Nat.le_of_ble_eq_true rfl) (Nat.le_of_ble_eq_true rfl) hH0 hS0 fun H1 hH1 hS1 => ?_
  refine lv_dup hx hb d_law_3 rfl ?_
  have eR : ∀ o, mv Gr (.ref o, 0) = .ref (gb Gr + o) := fun o => congrArg Value.ref (hr0 o 0)
  refine W.widen (k := 1) (n := 12) (Nat.le_refl _) (Nat.le_refl _) ?_
  have hM := CR_of (G := Gr) (M := n_Cs) (as := [(.ref 0, 0)]) lawP_Cs rfl rfl (by decide) (rrun_s (G := Gr) 2000 6 0 _ [] _ 0 0 cX cX_eq)
  have w1 := ctor_W (L := ls) (as := []) (o := 0) (e1 := 0) (r := [(.ref 0, 0)]) (e := e) (R := room_1) (below := below) (meth := meth) (cells := 1) (slots := 12) (Q := lw_Z below #[Value.ref b] s) hx hb hml hown htg hKR d_law_4 lawN_Cs rfl rfl hM rfl hl.1 (by decide) (by decide) (by decide) (by decide) (by decide) hH1 hS1
  refine (fun h => ?_) (w1 ?_)
  · have h : W p (gl Gr) e room_1 s m #[Value.ref b] below meth c H1 [] 1 12 (lw_Z below #[Value.ref b] s) (F0 m 4 ls [mv Gr (.ref 0, 0), mv Gr (.ref 0, 0)]) := h
    rw [eR] at h
    exact h
  intro H2 locs2 hH2 hS2
  show W p (gl Gr) e room_1 s m #[Value.ref b] below meth c H2 locs2 134 4173 (lw_Z below #[Value.ref b] s) (F0 m 7 ls [mv Gr (.ref 0, 0)])
  rw [eR]
  refine lv_astore_n hx hb d_law_7 rfl hl (by decide) rfl (fun ls hl => ?_)
  refine law_new (ci := 7) (n := 37) hx hb hown htg hKR d_law_8 ⟨_, _, rfl, lawW_Mo⟩ (Nat.le_of_ble_eq_true rfl) (Nat.le_of_ble_eq_true rfl) hH2 hS2 fun H3 hH3 hS3 => ?_
  refine lv_dup hx hb d_law_11 rfl ?_
  have hM := CR_of (G := Gr) (M := n_Mo) (as := [(.ref cX.length, 0)]) lawP_Mo rfl rfl (by show 1 ≤ 2; decide) (rrun_s (G := Gr) 2000 7 0 _ [] _ 0 0 cM cM_eq)
  have w2 := ctor_W (L := ls) (as := []) (o := cX.length) (e1 := 0) (r := [(.ref cX.length, 0)]) (e := e) (R := room_1) (below := below) (meth := meth) (cells := 135) (slots := 4210) (Q := lw_Z below #[Value.ref b] s) hx hb hml hown htg hKR d_law_12 lawN_Mo rfl rfl hM rfl hl.1 (by decide) (by decide) (by decide) (by decide) (by show 1 ≤ 8; decide) hH3 hS3
  refine (fun h => ?_) (w2 ?_)
  · have h : W p (gl Gr) e room_1 s m #[Value.ref b] below meth c H3 locs2 135 4210 (lw_Z below #[Value.ref b] s) (F0 m 12 ls [mv Gr (.ref cX.length, 0), mv Gr (.ref cX.length, 0)]) := h
    rw [eR] at h
    exact h
  intro H4 locs4 hH4 hS4
  show W p (gl Gr) e room_1 s m #[Value.ref b] below meth c H4 locs4 161 13632 (lw_Z below #[Value.ref b] s) (F0 m 15 ls [mv Gr (.ref cX.length, 0)])
  rw [eR, cX_len]
  refine lv_astore_n hx hb d_law_15 rfl hl (by decide) rfl (fun ls hl => ?_)
  refine lv_iconst (v := 0) hx hb d_law_16 (by decide) ?_
  refine lv_istore_n hx hb d_law_17 rfl hl (by decide) rfl (fun ls hl => ?_)
  have hl : lv_has ls 4 [(3, .int 0), (2, .ref (gb Gr + 134)), (1, .ref (gb Gr + 0)), (0, .ref b)] := hl
  -- the world of the loop
  have hg : ∀ k i, k < 52 → gad (gFin Gr T b) k i = gb Gr + off k i := fun k i hk => if_pos hk
  have hHd : Hd (gFin Gr T b) μ0 H4 := Hd_start hr0 hg rfl rfl rfl hH4
  have hKn : Kn (gFin Gr T b) s := by
    refine ⟨?_, ?_, fun k i k' i' hk hi hk' hi' h => ?_, fun k i hk hi => ?_, fun r hr => ?_, ?_, ?_, nest_get hts⟩
    · subst hGr
      exact hD
    · subst hGr
      exact fun t ht => (hA t ht).2
    · rw [hg k i hk, hg k' i' hk'] at h
      exact off_inj hk hi hk' hi' (by omega)
    · show gb Gr ≤ gad (gFin Gr T b) k i
      rw [hg k i hk]
      omega
    · have eT : gad (gFin Gr T b) (52 + r) 0 = T r := by
        show (if 52 + r < 52 then _ else if 52 + r = 57 then b else T (52 + r - 52)) = T r
        rw [if_neg (by omega), if_neg (by omega)]
        congr 1
        omega
      rw [eT]
      have eA : Aw (gFin Gr T b) = fun q => s.heap.size ≤ q := by
        funext q
        show (gb Gr ≤ q) = _
        rw [e2]
      rw [eA]
      exact hT r hr
    · have eT : gad (gFin Gr T b) 57 0 = b := rfl
      rw [eT]
      obtain ⟨scr, h1, h2, h3, h4, h5⟩ := hX
      have eL : gL (gFin Gr T b) = L := by
        show gL Gr = L
        rw [hGr]
      have eX : gxs (gFin Gr T b) = xs := by
        show gxs Gr = xs
        rw [hGr]
      rw [eL, eX]
      refine ⟨scr, h1, h2, h3, by omega, by rw [h4], fun j hj => h5 j hj, ?_⟩
      show ¬ gb Gr ≤ b
      rw [e2]
      omega
    · show gL Gr ≤ 3072
      rw [hGr]
      exact hL
  have hSS := hLaw (gFin Gr T b) hKn.2.2.2.2.2.2.1
  refine hSS p e s m #[Value.ref b] below meth c 161 13632 (lw_Z below #[Value.ref b] s) ⟨hx, hb, hr, hlocks, hml, hown, htg, hKn, by decide, by decide⟩ ?_ H4 locs4 ls hHd hS4 ?_ ?_ ?_
  · intro r μ H locs L pc hΦ _ hS hm
    cases r with
    | none => cases hΦ
    | some v =>
      cases v with
      | int v =>
        have hv : v = 1 := hΦ
        subst hv
        refine va_forget (fun q hq => by have := hS.2.2 q hq; exact (show s.heap.size ≤ q.base from by rw [← e2]; exact this)) ?_
        refine W.widen (k := 600000) (n := 7302250) (by decide) (by decide) ?_
        exact lw_ret hx hb hr hlocks hm.1
      | _ => cases hΦ
  · show lv_has ls 4 (lp (gFin Gr T b) 0 [vr 57 0, vr 6 0, vr 7 0, vi 0])
    refine lv_sub hl [3, 2, 1, 0] ?_
    rfl
  · intro v hv
    rcases List.mem_cons.mp hv with rfl | hv
    · rfl
    rcases List.mem_cons.mp hv with rfl | hv
    · rfl
    rcases List.mem_cons.mp hv with rfl | hv
    · rfl
    rcases List.mem_cons.mp hv with rfl | hv
    · rfl
    cases hv
  · intro v hv
    cases hv
