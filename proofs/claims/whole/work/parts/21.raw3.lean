/-! calls of constructors; arrays; the run -/
section R3
variable {G : Ge} {M M' : MS} {pc : Nat} {ls st r as : List Vl} {cs cs' cs1 : Rm} {k w : Nat}
theorem RS_iast {o n e1 e2 e3 : Nat} {x j : Int32} {u : List (Nat × Vl)} (hd : decode (mc M) pc = .ok (.iastore, 1)) (hq : cs[o]? = some (1, 0, n, u)) (hin : vp_in j n) (h : RS G M (pc + 1) ls r (rput cs o j.toNatClampNeg (vi x)) k w cs') : RS G M pc ls ((.int x, e1) :: (.int j, e2) :: (.ref o, e3) :: r) cs k w cs' := by
  intro p e s m args below meth c Q E R H locs L hH hS hL
  have hts := E.2.2.2.2.2.2.1
  have hK := E.2.2.2.2.2.2.2.1
  have hc : H[gb G + o]? = some (arrV (gA G 0) n (fun i => mv G (rvl (1, 0, n, u) i))) := hH.2 o _ hq
  obtain ⟨c0, k0, comp, g1, g2, g3⟩ := Cond.arrayClass_spec (hts _ (arr_words 0 (by decide)))
  have e0 : c0 = gA G 0 := Option.some.inj (g1.symm.trans (hK.2.1 0 (by decide)))
  subst e0
  have href : mv G (.ref o, e3) = .ref (gb G + o) := by
    show Value.ref (gad G o e3) = _
    rw [hK.2.2.2.2.2.2.2]
  show W p (gl G) e (mR M) s m args below meth c H locs k w Q (F0 m pc L (.int x :: .int j :: mv G (.ref o, e3) :: r.map (mv G)))
  rw [href]
  refine W.iast E.1 E.2.1 hc ⟨(fun q h => by cases h), k0, g2, comp, g3⟩ (fun q => by cases q) (by rw [arrV_size]; exact hin) rfl rfl hd fun H1 e4 z oq => ?_
  refine h p _ s m args below meth c Q E R H1 _ L (HR_put hH hq z oq ?_) (hS.put z oq (Nat.le_add_right _ _)) hL
  show H1[gb G + o]? = some (arrV (gA G 0) n (fun i => mv G (rvl (rset (1, 0, n, u) j.toNatClampNeg (vi x)) i)))
  rw [e4, arrV_store]
  congr 2
  funext i
  rw [rvl_set]
  by_cases hi : i = j.toNatClampNeg
  · rw [if_pos hi]
    simp only [updV, if_pos hi]
    rfl
  · rw [if_neg hi]
    simp only [updV, if_neg hi]
theorem RS_aast {o n a o2 ci n2 e1 e2 e3 : Nat} {j : Int32} {u u2 : List (Nat × Vl)} {C : String} {T : u_T} {N : Nat} (hd : decode (mc M) pc = .ok (.aastore, 1)) (hq : cs[o]? = some (1, a, n, u)) (hq2 : cs[o2]? = some (0, ci, n2, u2)) (ha : a < 8 ∧ 4 ≤ a ∧ aty a = .object C) (hc : vwCl[ci]? = some (C, T, N)) (hin : vp_in j n) (h : RS G M (pc + 1) ls r (rput cs o j.toNatClampNeg (.ref o2, 0)) k w cs') : RS G M pc ls ((.ref o2, e1) :: (.int j, e2) :: (.ref o, e3) :: r) cs k w cs' := by
  intro p e s m args below meth c Q E R H locs L hH hS hL
  have hts := E.2.2.2.2.2.2.1
  have hK := E.2.2.2.2.2.2.2.1
  have hcA : H[gb G + o]? = some (arrV (gA G a) n (fun i => mv G (rvl (1, a, n, u) i))) := hH.2 o _ hq
  have hob : t_OB (gb G + o2) (gC G ci) n2 (gI G ci) H (fun f => mv G (rvl (0, ci, n2, u2) f)) := hH.2 o2 _ hq2
  obtain ⟨cellV, q1, q2, q3, -⟩ := hob
  have hover : rAO (.object C) s := by
    rw [← ha.2.2]
    obtain ⟨ha8, ha4, -⟩ := ha
    have : a = 4 ∨ a = 5 ∨ a = 6 ∨ a = 7 := by omega
    rcases this with rfl | rfl | rfl | rfl
    · exact hK.2.2.1
    · exact hK.2.2.2.1
    · exact hK.2.2.2.2.1
    · exact hK.2.2.2.2.2.1
  obtain ⟨comp, c0, k0, g1, g2, g3, g4, g5⟩ := Cond.arrayOver_spec hover
  have e0 : c0 = gA G a := Option.some.inj (g5.symm.trans (by rw [← ha.2.2]; exact hK.2.1 a ha.1))
  subst e0
  have hcls := (hK.1.1 ci _ hc).2
  have hcomp : comp = gC G ci := Option.some.inj (g1.symm.trans hcls.1)
  subst hcomp
  obtain ⟨kC, hkC, -⟩ := hcls.2
  have href : ∀ o e, mv G (.ref o, e) = .ref (gb G + o) := fun o e => by
    show Value.ref (gad G o e) = _
    rw [hK.2.2.2.2.2.2.2]
  have h0 : ¬ j < 0 := fun q => hin (Or.inl q)
  show W p (gl G) e (mR M) s m args below meth c H locs k w Q (F0 m pc L (mv G (.ref o2, e1) :: .int j :: mv G (.ref o, e3) :: r.map (mv G)))
  rw [href, href]
  refine W.aast E.1 E.2.1 hcA (fun q h => by cases h) (fun h => by cases h) g3 g4 rfl hkC ⟨h0, by rw [arrV_size]; exact vp_lt hin⟩ q1 (fun q h => by rw [q3] at h; cases h) (by rw [q2]; exact hkC) (by rw [q2]; exact va_assign hcls) rfl rfl hd fun H1 e4 z oq => ?_
  refine h p _ s m args below meth c Q E R H1 _ L (HR_put hH hq z oq ?_) (hS.put z oq (Nat.le_add_right _ _)) hL
  have h1 : (rset (1, a, n, u) j.toNatClampNeg (.ref o2, 0)).1 = 1 := rfl
  show H1[gb G + o]? = some (arrV (gA G a) n (fun i => mv G (rvl (rset (1, a, n, u) j.toNatClampNeg (.ref o2, 0)) i)))
  rw [e4, arrV_store]
  congr 2
  funext i
  rw [rvl_set]
  by_cases hi : i = j.toNatClampNeg
  · rw [if_pos hi, href]
    simp only [updV, if_pos hi]
  · rw [if_neg hi]
    simp only [updV, if_neg hi]
theorem obj_words : Cond.instanceMethod objectInit ∈ lw_g ∧ Cond.code objectInit ⟨#[0xb1]⟩ 1 none ∈ lw_g := by decide +kernel
theorem RS_obj {idx o e1 : Nat} (hd : decode (mc M) pc = .ok (.invokespecial idx, 3)) (hl : Cond.methodLink (my M).cls idx objectInit ∈ lw_g) (hf : 1 ≤ (mR M).frames) (hlo : wsum r + 12 ≤ (mR M).locals) (h : RS G M (pc + 3) ls r cs k w cs') : RS G M pc ls ((.ref o, e1) :: r) cs k w cs' := by
  intro p e s m args below meth c Q E R H locs L hH hS hL
  have hts := E.2.2.2.2.2.2.1
  exact W.objInit E.1 E.2.1 E.2.2.2.2.2.1 (hts _ hl) (hts _ obj_words.1) (hts _ obj_words.2) rfl (by rw [E.2.2.2.2.1]; exact hL.1) rfl hd hf (by rw [wsum_cat]; show 2 * 0 + _ + 12 ≤ _; omega) (h p e s m args below meth c Q E R H locs L hH hS hL)
theorem max_words : Cond.static Lib.Math.max.name ∈ lw_g ∧ Cond.initialized "java/lang/Math" ∈ lw_g ∧ Cond.code Lib.Math.max.name Lib.Math.max.code 2 (some .int) ∈ lw_g := by decide +kernel
theorem RS_max {idx e1 e2 : Nat} {x y : Int32} (hd : decode (mc M) pc = .ok (.invokestatic idx, 3)) (hl : Cond.methodLink (my M).cls idx Lib.Math.max.name ∈ lw_g) (hf : 1 ≤ (mR M).frames) (hlo : wsum r + 13 ≤ (mR M).locals) (hk : k ≤ (mR M).cells) (hw : w ≤ (mR M).slots) (h : RS G M (pc + 3) ls (vi (if x < y then y else x) :: r) cs k w cs') : RS G M pc ls ((.int y, e1) :: (.int x, e2) :: r) cs k w cs' := by
  intro p e s m args below meth c Q E R H locs L hH hS hL
  have hts := E.2.2.2.2.2.2.1
  exact va_mmax E.1 E.2.1 (by rw [E.2.2.2.2.1]; exact hL.1.symm) E.2.2.2.2.2.1 (hts _ hl) (hts _ max_words.1) (hts _ max_words.2.1) (hts _ max_words.2.2) hf (by rw [wsum_cat]; exact hlo) hk hw hd (h p e s m args below meth c Q E R H locs L hH hS hL)
def PR (G : Ge) (as : List Vl) (cs : Rm) : Array Value → State → Prop := fun a U => a = (as.map (mv G)).toArray ∧ KR G U ∧ HR G cs U.heap
def QR (G : Ge) (cs' : Rm) : Array Value → State → Outcome → State → Prop := fun _ st oc t => (oc = .returned none ∧ HR G cs' t.heap) ∧ va_F (Aw G) st t
theorem PR_blind (G : Ge) (as : List Vl) (cs : Rm) : FrameBlind (PR G as cs) := by
  intro a U g mk h
  exact ⟨h.1, KR_moved (u := U) (U := U.calling g mk a) (Vm.Alike.refl U.vm) (nest_same rfl) h.2.1, h.2.2⟩
/-- a constructor's contract -/
theorem CR_of (hy : plainFor (my M) = true) (hnm : (my M).name = "<init>") (hret : mr M = none) (hn : wsum as ≤ mL M) (h : RS G M 0 (entL (mL M) as) [] cs 0 0 cs') : Met (gl G) (my M) (mws M) (mR M) (PR G as cs) (QR G cs') (mR M).cells (mR M).slots (Aw G) := by
  refine Met.ofWF (cc := mc M) (maxL := mL M) (ret := mr M) hy rfl ?_
  intro p e s m args below meth c s₁ B hml hv
  obtain ⟨rfl, hK, hH⟩ := hv
  have hts := atoms_spec (ws := mws M) B.pre
  have hown : s.vm.findClass (my M).cls = some m.cls := findClass_of_methodNamed B.named
  have hl := lv_entry (as.map (mv G)) (n := mL M) (by rw [lg_len]; exact hn)
  rw [lg_entry_eq]
  generalize (lg_sl (as.map (mv G)) ++ List.replicate (mL M - (lg_sl (as.map (mv G))).length) Slot.unset).toArray = L at hl ⊢
  have hlocks := B.notSynchronized
  have hx := B.exec
  have hb := B.bytes
  have hret' : meth.sig.returnType = none := by rw [B.returns]; exact hret
  refine h p e s m _ below meth c _ ⟨hx, hb, hret', hlocks, hml, hown, fun w hw => hts w (List.mem_cons_of_mem _ hw), hK, ((name_of_methodNamed B.named B.method).1.trans hnm)⟩ ?_ s.heap [] L hH va_S.rf (lv_mono hl (fun q hq => lp_ent G as (mL M) 0 q hq))
  intro H locs L' pc hH' hS hm
  exact W.vret hx hb hret' (fun t ht hW => ⟨⟨rfl, by rw [ht]; exact hH'⟩, hS.F ht⟩) hS.2.2 hm
theorem runR_to {p : Program} {e : Env} {R : Room} {s : State} {m : MethodId} {args : Array Value} {below : List Frame} {meth : Method} {c : Code} {H : Heap} {locs : List Loc} {cells slots mc ms : Nat} {Q : State → Prop} {L : Array Slot} {st0 rest : List Value} {a : Array Value}
    (hr : va_Run p (gl G) e R s m args below meth c H locs cells slots mc ms (F0 m pc L st0) rest (QR G cs' a) (Aw G)) (hS : va_S (Aw G) s.heap H locs)
    (kk : ∀ (H1 : Heap) (locs1 : List Loc), HR G cs' H1 → va_S (Aw G) s.heap H1 locs1 → W p (gl G) e R s m args below meth c H1 locs1 (cells + mc) (slots + ms) Q (F0 m (pc + 3) L rest)) : W p (gl G) e R s m args below meth c H locs cells slots Q (F0 m pc L st0) := by
  intro T hT X
  obtain ⟨v, st₀, t, T', L', h0, X', hL, e1, e2, ⟨⟨hv, hb⟩, hz, hk⟩, st⟩ := hr T hT X
  cases hv
  rw [h0] at hz hk
  obtain ⟨t2, a1, b1⟩ := kk T'.heap (locs ++ L') (by rw [e1]; exact hb)
    ⟨Nat.le_trans hS.1 (by rw [e1]; exact hz), fun q h1 h2 => by rw [e1, hk q (Nat.lt_of_lt_of_le h1 hS.1) h2]; exact hS.2.1 q h1 h2, fun q hq => by
      rcases List.mem_append.mp hq with h | h
      · exact hS.2.2 q h
      · exact hL q h⟩ T' rfl X'
  exact ⟨t2, st t2 a1, b1⟩
/-- a link of a constructor -/
def okN (own : String) (idx : Nat) (M : MS) : Bool := decide (Cond.code (my M) (mc M) (mL M) none ∈ lw_g) && decide (Cond.initialized (my M).cls ∈ lw_g) && decide (Cond.instanceMethod (my M) ∈ lw_g) && decide ((my M).cls ≠ "java/lang/invoke/MethodHandle" ∧ (my M).cls ≠ "java/lang/invoke/VarHandle" ∧ (parseMethodDescriptor (my M).desc).map (fun d => d.parameters.length) = some (mN M)) && (decide (Cond.methodLink own idx (my M) ∈ lw_g) || decide (Cond.methodLinkNest own idx (my M) "ColdShares" ∈ lw_tbl))
theorem ctor_W {p : Program} {e : Env} {R : Room} {s : State} {m : MethodId} {args : Array Value} {below : List Frame} {meth : Method} {c : Code} {H : Heap} {locs : List Loc} {cells slots nL : Nat} {Q : State → Prop} {L : Array Slot} {cc : ByteArray} {own : String} {idx o e1 : Nat} (hx : p.tables.exec = Jvm.exec) (hb : c.code = cc) (hml : c.maxLocals = nL) (hown : s.vm.findClass own = some m.cls) (hts : ∀ w ∈ lw_g, w.before args s = true) (hK : KR G s) (hd : decode cc pc = .ok (.invokespecial idx, 3)) (hN : okN own idx M' = true) (hnm : (my M').name = "<init>") (hret : mr M' = none)
    (hM : Met (gl G) (my M') (mws M') (mR M') (PR G ((.ref o, e1) :: as) cs) (QR G cs1) (mR M').cells (mR M').slots (Aw G)) (hn : as.length = mN M') (hL : L.size = nL) (hfr : (mR M').frames + 1 ≤ R.frames) (hlo : 8 + (mL M' + 11) + (mR M').locals ≤ R.locals) (hk : cells + (mR M').cells ≤ R.cells) (hw : slots + (mR M').slots ≤ R.slots) (hws : wsum r ≤ 8) (hH : HR G cs H) (hS : va_S (Aw G) s.heap H locs)
    (kk : ∀ (H1 : Heap) (locs1 : List Loc), HR G cs1 H1 → va_S (Aw G) s.heap H1 locs1 → W p (gl G) e R s m args below meth c H1 locs1 (cells + (mR M').cells) (slots + (mR M').slots) Q (F0 m (pc + 3) L (r.map (mv G)))) : W p (gl G) e R s m args below meth c H locs cells slots Q (F0 m pc L ((as.reverse ++ (.ref o, e1) :: r).map (mv G))) := by
  unfold okN at hN
  simp only [Bool.and_eq_true, Bool.or_eq_true, decide_eq_true_eq] at hN
  obtain ⟨⟨⟨⟨n1, n2⟩, n3⟩, n4⟩, n5⟩ := hN
  have hcode : Cond.code (my M') (mc M') (mL M') (mr M') ∈ lw_g := by rw [hret]; exact n1
  have hp : PreS s H (PR G ((.ref o, e1) :: as) cs) (.ref (gb G + o) :: as.map (mv G)) := by
    refine ⟨PR_blind G _ cs, fun U hU hW => ⟨?_, KR_moved hW.alike (nest_warm hW) hK, by rw [hU]; exact hH⟩⟩
    rw [List.map_cons, show mv G (.ref o, e1) = .ref (gb G + o) from congrArg Value.ref (hK.2.2.2.2.2.2.2 o e1)]
  have hst : (F0 m pc L ((as.reverse ++ (.ref o, e1) :: r).map (mv G))).stack = (as.map (mv G)).reverse ++ .ref (gb G + o) :: r.map (mv G) := by
    show ((as.reverse ++ (.ref o, e1) :: r).map (mv G)) = _
    rw [List.map_append, List.map_cons, List.map_reverse, show mv G (.ref o, e1) = .ref (gb G + o) from congrArg Value.ref (hK.2.2.2.2.2.2.2 o e1)]
  have hWs : 2 * (F0 m pc L ((as.reverse ++ (.ref o, e1) :: r).map (mv G))).monitorRoom + ((r.map (mv G)).map fun v => v.category).sum ≤ 8 := by
    rw [wsum_cat]
    show 2 * 0 + _ ≤ 8
    omega
  rcases n5 with n5 | n5
  · have cw := cwI (R := R) (n := mN M') (maxL := mL M') (bytes := mc M') hts (good_tbl (mws_good hcode)) (by unfold mws; rw [hret]) (rfl : (mR M').cells = (mR M').cells) (rfl : (mR M').slots = (mR M').slots) (hts _ n2) (hts _ n5) (hts _ n3) hnm n4 ⟨hfr, hlo⟩
    exact runR_to (va_runI (As := as.map (mv G)) (rest := r.map (mv G)) (b := gb G + o) ⟨hx, hb, hml, hown, hts⟩ hM cw hp rfl (by simpa using hn) hL hst hWs hd ⟨hk, hw⟩) hS kk
  · have cw : va_CN R s args own idx (my M') "ColdShares" (mc M') (mL M') none (mws M') (mR M') (mR M').cells (mR M').slots (mN M') :=
      ⟨⟨rfl, rfl, hfr, hlo, pay_in hts (good_tbl (mws_good hcode)), by unfold mws; rw [hret]; exact List.mem_cons_self⟩, hts _ n1, hts _ n2, ⟨n4.1, n4.2.1⟩, fun sig hs => by
        have h2 := n4.2.2
        rw [hs] at h2
        exact (Option.some.inj h2).symm, va_Nw.use rfl (hK.2.2.2.2.2.2.1 _ n5 rfl)⟩
    exact runR_to (va_runIN (As := as.map (mv G)) (rest := r.map (mv G)) (b := gb G + o) ⟨hx, hb, hml, hown, hts⟩ hM ⟨cw, hnm, hts _ n3⟩ hp rfl (by simpa using hn) hL hst hWs hd ⟨hk, hw⟩) hS kk
end R3
