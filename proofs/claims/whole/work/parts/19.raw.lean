/-! The objects are made: a second abstract machine, whose heap grows; a reference is (.ref o, _), the o-th new cell. -/
/-- a cell: 0 an object, 1 an array; its type; its fields or length; what was written -/
abbrev RQ : Type := Nat × Nat × Nat × List (Nat × Vl)
abbrev Rm : Type := List RQ
def rdf (q : RQ) (s : Nat) : Vl := match q.1 with
  | 0 => (match fc q.2.1 s with
    | 0 => vi 0
    | 1 => vl 0
    | _ => vn)
  | _ => (match q.2.1 with
    | 0 => vi 0
    | 1 => vl 0
    | 2 => vi 0
    | 3 => vi 0
    | _ => vn)
def lku (s : Nat) : List (Nat × Vl) → Option Vl
  | [] => none
  | q :: l => match Nat.beq q.1 s with
    | true => some q.2
    | false => lku s l
def rvl (q : RQ) (s : Nat) : Vl := match lku s q.2.2.2 with
  | some v => v
  | none => rdf q s
def rset (q : RQ) (s : Nat) (v : Vl) : RQ := (q.1, q.2.1, q.2.2.1, (s, v) :: q.2.2.2)
def rput : Rm → Nat → Nat → Vl → Rm
  | [], _, _, _ => []
  | q :: l, 0, s, v => rset q s v :: l
  | q :: l, o + 1, s, v => q :: rput l o s v
theorem rput_len : ∀ (cs : Rm) (o s : Nat) (v : Vl), (rput cs o s v).length = cs.length
  | [], _, _, _ => rfl
  | _ :: _, 0, _, _ => rfl
  | q :: l, o + 1, s, v => by
    show (rput l o s v).length + 1 = l.length + 1
    rw [rput_len l o s v]
theorem rput_get : ∀ (cs : Rm) (o s : Nat) (v : Vl) (j : Nat), (rput cs o s v)[j]? = if j = o then (cs[j]?).map (fun q => rset q s v) else cs[j]?
  | [], o, s, v, j => by simp [rput]
  | q :: l, 0, s, v, j => by
    cases j with
    | zero => rfl
    | succ j => rfl
  | q :: l, o + 1, s, v, j => by
    cases j with
    | zero => rfl
    | succ j =>
      show (rput l o s v)[j]? = _
      rw [rput_get l o s v j]
      by_cases h : j = o
      · rw [if_pos h, if_pos (by omega)]
        rfl
      · rw [if_neg h, if_neg (by omega)]
        rfl
theorem lku_cons {s j : Nat} {v : Vl} {l : List (Nat × Vl)} : lku j ((s, v) :: l) = if j = s then some v else lku j l := by
  show (match Nat.beq s j with
    | true => some v
    | false => lku j l) = _
  by_cases h : j = s
  · subst h
    rw [if_pos rfl, Nat.beq_refl j]
  · rw [if_neg h]
    have : Nat.beq s j = false := by
      cases hb : Nat.beq s j
      · rfl
      · exact absurd (Nat.eq_of_beq_eq_true hb).symm h
    rw [this]
theorem rvl_set {q : RQ} {s : Nat} {v : Vl} (j : Nat) : rvl (rset q s v) j = if j = s then v else rvl q j := by
  show (match lku j ((s, v) :: q.2.2.2) with
    | some v => v
    | none => rdf q j) = _
  rw [lku_cons]
  by_cases h : j = s
  · rw [if_pos h, if_pos h]
  · rw [if_neg h, if_neg h]
    rfl
def rcell (G : Ge) (q : RQ) (a : Nat) (H : Heap) : Prop := match q.1 with
  | 0 => t_OB a (gC G q.2.1) q.2.2.1 (gI G q.2.1) H (fun f => mv G (rvl q f))
  | _ => H[a]? = some (arrV (gA G q.2.1) q.2.2.1 (fun i => mv G (rvl q i)))
def HR (G : Ge) (cs : Rm) (H : Heap) : Prop := H.size = gb G + cs.length ∧ ∀ (j : Nat) (q : RQ), cs[j]? = some q → rcell G q (gb G + j) H
theorem rcell_kept {G : Ge} {q : RQ} {a : Nat} {H H' : Heap} (h : rcell G q a H) (hq : H'[a]? = H[a]?) : rcell G q a H' := by
  unfold rcell at h ⊢
  split at h
  · exact h.kept hq
  · rw [hq]
    exact h
theorem HR_push {G : Ge} {cs : Rm} {H H' : Heap} {q : RQ} (h : HR G cs H) (hs : H'.size = H.size + 1) (ho : ∀ x, x < H.size → H'[x]? = H[x]?) (hc : rcell G q H.size H') : HR G (cs ++ [q]) H' := by
  refine ⟨by rw [hs, h.1, List.length_append]; rfl, fun j x hx => ?_⟩
  by_cases hl : j < cs.length
  · rw [List.getElem?_append_left hl] at hx
    exact rcell_kept (h.2 j x hx) (ho _ (by rw [h.1]; omega))
  · rw [List.getElem?_append_right (by omega)] at hx
    have hz : j - cs.length < 1 := (List.getElem?_eq_some_iff.mp hx).1
    have hj : j = cs.length := by omega
    subst hj
    rw [Nat.sub_self] at hx
    cases hx
    rw [← h.1]
    exact hc
theorem HR_put {G : Ge} {cs : Rm} {H H' : Heap} {o s : Nat} {v : Vl} {q : RQ} (h : HR G cs H) (hq : cs[o]? = some q) (hs : H'.size = H.size) (ho : ∀ x, x ≠ gb G + o → H'[x]? = H[x]?) (hc : rcell G (rset q s v) (gb G + o) H') : HR G (rput cs o s v) H' := by
  refine ⟨by rw [hs, h.1, rput_len], fun j x hx => ?_⟩
  rw [rput_get] at hx
  by_cases e : j = o
  · subst e
    rw [if_pos rfl, hq] at hx
    cases hx
    exact hc
  · rw [if_neg e] at hx
    exact rcell_kept (h.2 j x hx) (ho _ (by omega))
/-- what the tables say while the objects are made -/
def rAO (t : FieldType) (U : State) : Prop := (Cond.arrayOver t).before #[] U = true
theorem rAO_moved {t : FieldType} {u U : State} (hvm : u.vm.Alike U.vm) (h : rAO t u) : rAO t U := Cond.overAtom_setVm hvm _ rfl h
def KR (G : Ge) (U : State) : Prop := va_K (gC G, gI G) vwCl [] U ∧ (∀ t, t < 8 → U.vm.findClass ("[" ++ (aty t).toString) = some (gA G t)) ∧ rAO (aty 4) U ∧ rAO (aty 5) U ∧ rAO (aty 6) U ∧ rAO (aty 7) U ∧ (∀ w ∈ lw_tbl, isNest w = true → va_Nw w U) ∧ (∀ o i, gad G o i = gb G + o)
theorem KR_moved {G : Ge} {u U : State} (hvm : u.vm.Alike U.vm) (hnest : ∀ w : Cond, isNest w = true → va_Nw w u → va_Nw w U) (h : KR G u) : KR G U := by
  obtain ⟨h1, h2, h3, h4, h5, h6, h7, h8⟩ := h
  exact ⟨h1.moved hvm, fun t ht => by rw [hvm.findClass]; exact h2 t ht, rAO_moved hvm h3, rAO_moved hvm h4, rAO_moved hvm h5, rAO_moved hvm h6, fun w hw hn => hnest w hn (h7 w hw hn), h8⟩
def EvR (G : Ge) (M : MS) (p : Program) (s : State) (m : MethodId) (args : Array Value) (meth : Method) (c : Code) : Prop :=
  p.tables.exec = Jvm.exec ∧ c.code = mc M ∧ meth.sig.returnType = none ∧ meth.locks = false ∧ c.maxLocals = mL M ∧ s.vm.findClass (my M).cls = some m.cls ∧ (∀ w ∈ lw_g, w.before args s = true) ∧ KR G s ∧ meth.name = "<init>"
def RtR (G : Ge) (M : MS) (p : Program) (e : Env) (s : State) (m : MethodId) (args : Array Value) (below : List Frame) (meth : Method) (c : Code) (Q : State → Prop) (cs' : Rm) : Prop :=
  ∀ (H : Heap) (locs : List Loc) (L : Array Slot) (pc : Nat), HR G cs' H → va_S (Aw G) s.heap H locs → decode (mc M) pc = .ok (.return_, 1) → W p (gl G) e (mR M) s m args below meth c H locs (mR M).cells (mR M).slots Q (F0 m pc L [])
def RS (G : Ge) (M : MS) (pc : Nat) (ls st : List Vl) (cs : Rm) (k w : Nat) (cs' : Rm) : Prop :=
  ∀ (p : Program) (e : Env) (s : State) (m : MethodId) (args : Array Value) (below : List Frame) (meth : Method) (c : Code) (Q : State → Prop), EvR G M p s m args meth c → RtR G M p e s m args below meth c Q cs' →
    ∀ (H : Heap) (locs : List Loc) (L : Array Slot), HR G cs H → va_S (Aw G) s.heap H locs → lR G L (mL M) ls → W p (gl G) e (mR M) s m args below meth c H locs k w Q (F0 m pc L (st.map (mv G)))
/-! its instructions -/
theorem cls_df : ∀ (ci : Nat) (q : vw_C), vwCl[ci]? = some q → ∀ f, f < q.2.2 → (parseFieldDescriptor (q.2.1 f).2.2.1).map defaultValue = some (rdf (0, ci, 0, []) f).1 ∧ ∀ k, (rdf (0, ci, 0, []) f).1 ≠ .ref k := by
  intro ci q h
  have nr : ∀ f k, (rdf (0, ci, 0, []) f).1 ≠ .ref k := by
    intro f k
    unfold rdf
    intro h
    repeat' split at h
    all_goals cases h
  have main : ∀ f, f < q.2.2 → (parseFieldDescriptor (q.2.1 f).2.2.1).map defaultValue = some (rdf (0, ci, 0, []) f).1 := by
    match ci, h with
    | 0, h => cases h; decide +kernel
    | 1, h => cases h; decide +kernel
    | 2, h => cases h; decide +kernel
    | 3, h => cases h; decide +kernel
    | 4, h => cases h; decide +kernel
    | 5, h => cases h; decide +kernel
    | 6, h => cases h; decide +kernel
    | 7, h => cases h; decide +kernel
    | n + 8, h => simp [vwCl] at h
  exact fun f hf => ⟨main f hf, nr f⟩
theorem mv_nr {G : Ge} {v : Vl} (h : ∀ k, v.1 ≠ .ref k) : mv G v = v.1 := by
  obtain ⟨a, b⟩ := v
  cases a <;> first | rfl | exact absurd rfl (h _)
section R1
variable {G : Ge} {M M' : MS} {pc : Nat} {ls st r : List Vl} {cs cs' : Rm} {k w : Nat}
theorem RS_go {pc' : Nat} {st' : List Vl} (hgo : ∀ (p : Program) (e : Env) (s : State) (m : MethodId) (args : Array Value) (below : List Frame) (meth : Method) (c : Code) (Q : State → Prop), EvR G M p s m args meth c → ∀ (H : Heap) (locs : List Loc) (L : Array Slot), lR G L (mL M) ls → W p (gl G) e (mR M) s m args below meth c H locs k w Q (F0 m pc' L (st'.map (mv G))) → W p (gl G) e (mR M) s m args below meth c H locs k w Q (F0 m pc L (st.map (mv G))))
    (h : RS G M pc' ls st' cs k w cs') : RS G M pc ls st cs k w cs' := by
  intro p e s m args below meth c Q E R H locs L hH hS hL
  exact hgo p e s m args below meth c Q E H locs L hL (h p e s m args below meth c Q E R H locs L hH hS hL)
theorem va_S_push {A : Nat → Prop} {H0 H H' : Heap} {locs : List Loc} (h : va_S A H0 H locs) (hs : H.size ≤ H'.size) (ho : ∀ x, x < H.size → H'[x]? = H[x]?) : va_S A H0 H' locs := ⟨Nat.le_trans h.1 hs, fun q h1 h2 => (ho q (Nat.lt_of_lt_of_le h1 h.1)).trans (h.2.1 q h1 h2), h.2.2⟩
theorem RS_new {idx ci n : Nat} (hd : decode (mc M) pc = .ok (.new idx, 3)) (hq : ∃ C T, vwCl[ci]? = some (C, T, n) ∧ Cond.classLink (my M).cls idx C ∈ lw_g ∧ Cond.instantiable C n ∈ lw_g ∧ Cond.initialized C ∈ lw_g) (hk : k + 1 ≤ (mR M).cells) (hw : w + n ≤ (mR M).slots)
    (h : RS G M (pc + 3) ls ((.ref cs.length, 0) :: st) (cs ++ [(0, ci, n, [])]) (k + 1) (w + n) cs') : RS G M pc ls st cs k w cs' := by
  intro p e s m args below meth c Q E R H locs L hH hS hL
  obtain ⟨C, T, hc, w1, w2, w3⟩ := hq
  have hts := E.2.2.2.2.2.2.1
  have hK := E.2.2.2.2.2.2.2.1
  have hKn := hK.1.1 ci _ hc
  refine W.newcK E.1 E.2.1 E.2.2.2.2.2.1 (hts _ w1) (hts _ w2) (hts _ w3) rfl hd hk hw hKn.2.1 rfl fun H1 kC hkC e1 z1 o1 => ?_
  obtain ⟨-, ty, hty⟩ := cls_nm ci _ hc
  have hob := u_born ty hts (cls_in ci _ hc) hKn hkC e1 hty
  have hcell : rcell G (0, ci, n, []) H.size H1 := by
    show t_OB H.size (gC G ci) n (gI G ci) H1 (fun f => mv G (rvl (0, ci, n, []) f))
    refine hob.to (fun f hf => ?_)
    obtain ⟨g1, g2⟩ := cls_df ci _ hc f hf
    rw [hty f hf] at g1
    have e0 : rvl (0, ci, n, []) f = rdf (0, ci, 0, []) f := rfl
    rw [e0, mv_nr g2]
    exact Option.some.inj g1
  have hH1 := HR_push hH z1 o1 hcell
  have href : mv G (.ref cs.length, 0) = .ref H.size := by
    show Value.ref (gad G cs.length 0) = _
    rw [hK.2.2.2.2.2.2.2, hH.1]
  have h9 := h p e s m args below meth c Q E R H1 locs L hH1 (va_S_push hS (by omega) o1) hL
  rw [List.map_cons, href] at h9
  exact h9
def naT : ArrayType → Option Nat := fun t => match t with
  | .int => some 0
  | .long => some 1
  | .byte => some 2
  | .boolean => some 3
  | _ => none
theorem naT_ty {t : ArrayType} {a : Nat} (h : naT t = some a) : newarray.typeOf t = aty a ∧ a < 8 ∧ (∀ i, (rdf (1, a, 0, []) i).1 = defaultValue (aty a) ∧ ∀ k, (rdf (1, a, 0, []) i).1 ≠ .ref k) ∧ componentBytes (aty a) ≤ 8 := by
  cases t <;> first | (cases h; exact ⟨rfl, by decide, fun i => ⟨rfl, fun k h => by cases h⟩, by decide⟩) | cases h
theorem arr_words : ∀ a, a < 4 → Cond.arrayClass (aty a) ∈ lw_g := by decide +kernel
theorem RS_newa {t : ArrayType} {a e1 : Nat} {n : Int32} (hd : decode (mc M) pc = .ok (.newarray t, 2)) (ha : naT t = some a) (hn : ¬ n < 0) (hn2 : n.toNatClampNeg ≤ 10000) (hk : k + 1 ≤ (mR M).cells) (hw : w + n.toNatClampNeg ≤ (mR M).slots)
    (h : RS G M (pc + 2) ls ((.ref cs.length, 0) :: r) (cs ++ [(1, a, n.toNatClampNeg, [])]) (k + 1) (w + n.toNatClampNeg) cs') : RS G M pc ls ((.int n, e1) :: r) cs k w cs' := by
  intro p e s m args below meth c Q E R H locs L hH hS hL
  obtain ⟨t1, t2, t3, t4⟩ := naT_ty ha
  have ha4 : a < 4 := by
    cases t <;> first | (cases ha; decide) | cases ha
  have hts := E.2.2.2.2.2.2.1
  have hK := E.2.2.2.2.2.2.2.1
  refine va_newaK (atype := t) E.1 E.2.1 (by rw [t1]; exact hts _ (arr_words a ha4)) rfl hd rfl hn rfl (by rw [t1]; exact Nat.le_trans (Nat.mul_le_mul hn2 t4) (by decide)) hk hw rfl fun H1 cA e1 z1 o1 hAr hNm => ?_
  rw [t1, hK.2.1 a t2] at hNm
  cases Option.some.inj hNm
  have hcell : rcell G (1, a, n.toNatClampNeg, []) H.size H1 := by
    show H1[H.size]? = some (arrV (gA G a) n.toNatClampNeg (fun i => mv G (rvl (1, a, n.toNatClampNeg, []) i)))
    rw [e1, t1]
    congr 2
    funext i
    have e0 : rvl (1, a, n.toNatClampNeg, []) i = rdf (1, a, 0, []) i := rfl
    rw [e0, mv_nr (t3 i).2, (t3 i).1]
  have hH1 := HR_push hH z1 o1 hcell
  have href : mv G (.ref cs.length, 0) = .ref H.size := by
    show Value.ref (gad G cs.length 0) = _
    rw [hK.2.2.2.2.2.2.2, hH.1]
  have h9 := h p e s m args below meth c Q E R H1 locs L hH1 (va_S_push hS (by omega) o1) hL
  rw [List.map_cons, href] at h9
  exact h9
theorem RS_anew {idx a e1 : Nat} {C : String} {n : Int32} (hd : decode (mc M) pc = .ok (.anewarray idx, 3)) (ha : aty a = .object C ∧ a < 8 ∧ 4 ≤ a) (hw0 : Cond.classLink (my M).cls idx C ∈ lw_g) (hn : ¬ n < 0) (hn2 : n.toNatClampNeg ≤ 10000) (hk : k + 1 ≤ (mR M).cells) (hw : w + n.toNatClampNeg ≤ (mR M).slots)
    (h : RS G M (pc + 3) ls ((.ref cs.length, 0) :: r) (cs ++ [(1, a, n.toNatClampNeg, [])]) (k + 1) (w + n.toNatClampNeg) cs') : RS G M pc ls ((.int n, e1) :: r) cs k w cs' := by
  intro p e s m args below meth c Q E R H locs L hH hS hL
  have hts := E.2.2.2.2.2.2.1
  have hK := E.2.2.2.2.2.2.2.1
  have hover : rAO (.object C) s := by
    rw [← ha.1]
    obtain ⟨-, ha8, ha4⟩ := ha
    have : a = 4 ∨ a = 5 ∨ a = 6 ∨ a = 7 := by omega
    rcases this with rfl | rfl | rfl | rfl
    · exact hK.2.2.1
    · exact hK.2.2.2.1
    · exact hK.2.2.2.2.1
    · exact hK.2.2.2.2.2.1
  refine W.anew E.1 E.2.1 E.2.2.2.2.2.1 (hts _ hw0) hover rfl hd rfl hn (by omega) hk hw fun cA kA comp f1 f2 f3 f4 => ?_
  rw [← ha.1, hK.2.1 a ha.2.1] at f1
  cases Option.some.inj f1
  have hcell : rcell G (1, a, n.toNatClampNeg, []) H.size (H.push { cls := gA G a, slots := Array.replicate n.toNatClampNeg .null, vm := .none }) := by
    show (H.push _)[H.size]? = some (arrV (gA G a) n.toNatClampNeg (fun i => mv G (rvl (1, a, n.toNatClampNeg, []) i)))
    rw [Array.getElem?_push_size, arrV_new]
    congr 2
    funext i
    have e0 : rvl (1, a, n.toNatClampNeg, []) i = vn := by
      obtain ⟨-, ha8, ha4⟩ := ha
      have : a = 4 ∨ a = 5 ∨ a = 6 ∨ a = 7 := by omega
      rcases this with rfl | rfl | rfl | rfl <;> rfl
    rw [e0]
    rfl
  have o1 : ∀ x, x < H.size → (H.push { cls := gA G a, slots := Array.replicate n.toNatClampNeg .null, vm := .none })[x]? = H[x]? := fun x hx => by rw [Array.getElem?_push, if_neg (Nat.ne_of_lt hx)]
  have hH1 := HR_push hH (Array.size_push _) o1 hcell
  have href : mv G (.ref cs.length, 0) = .ref H.size := by
    show Value.ref (gad G cs.length 0) = _
    rw [hK.2.2.2.2.2.2.2, hH.1]
  have h9 := h p e s m args below meth c Q E R _ locs L hH1 (va_S_push hS (by rw [Array.size_push]; omega) o1) hL
  rw [List.map_cons, href] at h9
  exact h9
end R1
