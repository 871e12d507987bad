/-! more of its instructions -/
section R2
variable {G : Ge} {M M' : MS} {pc : Nat} {ls st r : List Vl} {cs cs' : Rm} {k w : Nat}
theorem lku_rng (g : Nat → Vl) (j : Nat) : ∀ (n a : Nat), lku j ((List.range' a n).map (fun i => (i, g i))) = if a ≤ j ∧ j < a + n then some (g j) else none
  | 0, a => by
    rw [if_neg (by omega)]
    rfl
  | n + 1, a => by
    rw [List.range'_succ, List.map_cons, lku_cons, lku_rng g j n (a + 1)]
    by_cases h : j = a
    · subst h
      rw [if_pos rfl, if_pos (by omega)]
    · rw [if_neg h]
      by_cases h2 : a + 1 ≤ j ∧ j < a + 1 + n
      · rw [if_pos h2, if_pos (by omega)]
      · rw [if_neg h2, if_neg (by omega)]
def rOut (l n : Nat) : RQ := (1, 7, n, (List.range' 0 n).map (fun i => (i, ((.ref (l + 1 + i), 0) : Vl))))
theorem HR_apps {G : Ge} {cs : Rm} {H H' : Heap} (qs : Rm) (h : HR G cs H) (hs : H'.size = H.size + qs.length) (ho : ∀ x, x < H.size → H'[x]? = H[x]?) (hc : ∀ j q, qs[j]? = some q → rcell G q (H.size + j) H') : HR G (cs ++ qs) H' := by
  refine ⟨by rw [hs, h.1, List.length_append]; omega, fun j x hx => ?_⟩
  by_cases hl : j < cs.length
  · rw [List.getElem?_append_left hl] at hx
    exact rcell_kept (h.2 j x hx) (ho _ (by rw [h.1]; omega))
  · rw [List.getElem?_append_right (by omega)] at hx
    have := hc _ x hx
    rw [h.1, show gb G + cs.length + (j - cs.length) = gb G + j by omega] at this
    exact this
theorem outer_arr (c : ClassId) (N h0 : Nat) : ∀ i : Nat, Jvm.Free.Multi.outerC c N h0 i = arrV c N (fun j => if j < i then .ref (h0 + 1 + j) else .null)
  | 0 => by
    show ({ cls := c, slots := Array.replicate N .null, vm := .none } : Cell) = _
    rw [arrV_new]
    congr 1
  | i + 1 => by
    show (Jvm.Free.Multi.outerC c N h0 i).setSlot i (.ref (h0 + 1 + i)) = _
    rw [outer_arr c N h0 i, arrV_store]
    congr 1
    funext j
    by_cases h : j = i
    · subst h
      simp [updV]
    · by_cases h2 : j < i
      · rw [if_pos (by omega)]
        simp [updV, h, h2]
      · rw [if_neg (by omega)]
        simp [updV, h, h2]
theorem inner_arr (c : ClassId) (K : Nat) (v : Value) : Jvm.Free.Multi.innerC c K v = arrV c K (fun _ => v) := by
  show ({ cls := c, slots := Array.replicate K v, vm := .none } : Cell) = _
  rw [arrV_new]
theorem RS_multi {idx e1 e2 : Nat} {n m2 : Int32} (hd : decode (mc M) pc = .ok (.multianewarray idx 2, 4)) (hw0 : Cond.classLink (my M).cls idx "[[I" ∈ lw_g) (hn : ¬ n < 0) (hn2 : n.toNatClampNeg ≤ 100) (hm : ¬ m2 < 0) (hm2 : m2.toNatClampNeg ≤ 100) (hk : k + (1 + n.toNatClampNeg) ≤ (mR M).cells) (hw : w + (n.toNatClampNeg + n.toNatClampNeg * m2.toNatClampNeg) ≤ (mR M).slots)
    (h : RS G M (pc + 4) ls ((.ref cs.length, 0) :: r) (cs ++ (rOut cs.length n.toNatClampNeg :: List.replicate n.toNatClampNeg (1, 0, m2.toNatClampNeg, []))) (k + 1 + n.toNatClampNeg) (w + n.toNatClampNeg + n.toNatClampNeg * m2.toNatClampNeg) cs') : RS G M pc ls ((.int m2, e1) :: (.int n, e2) :: r) cs k w cs' := by
  intro p e s m args below meth c Q E R H locs L hH hS hL T hT Xs
  have hts := E.2.2.2.2.2.2.1
  have hK := E.2.2.2.2.2.2.2.1
  have hb : c.code = mc M := E.2.1
  obtain ⟨vm₁, cA, comp, -, fA, fC, hO, -, X', step⟩ := Xs.multianewarray2F (ty := .int) E.1 E.2.2.2.2.2.1 (hts _ hw0) (show (Cond.arrayOver (.array .int)).before args s = true from hK.2.2.2.2.2.1) (hts _ (arr_words 0 (by decide))) (g := F0 m pc L (.int m2 :: .int n :: r.map (mv G))) rfl (by rw [hb]; exact hd) rfl hn hm (by omega) (by show m2.toNatClampNeg * 4 ≤ _; omega) (by omega) rfl rfl hk hw
  have eA : cA = gA G 7 := Option.some.inj (fA.symm.trans (hK.2.1 7 (by decide)))
  have eC : comp = gA G 0 := Option.some.inj (fC.symm.trans (hK.2.1 0 (by decide)))
  subst eA
  subst eC
  generalize hF : Jvm.Free.Multi.fill (T.setVm vm₁) (gA G 7) (gA G 0) n.toNatClampNeg m2.toNatClampNeg (defaultValue .int) n.toNatClampNeg = F at X' step
  have hTh : (T.setVm vm₁).heap = H := hT
  obtain ⟨f1, f2, -, -⟩ := Jvm.Free.Multi.fill_facts (T.setVm vm₁) (gA G 7) (gA G 0) n.toNatClampNeg m2.toNatClampNeg (defaultValue .int) n.toNatClampNeg
  rw [hF, hTh] at f1 f2
  have hold : ∀ x : Nat, x < H.size → F.heap[x]? = H[x]? := fun x hx => by
    have := Jvm.Free.Multi.fill_old (T.setVm vm₁) (gA G 7) (gA G 0) n.toNatClampNeg m2.toNatClampNeg (defaultValue .int) (a := x) (by rw [hTh]; exact hx) n.toNatClampNeg
    rw [hF, hTh] at this
    exact this
  have hrow : ∀ j : Nat, j < n.toNatClampNeg → F.heap[H.size + 1 + j]? = some (arrV (gA G 0) m2.toNatClampNeg (fun _ => .int 0)) := fun j hj => by
    have := Jvm.Free.Multi.fill_inner (T.setVm vm₁) (gA G 7) (gA G 0) n.toNatClampNeg m2.toNatClampNeg (defaultValue .int) n.toNatClampNeg j hj
    rw [hF, hTh, inner_arr] at this
    exact this
  have href : ∀ o, mv G (.ref o, 0) = .ref (gb G + o) := fun o => by
    show Value.ref (gad G o 0) = _
    rw [hK.2.2.2.2.2.2.2]
  have hH1 : HR G (cs ++ (rOut cs.length n.toNatClampNeg :: List.replicate n.toNatClampNeg (1, 0, m2.toNatClampNeg, []))) F.heap := by
    refine HR_apps _ hH (by rw [f1, List.length_cons, List.length_replicate]; omega) hold (fun j q hq => ?_)
    cases j with
    | zero =>
      cases hq
      show F.heap[H.size + 0]? = some (arrV (gA G 7) n.toNatClampNeg (fun i => mv G (rvl (rOut cs.length n.toNatClampNeg) i)))
      rw [Nat.add_zero, f2, outer_arr]
      congr 2
      funext i
      have e0 : rvl (rOut cs.length n.toNatClampNeg) i = if i < n.toNatClampNeg then (.ref (cs.length + 1 + i), 0) else vn := by
        show (match lku i ((List.range' 0 n.toNatClampNeg).map (fun i => (i, ((.ref (cs.length + 1 + i), 0) : Vl)))) with
          | some v => v
          | none => vn) = _
        rw [lku_rng (fun i => ((.ref (cs.length + 1 + i), 0) : Vl)) i n.toNatClampNeg 0]
        by_cases hi : i < n.toNatClampNeg
        · rw [if_pos (by omega), if_pos hi]
        · rw [if_neg (by omega), if_neg hi]
      rw [e0]
      by_cases hi : i < n.toNatClampNeg
      · rw [if_pos hi, if_pos hi, href]
        have h0 := hH.1
        have h1 : H.size + 1 + i = gb G + (cs.length + 1 + i) := by omega
        rw [h1]
      · rw [if_neg hi, if_neg hi]
        rfl
    | succ j =>
      have hj : j < n.toNatClampNeg := by
        have := (List.getElem?_eq_some_iff.mp hq).1
        rw [List.length_cons, List.length_replicate] at this
        omega
      have hq2 : q = (1, 0, m2.toNatClampNeg, []) := by
        rw [List.getElem?_cons_succ] at hq
        exact List.eq_of_mem_replicate (List.mem_of_getElem? hq)
      subst hq2
      show F.heap[H.size + (j + 1)]? = some (arrV (gA G 0) m2.toNatClampNeg (fun i => mv G (rvl (1, 0, m2.toNatClampNeg, []) i)))
      rw [show H.size + (j + 1) = H.size + 1 + j by omega, hrow j hj]
      rfl
  have h9 := h p e s m args below meth c Q E R F.heap locs L hH1 (va_S_push hS (by omega) hold) hL
  rw [List.map_cons, href] at h9
  obtain ⟨t, a1, b1⟩ := h9 F rfl X'
  refine ⟨t, step t ?_, b1⟩
  have e : T.heap.size = gb G + cs.length := by rw [hT, hH.1]
  rw [e]
  exact a1
theorem cls_rf : ∀ (ci : Nat) (q : vw_C), vwCl[ci]? = some q → ∀ f, f < q.2.2 → 2 ≤ fc ci f → (parseFieldDescriptor (q.2.1 f).2.2.1).map FieldType.isReference = some true := by
  intro ci q h
  match ci, h with
  | 0, h => cases h; decide +kernel
  | 1, h => cases h; decide +kernel
  | 2, h => cases h; decide +kernel
  | 3, h => cases h; decide +kernel
  | 4, h => cases h; decide +kernel
  | 5, h => cases h; decide +kernel
  | 6, h => cases h; decide +kernel
  | 7, h => cases h; decide +kernel
  | n + 8, h => simp [vwCl] at h
theorem cls_ow : ∀ (ci : Nat) (q : vw_C), vwCl[ci]? = some q → ∀ f, f < q.2.2 → (q.2.1 f).1 = q.1 := by
  intro ci q h
  match ci, h with
  | 0, h => cases h; decide +kernel
  | 1, h => cases h; decide +kernel
  | 2, h => cases h; decide +kernel
  | 3, h => cases h; decide +kernel
  | 4, h => cases h; decide +kernel
  | 5, h => cases h; decide +kernel
  | 6, h => cases h; decide +kernel
  | 7, h => cases h; decide +kernel
  | n + 8, h => simp [vwCl] at h
theorem cls_ty2 : ∀ (ci : Nat) (q : vw_C), vwCl[ci]? = some q → ∀ f, f < q.2.2 → (fc ci f = 0 → parseFieldDescriptor (q.2.1 f).2.2.1 = some .int) ∧ (fc ci f = 1 → parseFieldDescriptor (q.2.1 f).2.2.1 = some .long) := fun ci q h f hf => ⟨fun e => ((cls_ty ci q h f hf).1 e).2, fun e => ((cls_ty ci q h f hf).2.1 e).2⟩
/-- a value that a field may hold -/
def rok (c f : Nat) (v : Vl) : Bool := match v.1 with
  | .int _ => Nat.beq (fc c f) 0
  | .long _ => Nat.beq (fc c f) 1
  | .ref _ => Nat.ble 2 (fc c f)
  | .null => Nat.ble 2 (fc c f)
  | _ => false
theorem rok_c {ci f : Nat} {v : Vl} {q : vw_C} (hc : vwCl[ci]? = some q) (hf : f < q.2.2) (h : rok ci f v = true) : ∃ ty, parseFieldDescriptor (q.2.1 f).2.2.1 = some ty ∧ narrow ty (mv G v) = mv G v ∧ fits ty (mv G v) = true := by
  obtain ⟨a, b⟩ := v
  have hr : 2 ≤ fc ci f → ∃ ty, parseFieldDescriptor (q.2.1 f).2.2.1 = some ty ∧ ty.isReference = true := by
    intro h2
    have := cls_rf ci q hc f hf h2
    cases hp : parseFieldDescriptor (q.2.1 f).2.2.1 with
    | none => rw [hp] at this; cases this
    | some ty =>
      rw [hp] at this
      exact ⟨ty, rfl, Option.some.inj this⟩
  cases a with
  | int x => exact ⟨.int, (cls_ty2 ci q hc f hf).1 (beqN h), rfl, rfl⟩
  | long x => exact ⟨.long, (cls_ty2 ci q hc f hf).2 (beqN h), rfl, rfl⟩
  | ref x =>
    obtain ⟨ty, h1, h2⟩ := hr (Nat.le_of_ble_eq_true h)
    refine ⟨ty, h1, ?_⟩
    cases ty <;> first | exact ⟨rfl, rfl⟩ | cases h2
  | null =>
    obtain ⟨ty, h1, h2⟩ := hr (Nat.le_of_ble_eq_true h)
    refine ⟨ty, h1, ?_⟩
    cases ty <;> first | exact ⟨rfl, rfl⟩ | cases h2
  | float x => cases h
  | double x => cases h
  | retAddr x => cases h
theorem RS_put {idx ci n f o e1 : Nat} {v : Vl} {u : List (Nat × Vl)} (hd : decode (mc M) pc = .ok (.putfield idx, 3)) (hl : okF (my M).cls (idx, ci, f) = true) (hown : vwCl[ci]?.map (fun q => q.1) = some (my M).cls) (hq : cs[o]? = some (0, ci, n, u)) (hn : vwCl[ci]?.map (fun q => q.2.2) = some n) (hv : rok ci f v = true)
    (h : RS G M (pc + 3) ls r (rput cs o f v) k w cs') : RS G M pc ls (v :: (.ref o, e1) :: r) cs k w cs' := by
  intro p e s m args below meth c Q E R H locs L hH hS hL
  obtain ⟨C, T, N, hc, hf, hwd⟩ := okF_c hl
  have hts := E.2.2.2.2.2.2.1
  have hK := E.2.2.2.2.2.2.2.1
  rw [hc] at hn hown
  have hn : N = n := Option.some.inj hn
  have hown : C = (my M).cls := Option.some.inj hown
  subst hn
  have hob : t_OB (gb G + o) (gC G ci) N (gI G ci) H (fun f => mv G (rvl (0, ci, N, u) f)) := hH.2 o _ hq
  obtain ⟨cell, q1, q2, q3, q4⟩ := hob
  have href : mv G (.ref o, e1) = .ref (gb G + o) := by
    show Value.ref (gad G o e1) = _
    rw [hK.2.2.2.2.2.2.2]
  have hin := cls_in ci _ hc
  obtain ⟨hnm, ty0, hty0⟩ := cls_nm ci _ hc
  have hap := va_apart (own := (my M).cls) hts hin ty0 hty0 hnm hK.1 hc
  obtain ⟨hSl, hfc, kC, hkC, hkind⟩ := hK.1.1 ci _ hc
  obtain ⟨cf, kf, fi, fd, hi', hsl⟩ := hSl f hf
  obtain ⟨ty, hdsc, hnar, hfit⟩ := rok_c (G := G) hc hf hv
  have hst0 := (u_facts hfc hkC (u_lays hts hin hf) hi').1
  have fin : ∀ H' : Heap, H'[gb G + o]? = some (cell.setSlot fd.slot (mv G v)) → H'.size = H.size → (∀ q, q ≠ gb G + o → H'[q]? = H[q]?) → W p (gl G) e (mR M) s m args below meth c H' (locs ++ [⟨gb G + o, fd.slot⟩]) k w Q (F0 m (pc + 3) L (r.map (mv G))) := by
    intro H' e1 e2 e3
    refine h p e s m args below meth c Q E R H' _ L (HR_put hH hq e2 e3 ?_) (hS.put e2 e3 (Nat.le_add_right _ _)) hL
    show t_OB (gb G + o) (gC G ci) N (gI G ci) H' (fun g => mv G (rvl (rset (0, ci, N, u) f v) g))
    rw [hsl] at e1
    refine t_OB.to (V := updV (fun g => mv G (rvl (0, ci, N, u) g)) f (mv G v)) ⟨_, e1, q2, q3, t_set q4 hap hf (mv G v)⟩ (fun j hj => ?_)
    rw [rvl_set]
    by_cases ej : j = f
    · rw [if_pos ej]
      simp [updV, ej]
    · rw [if_neg ej]
      simp [updV, ej]
  show W p (gl G) e (mR M) s m args below meth c H locs k w Q (F0 m pc L (mv G v :: mv G (.ref o, e1) :: r.map (mv G)))
  rw [href]
  have hlay := hts _ (hin _ (u_in_lay hf))
  unfold u_lay at hlay
  by_cases hfin : (T f).2.2.2 = true
  · rw [if_pos hfin] at hlay
    have hcf : m.cls = cf := by
      obtain ⟨_, _, c', _, _, _, -, -, hf', -, -, -, hown2, -⟩ := Cond.laysFinal_spec hlay
      have e1 : c' = cf := by have := hi'.symm.trans hf'; simp at this; exact this.1.symm
      have ho := cls_ow ci _ hc f hf
      rw [show (T f).1 = (my M).cls from (ho.trans hown)] at hown2
      rw [← e1]
      exact Option.some.inj (E.2.2.2.2.2.1.symm.trans hown2)
    have h6 := u_fits hfc hkC hkind (Or.inr hlay) hi' hdsc hnar hfit
    exact W.putFinK E.1 E.2.1 E.2.2.2.2.2.1 (hts _ hwd) hi' hst0 hcf E.2.2.2.2.2.2.2.2 (by rw [q2]; exact h6) q1 q3 (by rw [hsl]; exact k2_hasslot (q4 f hf)) rfl rfl hd fin
  · rw [if_neg hfin] at hlay
    have h6 := u_store hfc hkC hkind hlay hi' hdsc hnar hfit
    exact W.putK E.1 E.2.1 (f := fd) ⟨E.2.2.2.2.2.1, hts _ hwd, ⟨_, _, _, hi'⟩, hst0⟩ (by rw [q2]; exact h6) q1 q3 (by rw [hsl]; exact k2_hasslot (q4 f hf)) rfl rfl hd fin
theorem RS_get {idx ci n f o e1 : Nat} {u : List (Nat × Vl)} (hd : decode (mc M) pc = .ok (.getfield idx, 3)) (hl : okF (my M).cls (idx, ci, f) = true) (hq : cs[o]? = some (0, ci, n, u)) (hn : vwCl[ci]?.map (fun q => q.2.2) = some n)
    (h : RS G M (pc + 3) ls (rvl (0, ci, n, u) f :: r) cs k w cs') : RS G M pc ls ((.ref o, e1) :: r) cs k w cs' := by
  intro p e s m args below meth c Q E R H locs L hH hS hL
  obtain ⟨C, T, N, hc, hf, hwd⟩ := okF_c hl
  have hts := E.2.2.2.2.2.2.1
  have hK := E.2.2.2.2.2.2.2.1
  rw [hc] at hn
  have hn : N = n := Option.some.inj hn
  subst hn
  have hob : t_OB (gb G + o) (gC G ci) N (gI G ci) H (fun f => mv G (rvl (0, ci, N, u) f)) := hH.2 o _ hq
  obtain ⟨cell, q1, q2, q3, q4⟩ := hob
  have href : mv G (.ref o, e1) = .ref (gb G + o) := by
    show Value.ref (gad G o e1) = _
    rw [hK.2.2.2.2.2.2.2]
  have hin := cls_in ci _ hc
  obtain ⟨hSl, hfc, kC, hkC, hkind⟩ := hK.1.1 ci _ hc
  obtain ⟨cf, kf, fi, fd, hi', hsl⟩ := hSl f hf
  show W p (gl G) e (mR M) s m args below meth c H locs k w Q (F0 m pc L (mv G (.ref o, e1) :: r.map (mv G)))
  rw [href]
  exact W.getf E.1 E.2.1 E.2.2.2.2.2.1 (hts _ hwd) hi' (u_facts hfc hkC (u_lays hts hin hf) hi').1 q1 (by rw [q3]; exact fun h => by cases h) (v := mv G (rvl (0, ci, N, u) f)) (by rw [hsl]; exact q4 f hf) rfl rfl hd (h p e s m args below meth c Q E R H locs L hH hS hL)
end R2
