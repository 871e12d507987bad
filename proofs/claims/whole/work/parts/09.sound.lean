/-! System.arraycopy -/
section S5
variable {G : Ge} {M : MS} {pc : Nat} {ls : List Vl} {μ : Mm} {Φ : Ph}
theorem copy_W {p : Program} {l : Launch} {e : Env} {R : Room} {s : State} {m : MethodId} {args : Array Value} {below : List Frame} {meth : Method} {c : Code} {H : Heap} {locs : List Loc} {cells slots : Nat} {Q : State → Prop} {cc : ByteArray} {ls : Array Slot} {rest : List Value} {A : Nat → Prop} {H0 : Heap} {α : Type} (mk : α → Value) (hexec : p.tables.exec = Jvm.exec) (hb : c.code = cc) (hml : c.maxLocals = ls.size) {own : String} {index : Nat} (hown : s.vm.findClass own = some m.cls) (hlink : (Cond.methodLink own index arraycopyName).before args s = true) (hnat : (Cond.native arraycopyName).before args s = true) (hstat : (Cond.static arraycopyName).before args s = true) (hini : (Cond.initialized "java/lang/System").before args s = true)
    (hS : va_S A H0 H locs) {a0 a : Nat} {c0 c1 : ClassId} {n0 n1 : Nat} {f g : Nat → α} {ty : FieldType} (hc0 : H[a0]? = some (arrV c0 n0 (fun j => mk (f j)))) (hc1 : H[a]? = some (arrV c1 n1 (fun j => mk (g j)))) (ht0 : ArrOfT s c0 ty) (ht1 : ArrOfT s c1 ty) (hprim : refKind ty = false) (hA : A a)
    {sp dp n : Int32} (h1 : ¬ sp < 0) (h2 : ¬ dp < 0) (h3 : ¬ n < 0) (h4 : sp.toNatClampNeg + n.toNatClampNeg ≤ n0) (h5 : dp.toNatClampNeg + n.toNatClampNeg ≤ n1) (hfit : ∀ x, fits ty (mk x) = true) (hnr : ∀ x q, mk x ≠ .ref q)
    (hframes : 1 ≤ R.frames) (hlocals : (rest.map fun v => v.category).sum + (nativeFrameWords "java/lang/System" "arraycopy" 5 + 11) ≤ R.locals) (hdg : decode cc pc = .ok (.invokestatic index, 3))
    (kk : ∀ (H1 : Heap) (locs1 : List Loc), H1[a]? = some (arrV c1 n1 (fun j => mk (va_cpy f g sp.toNatClampNeg dp.toNatClampNeg n.toNatClampNeg j))) → (∀ q, q ≠ a → H1[q]? = H[q]?) → va_S A H0 H1 locs1 → W p l e R s m args below meth c H1 locs1 cells slots Q (F0 m (pc + 3) ls rest)) : W p l e R s m args below meth c H locs cells slots Q (F0 m pc ls (.int n :: .int dp :: .ref a :: .int sp :: .ref a0 :: rest)) := by
  have nn : ∀ z : Int32, ¬ z < 0 → z.toInt = (z.toNatClampNeg : Int) := by
    intro z hz
    have hz0 : (0 : Int) ≤ z.toInt := by
      have := Int32.not_lt.mp hz
      simpa using Int32.le_iff_toInt_le.mp this
    show z.toInt = ((z.toInt.toNat : Nat) : Int)
    omega
  intro T hT X
  obtain ⟨-, k0, hk0, cm0, hkk0⟩ := ht0 n0 (fun j => mk (f j))
  obtain ⟨-, k1, hk1, cm1, hkk1⟩ := ht1 n1 (fun j => mk (g j))
  obtain ⟨vm', X', step⟩ := X.arraycopy hexec hown hlink hnat hstat hini (src := a0) (dst := a) (cs := arrV c0 n0 (fun j => mk (f j))) (cd := arrV c1 n1 (fun j => mk (g j))) (srcPos := sp) (destPos := dp) (n := n) (by rw [hT]; exact hc0) (by rw [hT]; exact hc1)
    (fun _ h => by cases h) (fun _ h => by cases h) (fun h => by cases h) (fun h => by cases h) hk0 hk1 hkk0 hkk1 (by simp [hprim]) h1 h2 h3
    (by rw [nn sp h1, nn n h3]; show ¬ _ > ((arrV c0 n0 (fun j => mk (f j))).slots.size : Int); rw [arrV_size]; omega)
    (by rw [nn dp h2, nn n h3]; show ¬ _ > ((arrV c1 n1 (fun j => mk (g j))).slots.size : Int); rw [arrV_size]; omega)
    (fun vm₁ _ i hi => by
      have e : (arrV c0 n0 (fun j => mk (f j))).slots.getD (sp.toNatClampNeg + i) .null = mk (f (sp.toNatClampNeg + i)) := by
        rw [Array.getD_eq_getD_getElem?, arrV_read _ _ (by omega)]
        rfl
      refine ⟨?_, ?_⟩
      · rw [e]
        exact hfit _
      · rw [e]
        have := hnr (f (sp.toNatClampNeg + i))
        cases hq : mk (f (sp.toNatClampNeg + i)) <;> first | exact trivial | exact absurd hq (this _))
    (g := F0 m pc ls (.int n :: .int dp :: .ref a :: .int sp :: .ref a0 :: rest)) rfl (by rw [hml]) (rest := rest) rfl (by rw [hb]; exact hdg) hframes (by show 2 * 0 + _ + _ ≤ _; omega)
  have e1 : copied (arrV c0 n0 (fun j => mk (f j))) (arrV c1 n1 (fun j => mk (g j))) sp dp n = arrV c1 n1 (fun j => mk (va_cpy f g sp.toNatClampNeg dp.toNatClampNeg n.toNatClampNeg j)) := va_copied mk c0 c1 f g h4
  rw [e1] at X' step
  have hl : a < H.size := (Array.getElem?_eq_some_iff.mp hc1).1
  have hheap : ((T.setVm vm').setCell a (arrV c1 n1 (fun j => mk (va_cpy f g sp.toNatClampNeg dp.toNatClampNeg n.toNatClampNeg j)))).heap = H.setIfInBounds a (arrV c1 n1 (fun j => mk (va_cpy f g sp.toNatClampNeg dp.toNatClampNeg n.toNatClampNeg j))) := by rw [← hT]; rfl
  have oq : ∀ q : Nat, q ≠ a → (H.setIfInBounds a (arrV c1 n1 (fun j => mk (va_cpy f g sp.toNatClampNeg dp.toNatClampNeg n.toNatClampNeg j))))[q]? = H[q]? := fun q hq => by simp [Array.getElem?_setIfInBounds, Ne.symm hq]
  obtain ⟨t, a1, b1⟩ := kk _ _ (show (H.setIfInBounds a _)[a]? = some _ by simp [Array.getElem?_setIfInBounds, hl]) oq ⟨by simp; exact hS.1, fun q g1 g2 => by
      rw [oq q (fun e => g2 (by rw [e]; exact hA))]
      exact hS.2.1 q g1 g2, fun q hq => by
      rcases List.mem_append.mp hq with h | h
      · exact hS.2.2 q h
      · obtain ⟨z, -, hz⟩ := List.mem_map.mp h
        rw [← hz]
        exact hA⟩ _ hheap X'
  exact ⟨t, step t a1, b1⟩
theorem SS_copyI {idx k i k0 i0 e1 e2 e3 : Nat} {sp dp n : Int32} {r : List Vl} (hd : decode (mc M) pc = .ok (.invokestatic idx, 3)) (hA : okA (my M).cls idx = true) (t0 : ktag k0 = 1) (t1 : ktag k = 1) (hw : wsum r ≤ 8) (hfr : 1 ≤ (mR M).frames) (hlo : 26 ≤ (mR M).locals)
    (hb : ¬ sp < 0 ∧ ¬ dp < 0 ∧ ¬ n < 0 ∧ sp.toNatClampNeg + n.toNatClampNeg ≤ klen k0 ∧ dp.toNatClampNeg + n.toNatClampNeg ≤ klen k) (h : SS G M (pc + 3) ls r (cI μ k0 i0 sp.toNatClampNeg k i dp.toNatClampNeg n.toNatClampNeg) Φ) : SS G M pc ls ((.int n, e1) :: (.int dp, e2) :: (.ref k, i) :: (.int sp, e3) :: (.ref k0, i0) :: r) μ Φ := by
  intro p e s m args below meth c cells slots Q E R H locs L hH hS hL hl hst
  have hts := E.2.2.2.2.2.2.1
  have hK := E.2.2.2.2.2.2.2.1
  have hi := vok_num (vld_hd (vld_tl (vld_tl hst)))
  have hi0 := vok_num (vld_hd (vld_tl (vld_tl (vld_tl (vld_tl hst)))))
  have hk := tag_lt t1 (by decide)
  have hk0 := tag_lt t0 (by decide)
  have hc := cellAt_arr (by rw [t1]; decide) (hH.1 k i hk hi)
  have hc0 := cellAt_arr (by rw [t0]; decide) (hH.1 k0 i0 hk0 hi0)
  have f1 : (fun j => sv G μ k i j) = fun j => Value.int (μ.1 k i j) := funext fun j => sv_int (Or.inl t1)
  have f0 : (fun j => sv G μ k0 i0 j) = fun j => Value.int (μ.1 k0 i0 j) := funext fun j => sv_int (Or.inl t0)
  rw [f1, (arr_cl k hk).1 t1] at hc
  rw [f0, (arr_cl k0 hk0).1 t0] at hc0
  have hai := hK.2.1 0 (by decide)
  refine copy_W (fun x : Int32 => Value.int x) E.1 E.2.1 (E.2.2.2.2.1.trans hL.1.symm) E.2.2.2.2.2.1 (hts _ (of_decide_eq_true hA)) (hts _ arrcopy_in.1) (hts _ arrcopy_in.2.1) (hts _ arrcopy_in.2.2) hS hc0 hc hai hai rfl (hK.2.2.2.1 k i hk hi) hb.1 hb.2.1 hb.2.2.1 hb.2.2.2.1 hb.2.2.2.2 (fun _ => rfl) (fun _ _ h => by cases h) hfr (by rw [wsum_cat, show nativeFrameWords "java/lang/System" "arraycopy" 5 = 7 from by decide +kernel]; omega) hd (fun H1 locs1 g1 g2 g3 => ?_)
  refine h p e s m args below meth c cells slots Q E R H1 locs1 L (Hd_put hK hH hk hi (cellAt_arr' (by rw [t1]; decide) ?_) g2 ?_ ?_) g3 hL hl (vld_tl (vld_tl (vld_tl (vld_tl (vld_tl hst)))))
  · rw [g1, (arr_cl k hk).1 t1]
    congr 2
    funext j
    rw [sv_int (Or.inl t1)]
    simp [cI, va_cpy]
  · intro k' i' s' hne
    exact ⟨if_neg (fun q => hne ⟨q.1, q.2.1⟩), rfl⟩
  · show (if (2 : Nat) = k ∧ _ then _ else _ : Int32).toInt ≤ 4
    rw [if_neg (fun q => tag_2 t1 (by decide) q.1.symm)]
    exact hH.2
theorem SS_copyL {idx k i k0 i0 e1 e2 e3 : Nat} {sp dp n : Int32} {r : List Vl} (hd : decode (mc M) pc = .ok (.invokestatic idx, 3)) (hA : okA (my M).cls idx = true) (t0 : ktag k0 = 2) (t1 : ktag k = 2) (hw : wsum r ≤ 8) (hfr : 1 ≤ (mR M).frames) (hlo : 26 ≤ (mR M).locals)
    (hb : ¬ sp < 0 ∧ ¬ dp < 0 ∧ ¬ n < 0 ∧ sp.toNatClampNeg + n.toNatClampNeg ≤ klen k0 ∧ dp.toNatClampNeg + n.toNatClampNeg ≤ klen k) (h : SS G M (pc + 3) ls r (cL μ k0 i0 sp.toNatClampNeg k i dp.toNatClampNeg n.toNatClampNeg) Φ) : SS G M pc ls ((.int n, e1) :: (.int dp, e2) :: (.ref k, i) :: (.int sp, e3) :: (.ref k0, i0) :: r) μ Φ := by
  intro p e s m args below meth c cells slots Q E R H locs L hH hS hL hl hst
  have hts := E.2.2.2.2.2.2.1
  have hK := E.2.2.2.2.2.2.2.1
  have hi := vok_num (vld_hd (vld_tl (vld_tl hst)))
  have hi0 := vok_num (vld_hd (vld_tl (vld_tl (vld_tl (vld_tl hst)))))
  have hk := tag_lt t1 (by decide)
  have hk0 := tag_lt t0 (by decide)
  have hc := cellAt_arr (by rw [t1]; decide) (hH.1 k i hk hi)
  have hc0 := cellAt_arr (by rw [t0]; decide) (hH.1 k0 i0 hk0 hi0)
  have f1 : (fun j => sv G μ k i j) = fun j => Value.long (μ.2 k i j) := funext fun j => sv_long t1
  have f0 : (fun j => sv G μ k0 i0 j) = fun j => Value.long (μ.2 k0 i0 j) := funext fun j => sv_long t0
  rw [f1, (arr_cl k hk).2.1 t1] at hc
  rw [f0, (arr_cl k0 hk0).2.1 t0] at hc0
  have hai := hK.2.1 1 (by decide)
  refine copy_W (fun x : Int64 => Value.long x) E.1 E.2.1 (E.2.2.2.2.1.trans hL.1.symm) E.2.2.2.2.2.1 (hts _ (of_decide_eq_true hA)) (hts _ arrcopy_in.1) (hts _ arrcopy_in.2.1) (hts _ arrcopy_in.2.2) hS hc0 hc hai hai rfl (hK.2.2.2.1 k i hk hi) hb.1 hb.2.1 hb.2.2.1 hb.2.2.2.1 hb.2.2.2.2 (fun _ => rfl) (fun _ _ h => by cases h) hfr (by rw [wsum_cat, show nativeFrameWords "java/lang/System" "arraycopy" 5 = 7 from by decide +kernel]; omega) hd (fun H1 locs1 g1 g2 g3 => ?_)
  refine h p e s m args below meth c cells slots Q E R H1 locs1 L (Hd_put hK hH hk hi (cellAt_arr' (by rw [t1]; decide) ?_) g2 ?_ ?_) g3 hL hl (vld_tl (vld_tl (vld_tl (vld_tl (vld_tl hst)))))
  · rw [g1, (arr_cl k hk).2.1 t1]
    congr 2
    funext j
    rw [sv_long t1]
    simp [cL, va_cpy]
  · intro k' i' s' hne
    exact ⟨rfl, if_neg (fun q => hne ⟨q.1, q.2.1⟩)⟩
  · exact hH.2
/-! switches -/
theorem swt_c {x : Int32} {nx : Nat → Prop} {d : Nat} : ∀ (cs : List (Int32 × Nat)), swt x nx d cs → (∃ (j : Nat) (t : Nat), cs[j]? = some (x, t) ∧ (∀ j' q, j' < j → cs[j']? = some q → q.1 ≠ x) ∧ nx t) ∨ ((∀ q ∈ cs, q.1 ≠ x) ∧ nx d)
  | [], h => Or.inr ⟨(fun q hq => absurd hq List.not_mem_nil), h⟩
  | q :: l, h => by
    unfold swt at h
    split at h
    · rename_i e
      left
      refine ⟨0, q.2, by rw [e]; rfl, fun j' q' hj => absurd hj (by omega), h⟩
    · rename_i e
      rcases swt_c l h with ⟨j, t, h1, h2, h3⟩ | ⟨h1, h2⟩
      · left
        refine ⟨j + 1, t, h1, fun j' q' hj hq => ?_, h3⟩
        cases j' with
        | zero =>
          have : q = q' := by simpa using hq
          subst this
          exact fun z => e z.symm
        | succ j' => exact h2 j' q' (by omega) (by simpa using hq)
      · right
        refine ⟨fun q' hq => ?_, h2⟩
        rcases List.mem_cons.mp hq with rfl | hq
        · exact fun z => e z.symm
        · exact h1 q' hq
def okT (pc : Nat) (dflt lo hi : Int) (offs : Array Int) (a : Nat) (cs : List (Int32 × Nat)) : Bool :=
  decide ((pc : Int) + dflt = (a : Int)) && decide (-2147483648 ≤ lo) && decide (hi ≤ 2147483647) && decide (cs.length = (hi + 1 - lo).toNat) && decide (offs.size = cs.length) && (List.range cs.length).all (fun j => match cs[j]?, offs[j]? with
    | some q, some off => decide (q.1.toInt = lo + (j : Int)) && decide ((pc : Int) + off = (q.2 : Int))
    | _, _ => false)
theorem SS_table {dflt lo hi : Int} {offs : Array Int} {len a e1 : Nat} {cs : List (Int32 × Nat)} {x : Int32} {r : List Vl} {nx : Nat → List Vl → List Vl → Mm → Prop} (hd : decode (mc M) pc = .ok (.tableswitch dflt lo hi offs, len)) (ho : okT pc dflt lo hi offs a cs = true) (N : ∀ pc1 ls1 st1 μ1, nx pc1 ls1 st1 μ1 → SS G M pc1 ls1 st1 μ1 Φ) (h : swt x (fun t => nx t ls r μ) a cs) : SS G M pc ls ((.int x, e1) :: r) μ Φ := by
  unfold okT at ho
  simp only [Bool.and_eq_true, decide_eq_true_eq, List.all_eq_true, List.mem_range] at ho
  obtain ⟨⟨⟨⟨⟨h1, h2⟩, h3⟩, h4⟩, h5⟩, h6⟩ := ho
  have hrow : ∀ j, j < cs.length → ∃ q off, cs[j]? = some q ∧ offs[j]? = some off ∧ q.1.toInt = lo + (j : Int) ∧ (pc : Int) + off = (q.2 : Int) := by
    intro j hj
    have := h6 j hj
    split at this
    · rename_i q off hq hoff
      simp only [Bool.and_eq_true, decide_eq_true_eq] at this
      exact ⟨q, off, hq, hoff, this.1, this.2⟩
    · cases this
  rcases swt_c cs h with ⟨j, t, g1, -, g3⟩ | ⟨g1, g2⟩
  · have hj : j < cs.length := (List.getElem?_eq_some_iff.mp g1).1
    obtain ⟨q, off, k1, k2, k3, k4⟩ := hrow j hj
    rw [g1] at k1
    cases k1
    have k3 : x.toInt = lo + (j : Int) := k3
    exact SS_go (fun p e s m args below meth c cells slots Q E H locs L hL k => lv_tableIn E.1 E.2.1 hd (by omega) (by omega) (by rw [show (x.toInt - lo).toNat = j by omega]; exact k2) k4 k) (fun _ h => vld_tl h) (N _ _ _ _ g3)
  · refine SS_go (fun p e s m args below meth c cells slots Q E H locs L hL k => lv_tableOut E.1 E.2.1 hd ?_ h1 k) (fun _ h => vld_tl h) (N _ _ _ _ g2)
    by_cases hlo : x.toInt < lo
    · exact Or.inl hlo
    · by_cases hhi : hi < x.toInt
      · exact Or.inr hhi
      · exfalso
        have hj : (x.toInt - lo).toNat < cs.length := by omega
        obtain ⟨q, off, k1, k2, k3, k4⟩ := hrow _ hj
        refine g1 q (List.mem_of_getElem? k1) (Int32.toInt_inj.mp ?_)
        rw [k3]
        omega
def okK (pc : Nat) (dflt : Int) (ps : Array (Int × Int)) (a : Nat) (cs : List (Int32 × Nat)) : Bool :=
  decide ((pc : Int) + dflt = (a : Int)) && ((ps.toList.zip (ps.toList.drop 1)).all (fun (a, next) => a.1 < next.1)) && decide (cs.map (fun q => (q.1.toInt, (q.2 : Int))) = ps.toList.map (fun q => (q.1, (pc : Int) + q.2)))
theorem lk_off : ∀ (ps : List (Int × Int)) (dflt x : Int), (∀ (j : Nat) (q : Int × Int), ps[j]? = some q → q.1 = x → (∀ j' q', j' < j → ps[j']? = some q' → q'.1 ≠ x) → Op.lookupswitch.offset ps dflt x = q.2) ∧ ((∀ q ∈ ps, q.1 ≠ x) → Op.lookupswitch.offset ps dflt x = dflt) := by
  intro ps
  induction ps with
  | nil => intro dflt x; exact ⟨fun j q h => by simp at h, fun _ => rfl⟩
  | cons a l ih =>
    intro dflt x
    refine ⟨fun j q hq hx hmin => ?_, fun h => ?_⟩
    · cases j with
      | zero =>
        have : a = q := by simpa using hq
        subst this
        subst hx
        simp [Op.lookupswitch.offset]
      | succ j =>
        have ha : a.1 ≠ x := hmin 0 a (by omega) rfl
        have := (ih dflt x).1 j q (by simpa using hq) hx (fun j' q' hj hq' => hmin (j' + 1) q' (by omega) (by simpa using hq'))
        simp [Op.lookupswitch.offset, ha] at this ⊢
        exact this
    · have ha : a.1 ≠ x := h a List.mem_cons_self
      have := (ih dflt x).2 (fun q hq => h q (List.mem_cons_of_mem _ hq))
      simp [Op.lookupswitch.offset, ha] at this ⊢
      exact this
theorem SS_lookup {dflt : Int} {ps : Array (Int × Int)} {len a e1 : Nat} {cs : List (Int32 × Nat)} {x : Int32} {r : List Vl} {nx : Nat → List Vl → List Vl → Mm → Prop} (hd : decode (mc M) pc = .ok (.lookupswitch dflt ps, len)) (ho : okK pc dflt ps a cs = true) (N : ∀ pc1 ls1 st1 μ1, nx pc1 ls1 st1 μ1 → SS G M pc1 ls1 st1 μ1 Φ) (h : swt x (fun t => nx t ls r μ) a cs) : SS G M pc ls ((.int x, e1) :: r) μ Φ := by
  unfold okK at ho
  rw [Bool.and_eq_true, Bool.and_eq_true] at ho
  obtain ⟨⟨h1, h2⟩, h3⟩ := ho
  have h1 := of_decide_eq_true h1
  have h3 := of_decide_eq_true h3
  have hrow : ∀ j : Nat, (cs[j]?).map (fun q => (q.1.toInt, (q.2 : Int))) = (ps.toList[j]?).map (fun q => (q.1, (pc : Int) + q.2)) := by
    intro j
    rw [← List.getElem?_map, ← List.getElem?_map, h3]
  rcases swt_c cs h with ⟨j, t, g1, gm, g3⟩ | ⟨g1, g2⟩
  · have := hrow j
    rw [g1] at this
    cases hp : ps.toList[j]? with
    | none => rw [hp] at this; cases this
    | some q =>
      rw [hp] at this
      have e0 : (x.toInt, (t : Int)) = (q.1, (pc : Int) + q.2) := Option.some.inj this
      have e1 : x.toInt = q.1 := congrArg Prod.fst e0
      have e2 : (t : Int) = (pc : Int) + q.2 := congrArg Prod.snd e0
      have hoff := (lk_off ps.toList dflt x.toInt).1 j q hp e1.symm (fun j' q' hj hq' hx => by
        have hr := hrow j'
        rw [hq'] at hr
        cases hc : cs[j']? with
        | none => rw [hc] at hr; cases hr
        | some w =>
          rw [hc] at hr
          have e3 : w.1.toInt = q'.1 := congrArg Prod.fst (Option.some.inj hr)
          exact gm j' w hj hc (Int32.toInt_inj.mp (by rw [e3, hx])))
      exact SS_go (fun p e s m args below meth c cells slots Q E H locs L hL k => lv_lookup E.1 E.2.1 hd h2 hoff e2.symm k) (fun _ h => vld_tl h) (N _ _ _ _ g3)
  · have hoff := (lk_off ps.toList dflt x.toInt).2 (fun q hq hx => by
      obtain ⟨j, hj⟩ := List.getElem?_of_mem hq
      have hr := hrow j
      rw [hj] at hr
      cases hc : cs[j]? with
      | none => rw [hc] at hr; cases hr
      | some w =>
        rw [hc] at hr
        have e3 : w.1.toInt = q.1 := congrArg Prod.fst (Option.some.inj hr)
        exact g1 w (List.mem_of_getElem? hc) (Int32.toInt_inj.mp (by rw [e3, hx])))
    exact SS_go (fun p e s m args below meth c cells slots Q E H locs L hL k => lv_lookup E.1 E.2.1 hd h2 hoff h1 k) (fun _ h => vld_tl h) (N _ _ _ _ g2)
end S5
