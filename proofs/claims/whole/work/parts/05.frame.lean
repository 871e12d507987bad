/-! one instruction after another: the demands are enough. First what only moves the frame. -/
theorem p1_c {st : List Vl} {k : Int32 → List Vl → Prop} (h : p1 st k) : ∃ x e r, st = (.int x, e) :: r ∧ k x r := by
  unfold p1 at h
  split at h
  · exact ⟨_, _, _, rfl, h⟩
  · exact h.elim
theorem p2_c {st : List Vl} {k : Int32 → Int32 → List Vl → Prop} (h : p2 st k) : ∃ x y e1 e2 r, st = (.int y, e1) :: (.int x, e2) :: r ∧ k x y r := by
  unfold p2 at h
  split at h
  · exact ⟨_, _, _, _, _, rfl, h⟩
  · exact h.elim
theorem q1_c {st : List Vl} {k : Int64 → List Vl → Prop} (h : q1 st k) : ∃ x e r, st = (.long x, e) :: r ∧ k x r := by
  unfold q1 at h
  split at h
  · exact ⟨_, _, _, rfl, h⟩
  · exact h.elim
theorem q2_c {st : List Vl} {k : Int64 → Int64 → List Vl → Prop} (h : q2 st k) : ∃ x y e1 e2 r, st = (.long y, e1) :: (.long x, e2) :: r ∧ k x y r := by
  unfold q2 at h
  split at h
  · exact ⟨_, _, _, _, _, rfl, h⟩
  · exact h.elim
theorem pr_c {st : List Vl} {k : Nat → Nat → List Vl → Prop} (h : pr st k) : ∃ a i r, st = (.ref a, i) :: r ∧ k a i r := by
  unfold pr at h
  split at h
  · exact ⟨_, _, _, rfl, h⟩
  · exact h.elim
theorem pa_c {st : List Vl} {k : Int32 → Nat → Nat → List Vl → Prop} (h : pa st k) : ∃ j e a i r, st = (.int j, e) :: (.ref a, i) :: r ∧ k j a i r := by
  unfold pa at h
  split at h
  · exact ⟨_, _, _, _, _, rfl, h⟩
  · exact h.elim
theorem ps_c {st : List Vl} {k : Int32 → Int32 → Nat → Nat → List Vl → Prop} (h : ps st k) : ∃ x e1 j e2 a i r, st = (.int x, e1) :: (.int j, e2) :: (.ref a, i) :: r ∧ k x j a i r := by
  unfold ps at h
  split at h
  · exact ⟨_, _, _, _, _, _, _, rfl, h⟩
  · exact h.elim
theorem pls_c {st : List Vl} {k : Int64 → Int32 → Nat → Nat → List Vl → Prop} (h : pls st k) : ∃ x e1 j e2 a i r, st = (.long x, e1) :: (.int j, e2) :: (.ref a, i) :: r ∧ k x j a i r := by
  unfold pls at h
  split at h
  · exact ⟨_, _, _, _, _, _, _, rfl, h⟩
  · exact h.elim
theorem bq_c {b : Bool} {P : Prop} (h : bq b P) : b = true ∧ P := by
  cases b
  · exact h.elim
  · exact ⟨rfl, h⟩
section S1
variable {G : Ge} {M : MS} {pc pc' len : Nat} {ls st st' : List Vl} {μ : Mm} {Φ : Ph} {nx : Nat → List Vl → List Vl → Mm → Prop}
theorem SS_go (hgo : ∀ (p : Program) (e : Env) (s : State) (m : MethodId) (args : Array Value) (below : List Frame) (meth : Method) (c : Code) (cells slots : Nat) (Q : State → Prop), Ev G M p s m args meth c cells slots → ∀ (H : Heap) (locs : List Loc) (L : Array Slot), lR G L (mL M) ls → W p (gl G) e (mR M) s m args below meth c H locs cells slots Q (F0 m pc' L (st'.map (mv G))) → W p (gl G) e (mR M) s m args below meth c H locs cells slots Q (F0 m pc L (st.map (mv G))))
    (hv : vld ls → vld st → vld st') (h : SS G M pc' ls st' μ Φ) : SS G M pc ls st μ Φ := by
  intro p e s m args below meth c cells slots Q E R H locs L hH hS hL hl hst
  exact hgo p e s m args below meth c cells slots Q E H locs L hL (h p e s m args below meth c cells slots Q E R H locs L hH hS hL hl (hv hl hst))
theorem s_iadd (hd : decode (mc M) pc = .ok (.iadd, 1)) (N : ∀ pc1 ls1 st1 μ1, nx pc1 ls1 st1 μ1 → SS G M pc1 ls1 st1 μ1 Φ) (h : p2 st (fun x y r => nx (pc + 1) ls (vi (x + y) :: r) μ)) : SS G M pc ls st μ Φ := by
  obtain ⟨x, y, e1, e2, r, rfl, h⟩ := p2_c h
  exact SS_go (fun p e s m args below meth c cells slots Q E H locs L hL k => lv_iadd E.1 E.2.1 hd k) (fun _ h => vld_cons (by exact rfl) (vld_tl (vld_tl h))) (N _ _ _ _ h)
theorem s_isub (hd : decode (mc M) pc = .ok (.isub, 1)) (N : ∀ pc1 ls1 st1 μ1, nx pc1 ls1 st1 μ1 → SS G M pc1 ls1 st1 μ1 Φ) (h : p2 st (fun x y r => nx (pc + 1) ls (vi (x - y) :: r) μ)) : SS G M pc ls st μ Φ := by
  obtain ⟨x, y, e1, e2, r, rfl, h⟩ := p2_c h
  exact SS_go (fun p e s m args below meth c cells slots Q E H locs L hL k => lv_isub E.1 E.2.1 hd k) (fun _ h => vld_cons (by exact rfl) (vld_tl (vld_tl h))) (N _ _ _ _ h)
theorem s_imul (hd : decode (mc M) pc = .ok (.imul, 1)) (N : ∀ pc1 ls1 st1 μ1, nx pc1 ls1 st1 μ1 → SS G M pc1 ls1 st1 μ1 Φ) (h : p2 st (fun x y r => nx (pc + 1) ls (vi (x * y) :: r) μ)) : SS G M pc ls st μ Φ := by
  obtain ⟨x, y, e1, e2, r, rfl, h⟩ := p2_c h
  exact SS_go (fun p e s m args below meth c cells slots Q E H locs L hL k => lv_imul E.1 E.2.1 hd k) (fun _ h => vld_cons (by exact rfl) (vld_tl (vld_tl h))) (N _ _ _ _ h)
theorem s_iand (hd : decode (mc M) pc = .ok (.iand, 1)) (N : ∀ pc1 ls1 st1 μ1, nx pc1 ls1 st1 μ1 → SS G M pc1 ls1 st1 μ1 Φ) (h : p2 st (fun x y r => nx (pc + 1) ls (vi (x &&& y) :: r) μ)) : SS G M pc ls st μ Φ := by
  obtain ⟨x, y, e1, e2, r, rfl, h⟩ := p2_c h
  exact SS_go (fun p e s m args below meth c cells slots Q E H locs L hL k => lv_iand E.1 E.2.1 hd k) (fun _ h => vld_cons (by exact rfl) (vld_tl (vld_tl h))) (N _ _ _ _ h)
theorem s_ior (hd : decode (mc M) pc = .ok (.ior, 1)) (N : ∀ pc1 ls1 st1 μ1, nx pc1 ls1 st1 μ1 → SS G M pc1 ls1 st1 μ1 Φ) (h : p2 st (fun x y r => nx (pc + 1) ls (vi (x ||| y) :: r) μ)) : SS G M pc ls st μ Φ := by
  obtain ⟨x, y, e1, e2, r, rfl, h⟩ := p2_c h
  exact SS_go (fun p e s m args below meth c cells slots Q E H locs L hL k => lv_ior E.1 E.2.1 hd k) (fun _ h => vld_cons (by exact rfl) (vld_tl (vld_tl h))) (N _ _ _ _ h)
theorem s_ishl (hd : decode (mc M) pc = .ok (.ishl, 1)) (N : ∀ pc1 ls1 st1 μ1, nx pc1 ls1 st1 μ1 → SS G M pc1 ls1 st1 μ1 Φ) (h : p2 st (fun x y r => nx (pc + 1) ls (vi (x <<< (y &&& 31)) :: r) μ)) : SS G M pc ls st μ Φ := by
  obtain ⟨x, y, e1, e2, r, rfl, h⟩ := p2_c h
  exact SS_go (fun p e s m args below meth c cells slots Q E H locs L hL k => lv_ishl E.1 E.2.1 hd k) (fun _ h => vld_cons (by exact rfl) (vld_tl (vld_tl h))) (N _ _ _ _ h)
theorem s_ishr (hd : decode (mc M) pc = .ok (.ishr, 1)) (N : ∀ pc1 ls1 st1 μ1, nx pc1 ls1 st1 μ1 → SS G M pc1 ls1 st1 μ1 Φ) (h : p2 st (fun x y r => nx (pc + 1) ls (vi (x >>> (y &&& 31)) :: r) μ)) : SS G M pc ls st μ Φ := by
  obtain ⟨x, y, e1, e2, r, rfl, h⟩ := p2_c h
  exact SS_go (fun p e s m args below meth c cells slots Q E H locs L hL k => lv_ishr E.1 E.2.1 hd k) (fun _ h => vld_cons (by exact rfl) (vld_tl (vld_tl h))) (N _ _ _ _ h)
theorem s_iushr (hd : decode (mc M) pc = .ok (.iushr, 1)) (N : ∀ pc1 ls1 st1 μ1, nx pc1 ls1 st1 μ1 → SS G M pc1 ls1 st1 μ1 Φ) (h : p2 st (fun x y r => nx (pc + 1) ls (vi ((x.toUInt32 >>> (y.toUInt32 &&& Int32.toUInt32 31)).toInt32) :: r) μ)) : SS G M pc ls st μ Φ := by
  obtain ⟨x, y, e1, e2, r, rfl, h⟩ := p2_c h
  exact SS_go (fun p e s m args below meth c cells slots Q E H locs L hL k => lv_iushr E.1 E.2.1 hd rfl k) (fun _ h => vld_cons (by exact rfl) (vld_tl (vld_tl h))) (N _ _ _ _ h)
theorem s_idiv (hd : decode (mc M) pc = .ok (.idiv, 1)) (N : ∀ pc1 ls1 st1 μ1, nx pc1 ls1 st1 μ1 → SS G M pc1 ls1 st1 μ1 Φ) (h : p2 st (fun x y r => ¬ y = 0 ∧ nx (pc + 1) ls (vi (x / y) :: r) μ)) : SS G M pc ls st μ Φ := by
  obtain ⟨x, y, e1, e2, r, rfl, hne, h⟩ := p2_c h
  exact SS_go (fun p e s m args below meth c cells slots Q E H locs L hL k => lv_idiv E.1 E.2.1 hd hne k) (fun _ h => vld_cons (by exact rfl) (vld_tl (vld_tl h))) (N _ _ _ _ h)
theorem s_ladd (hd : decode (mc M) pc = .ok (.ladd, 1)) (N : ∀ pc1 ls1 st1 μ1, nx pc1 ls1 st1 μ1 → SS G M pc1 ls1 st1 μ1 Φ) (h : q2 st (fun x y r => nx (pc + 1) ls (vl (x + y) :: r) μ)) : SS G M pc ls st μ Φ := by
  obtain ⟨x, y, e1, e2, r, rfl, h⟩ := q2_c h
  exact SS_go (fun p e s m args below meth c cells slots Q E H locs L hL k => lv_ladd E.1 E.2.1 hd k) (fun _ h => vld_cons (by exact rfl) (vld_tl (vld_tl h))) (N _ _ _ _ h)
theorem s_lmul (hd : decode (mc M) pc = .ok (.lmul, 1)) (N : ∀ pc1 ls1 st1 μ1, nx pc1 ls1 st1 μ1 → SS G M pc1 ls1 st1 μ1 Φ) (h : q2 st (fun x y r => nx (pc + 1) ls (vl (x * y) :: r) μ)) : SS G M pc ls st μ Φ := by
  obtain ⟨x, y, e1, e2, r, rfl, h⟩ := q2_c h
  exact SS_go (fun p e s m args below meth c cells slots Q E H locs L hL k => lv_lmul E.1 E.2.1 hd k) (fun _ h => vld_cons (by exact rfl) (vld_tl (vld_tl h))) (N _ _ _ _ h)
theorem s_ldiv (hd : decode (mc M) pc = .ok (.ldiv, 1)) (N : ∀ pc1 ls1 st1 μ1, nx pc1 ls1 st1 μ1 → SS G M pc1 ls1 st1 μ1 Φ) (h : q2 st (fun x y r => ¬ y = 0 ∧ nx (pc + 1) ls (vl (x / y) :: r) μ)) : SS G M pc ls st μ Φ := by
  obtain ⟨x, y, e1, e2, r, rfl, hne, h⟩ := q2_c h
  exact SS_go (fun p e s m args below meth c cells slots Q E H locs L hL k => lv_ldiv E.1 E.2.1 hd hne k) (fun _ h => vld_cons (by exact rfl) (vld_tl (vld_tl h))) (N _ _ _ _ h)
theorem s_lrem (hd : decode (mc M) pc = .ok (.lrem, 1)) (N : ∀ pc1 ls1 st1 μ1, nx pc1 ls1 st1 μ1 → SS G M pc1 ls1 st1 μ1 Φ) (h : q2 st (fun x y r => ¬ y = 0 ∧ nx (pc + 1) ls (vl (x - x / y * y) :: r) μ)) : SS G M pc ls st μ Φ := by
  obtain ⟨x, y, e1, e2, r, rfl, hne, h⟩ := q2_c h
  exact SS_go (fun p e s m args below meth c cells slots Q E H locs L hL k => lv_lrem E.1 E.2.1 hd hne k) (fun _ h => vld_cons (by exact rfl) (vld_tl (vld_tl h))) (N _ _ _ _ h)
theorem s_lneg (hd : decode (mc M) pc = .ok (.lneg, 1)) (N : ∀ pc1 ls1 st1 μ1, nx pc1 ls1 st1 μ1 → SS G M pc1 ls1 st1 μ1 Φ) (h : q1 st (fun x r => nx (pc + 1) ls (vl (-x) :: r) μ)) : SS G M pc ls st μ Φ := by
  obtain ⟨x, e1, r, rfl, h⟩ := q1_c h
  exact SS_go (fun p e s m args below meth c cells slots Q E H locs L hL k => lv_lneg E.1 E.2.1 hd k) (fun _ h => vld_cons (by exact rfl) (vld_tl h)) (N _ _ _ _ h)
theorem s_lcmp (hd : decode (mc M) pc = .ok (.lcmp, 1)) (N : ∀ pc1 ls1 st1 μ1, nx pc1 ls1 st1 μ1 → SS G M pc1 ls1 st1 μ1 Φ) (h : q2 st (fun x y r => nx (pc + 1) ls (vi (lg_cmp x y) :: r) μ)) : SS G M pc ls st μ Φ := by
  obtain ⟨x, y, e1, e2, r, rfl, h⟩ := q2_c h
  exact SS_go (fun p e s m args below meth c cells slots Q E H locs L hL k => W.lcmp E.1 E.2.1 hd k) (fun _ h => vld_cons (by exact rfl) (vld_tl (vld_tl h))) (N _ _ _ _ h)
theorem s_i2l (hd : decode (mc M) pc = .ok (.i2l, 1)) (N : ∀ pc1 ls1 st1 μ1, nx pc1 ls1 st1 μ1 → SS G M pc1 ls1 st1 μ1 Φ) (h : p1 st (fun x r => nx (pc + 1) ls (vl x.toInt64 :: r) μ)) : SS G M pc ls st μ Φ := by
  obtain ⟨x, e1, r, rfl, h⟩ := p1_c h
  exact SS_go (fun p e s m args below meth c cells slots Q E H locs L hL k => lv_i2l E.1 E.2.1 hd rfl k) (fun _ h => vld_cons (by exact rfl) (vld_tl h)) (N _ _ _ _ h)
theorem s_l2i (hd : decode (mc M) pc = .ok (.l2i, 1)) (N : ∀ pc1 ls1 st1 μ1, nx pc1 ls1 st1 μ1 → SS G M pc1 ls1 st1 μ1 Φ) (h : q1 st (fun x r => nx (pc + 1) ls (vi x.toInt32 :: r) μ)) : SS G M pc ls st μ Φ := by
  obtain ⟨x, e1, r, rfl, h⟩ := q1_c h
  exact SS_go (fun p e s m args below meth c cells slots Q E H locs L hL k => lv_l2i E.1 E.2.1 hd rfl k) (fun _ h => vld_cons (by exact rfl) (vld_tl h)) (N _ _ _ _ h)
theorem s_i2b (hd : decode (mc M) pc = .ok (.i2b, 1)) (N : ∀ pc1 ls1 st1 μ1, nx pc1 ls1 st1 μ1 → SS G M pc1 ls1 st1 μ1 Φ) (h : p1 st (fun x r => nx (pc + 1) ls (vi x.toInt8.toInt32 :: r) μ)) : SS G M pc ls st μ Φ := by
  obtain ⟨x, e1, r, rfl, h⟩ := p1_c h
  exact SS_go (fun p e s m args below meth c cells slots Q E H locs L hL k => lv_i2b E.1 E.2.1 hd rfl k) (fun _ h => vld_cons (by exact rfl) (vld_tl h)) (N _ _ _ _ h)
theorem s_iconst {n : Int} {c : Int32} (hd : decode (mc M) pc = .ok (.iconst n, 1)) (hc : Int32.ofInt n = c) (N : ∀ pc1 ls1 st1 μ1, nx pc1 ls1 st1 μ1 → SS G M pc1 ls1 st1 μ1 Φ) (h : nx (pc + 1) ls (vi c :: st) μ) : SS G M pc ls st μ Φ := by
  exact SS_go (fun p e s m args below meth cc cells slots Q E H locs L hL k => lv_iconst E.1 E.2.1 hd hc k) (fun _ h => vld_cons (by exact rfl) h) (N _ _ _ _ h)
theorem s_bipush {n : Int} {c : Int32} (hd : decode (mc M) pc = .ok (.bipush n, 2)) (hc : (Int8.ofInt n).toInt32 = c) (N : ∀ pc1 ls1 st1 μ1, nx pc1 ls1 st1 μ1 → SS G M pc1 ls1 st1 μ1 Φ) (h : nx (pc + 2) ls (vi c :: st) μ) : SS G M pc ls st μ Φ := by
  exact SS_go (fun p e s m args below meth cc cells slots Q E H locs L hL k => lv_bipush E.1 E.2.1 hd hc k) (fun _ h => vld_cons (by exact rfl) h) (N _ _ _ _ h)
theorem s_sipush {n : Int} {c : Int32} (hd : decode (mc M) pc = .ok (.sipush n, 3)) (hc : (Int16.ofInt n).toInt32 = c) (N : ∀ pc1 ls1 st1 μ1, nx pc1 ls1 st1 μ1 → SS G M pc1 ls1 st1 μ1 Φ) (h : nx (pc + 3) ls (vi c :: st) μ) : SS G M pc ls st μ Φ := by
  exact SS_go (fun p e s m args below meth cc cells slots Q E H locs L hL k => lv_sipush E.1 E.2.1 hd hc k) (fun _ h => vld_cons (by exact rfl) h) (N _ _ _ _ h)
theorem s_lconst {n : Fin 2} {d : Int64} (hd : decode (mc M) pc = .ok (.lconst n, 1)) (hc : Int64.ofNat (n : Nat) = d) (N : ∀ pc1 ls1 st1 μ1, nx pc1 ls1 st1 μ1 → SS G M pc1 ls1 st1 μ1 Φ) (h : nx (pc + 1) ls (vl d :: st) μ) : SS G M pc ls st μ Φ := by
  exact SS_go (fun p e s m args below meth cc cells slots Q E H locs L hL k => lv_lconst E.1 E.2.1 hd hc k) (fun _ h => vld_cons (by exact rfl) h) (N _ _ _ _ h)
theorem s_ldc {i : Nat} {c : Int32} (hd : decode (mc M) pc = .ok (.ldc i, 2)) (hc : Cond.constant (my M).cls i c ∈ lw_g) (N : ∀ pc1 ls1 st1 μ1, nx pc1 ls1 st1 μ1 → SS G M pc1 ls1 st1 μ1 Φ) (h : nx (pc + 2) ls (vi c :: st) μ) : SS G M pc ls st μ Φ := by
  exact SS_go (fun p e s m args below meth cc cells slots Q E H locs L hL k => lv_ldc E.1 E.2.1 E.2.2.2.2.2.1 (E.2.2.2.2.2.2.1 _ hc) hd k) (fun _ h => vld_cons (by exact rfl) h) (N _ _ _ _ h)
theorem s_ldc_w {i : Nat} {c : Int32} (hd : decode (mc M) pc = .ok (.ldc_w i, 3)) (hc : Cond.constant (my M).cls i c ∈ lw_g) (N : ∀ pc1 ls1 st1 μ1, nx pc1 ls1 st1 μ1 → SS G M pc1 ls1 st1 μ1 Φ) (h : nx (pc + 3) ls (vi c :: st) μ) : SS G M pc ls st μ Φ := by
  exact SS_go (fun p e s m args below meth cc cells slots Q E H locs L hL k => lv_ldcw E.1 E.2.1 E.2.2.2.2.2.1 (E.2.2.2.2.2.2.1 _ hc) hd k) (fun _ h => vld_cons (by exact rfl) h) (N _ _ _ _ h)
theorem s_ldc2_w {i : Nat} {c : Int64} (hd : decode (mc M) pc = .ok (.ldc2_w i, 3)) (hc : Cond.constantLong (my M).cls i c ∈ lw_g) (N : ∀ pc1 ls1 st1 μ1, nx pc1 ls1 st1 μ1 → SS G M pc1 ls1 st1 μ1 Φ) (h : nx (pc + 3) ls (vl c :: st) μ) : SS G M pc ls st μ Φ := by
  exact SS_go (fun p e s m args below meth cc cells slots Q E H locs L hL k => lv_ldc2 E.1 E.2.1 E.2.2.2.2.2.1 (E.2.2.2.2.2.2.1 _ hc) hd k) (fun _ h => vld_cons (by exact rfl) h) (N _ _ _ _ h)
theorem s_iload_n {k : Fin 4} {x : Int32} {e0 : Nat} (hd : decode (mc M) pc = .ok (.iload_n k, 1)) (hx : lget ls k.val = (.int x, e0)) (N : ∀ pc1 ls1 st1 μ1, nx pc1 ls1 st1 μ1 → SS G M pc1 ls1 st1 μ1 Φ) (h : nx (pc + 1) ls (vi x :: st) μ) : SS G M pc ls st μ Φ := by
  exact SS_go (fun p e s m args below meth c cells slots Q E H locs L hL k => lv_iload_n E.1 E.2.1 hd rfl (lR_get hL hx (fun q h => by cases h)) k) (fun _ h => vld_cons (by exact rfl) h) (N _ _ _ _ h)
theorem s_iload {k : Nat} {x : Int32} {e0 : Nat} (hd : decode (mc M) pc = .ok (.iload k, 2)) (hx : lget ls k = (.int x, e0)) (N : ∀ pc1 ls1 st1 μ1, nx pc1 ls1 st1 μ1 → SS G M pc1 ls1 st1 μ1 Φ) (h : nx (pc + 2) ls (vi x :: st) μ) : SS G M pc ls st μ Φ := by
  exact SS_go (fun p e s m args below meth c cells slots Q E H locs L hL k => lv_iload E.1 E.2.1 hd (lR_get hL hx (fun q h => by cases h)) k) (fun _ h => vld_cons (by exact rfl) h) (N _ _ _ _ h)
theorem s_lload_n {k : Fin 4} {x : Int64} {e0 : Nat} (hd : decode (mc M) pc = .ok (.lload_n k, 1)) (hx : lget ls k.val = (.long x, e0)) (N : ∀ pc1 ls1 st1 μ1, nx pc1 ls1 st1 μ1 → SS G M pc1 ls1 st1 μ1 Φ) (h : nx (pc + 1) ls (vl x :: st) μ) : SS G M pc ls st μ Φ := by
  exact SS_go (fun p e s m args below meth c cells slots Q E H locs L hL k => lv_lload_n E.1 E.2.1 hd rfl (lR_get hL hx (fun q h => by cases h)) k) (fun _ h => vld_cons (by exact rfl) h) (N _ _ _ _ h)
theorem s_lload {k : Nat} {x : Int64} {e0 : Nat} (hd : decode (mc M) pc = .ok (.lload k, 2)) (hx : lget ls k = (.long x, e0)) (N : ∀ pc1 ls1 st1 μ1, nx pc1 ls1 st1 μ1 → SS G M pc1 ls1 st1 μ1 Φ) (h : nx (pc + 2) ls (vl x :: st) μ) : SS G M pc ls st μ Φ := by
  exact SS_go (fun p e s m args below meth c cells slots Q E H locs L hL k => lv_lload E.1 E.2.1 hd (lR_get hL hx (fun q h => by cases h)) k) (fun _ h => vld_cons (by exact rfl) h) (N _ _ _ _ h)
theorem s_aload_n {k : Fin 4} {x i : Nat} (hd : decode (mc M) pc = .ok (.aload_n k, 1)) (hx : lget ls k.val = (.ref x, i)) (N : ∀ pc1 ls1 st1 μ1, nx pc1 ls1 st1 μ1 → SS G M pc1 ls1 st1 μ1 Φ) (h : nx (pc + 1) ls (vr x i :: st) μ) : SS G M pc ls st μ Φ := by
  exact SS_go (fun p e s m args below meth c cells slots Q E H locs L hL k => lv_aload_n E.1 E.2.1 hd rfl (lR_get hL hx (fun q h => by cases h)) k) (fun h0 h => vld_cons (lR_vok h0 hx (fun q h => by cases h)) h) (N _ _ _ _ h)
theorem s_aload {k x i : Nat} (hd : decode (mc M) pc = .ok (.aload k, 2)) (hx : lget ls k = (.ref x, i)) (N : ∀ pc1 ls1 st1 μ1, nx pc1 ls1 st1 μ1 → SS G M pc1 ls1 st1 μ1 Φ) (h : nx (pc + 2) ls (vr x i :: st) μ) : SS G M pc ls st μ Φ := by
  exact SS_go (fun p e s m args below meth c cells slots Q E H locs L hL k => lv_aload E.1 E.2.1 hd (lR_get hL hx (fun q h => by cases h)) k) (fun h0 h => vld_cons (lR_vok h0 hx (fun q h => by cases h)) h) (N _ _ _ _ h)
theorem s_istore_n {k : Fin 4} (hd : decode (mc M) pc = .ok (.istore_n k, 1)) (N : ∀ pc1 ls1 st1 μ1, nx pc1 ls1 st1 μ1 → SS G M pc1 ls1 st1 μ1 Φ) (h : p1 st (fun x r => bq (Nat.blt (k.val) (mL M)) (nx (pc + 1) (st1 ls k.val (vi x)) r μ))) : SS G M pc ls st μ Φ := by
  obtain ⟨x, e1, r, rfl, h⟩ := p1_c h
  obtain ⟨hlt, h⟩ := bq_c h
  have hlt : k.val < mL M := Nat.le_of_ble_eq_true hlt
  intro p e s m args below meth c cells slots Q E R H locs L hH hS hL hl hst
  refine lv_istore_n E.1 E.2.1 hd rfl hL hlt rfl (fun L1 hL1 => ?_)
  exact N _ _ _ _ h p e s m args below meth c cells slots Q E R H locs L1 hH hS (lR_st1 (v := vi x) hL1) (vld_st1 hl (by exact rfl)) (vld_tl hst)
theorem s_istore {k : Nat} (hd : decode (mc M) pc = .ok (.istore k, 2)) (N : ∀ pc1 ls1 st1 μ1, nx pc1 ls1 st1 μ1 → SS G M pc1 ls1 st1 μ1 Φ) (h : p1 st (fun x r => bq (Nat.blt (k) (mL M)) (nx (pc + 2) (st1 ls k (vi x)) r μ))) : SS G M pc ls st μ Φ := by
  obtain ⟨x, e1, r, rfl, h⟩ := p1_c h
  obtain ⟨hlt, h⟩ := bq_c h
  have hlt : k < mL M := Nat.le_of_ble_eq_true hlt
  intro p e s m args below meth c cells slots Q E R H locs L hH hS hL hl hst
  refine lv_istore E.1 E.2.1 hd hL hlt rfl (fun L1 hL1 => ?_)
  exact N _ _ _ _ h p e s m args below meth c cells slots Q E R H locs L1 hH hS (lR_st1 (v := vi x) hL1) (vld_st1 hl (by exact rfl)) (vld_tl hst)
theorem s_lstore_n {k : Fin 4} (hd : decode (mc M) pc = .ok (.lstore_n k, 1)) (N : ∀ pc1 ls1 st1 μ1, nx pc1 ls1 st1 μ1 → SS G M pc1 ls1 st1 μ1 Φ) (h : q1 st (fun x r => bq (Nat.blt (k.val + 1) (mL M)) (nx (pc + 1) (st2 ls k.val (vl x)) r μ))) : SS G M pc ls st μ Φ := by
  obtain ⟨x, e1, r, rfl, h⟩ := q1_c h
  obtain ⟨hlt, h⟩ := bq_c h
  have hlt : k.val + 1 < mL M := Nat.le_of_ble_eq_true hlt
  intro p e s m args below meth c cells slots Q E R H locs L hH hS hL hl hst
  refine lv_lstore_n E.1 E.2.1 hd rfl hL hlt rfl (fun L1 hL1 => ?_)
  exact N _ _ _ _ h p e s m args below meth c cells slots Q E R H locs L1 hH hS (lR_st2 (v := vl x) hL1) (vld_st2 hl (by exact rfl)) (vld_tl hst)
theorem s_lstore {k : Nat} (hd : decode (mc M) pc = .ok (.lstore k, 2)) (N : ∀ pc1 ls1 st1 μ1, nx pc1 ls1 st1 μ1 → SS G M pc1 ls1 st1 μ1 Φ) (h : q1 st (fun x r => bq (Nat.blt (k + 1) (mL M)) (nx (pc + 2) (st2 ls k (vl x)) r μ))) : SS G M pc ls st μ Φ := by
  obtain ⟨x, e1, r, rfl, h⟩ := q1_c h
  obtain ⟨hlt, h⟩ := bq_c h
  have hlt : k + 1 < mL M := Nat.le_of_ble_eq_true hlt
  intro p e s m args below meth c cells slots Q E R H locs L hH hS hL hl hst
  refine lv_lstore E.1 E.2.1 hd hL hlt rfl (fun L1 hL1 => ?_)
  exact N _ _ _ _ h p e s m args below meth c cells slots Q E R H locs L1 hH hS (lR_st2 (v := vl x) hL1) (vld_st2 hl (by exact rfl)) (vld_tl hst)
theorem s_astore_n {k : Fin 4} (hd : decode (mc M) pc = .ok (.astore_n k, 1)) (N : ∀ pc1 ls1 st1 μ1, nx pc1 ls1 st1 μ1 → SS G M pc1 ls1 st1 μ1 Φ) (h : pr st (fun x i r => bq (Nat.blt (k.val) (mL M)) (nx (pc + 1) (st1 ls k.val (vr x i)) r μ))) : SS G M pc ls st μ Φ := by
  obtain ⟨x, i, r, rfl, h⟩ := pr_c h
  obtain ⟨hlt, h⟩ := bq_c h
  have hlt : k.val < mL M := Nat.le_of_ble_eq_true hlt
  intro p e s m args below meth c cells slots Q E R H locs L hH hS hL hl hst
  refine lv_astore_n E.1 E.2.1 hd rfl hL hlt rfl (fun L1 hL1 => ?_)
  exact N _ _ _ _ h p e s m args below meth c cells slots Q E R H locs L1 hH hS (lR_st1 (v := vr x i) hL1) (vld_st1 hl (vld_hd hst)) (vld_tl hst)
theorem s_astore {k : Nat} (hd : decode (mc M) pc = .ok (.astore k, 2)) (N : ∀ pc1 ls1 st1 μ1, nx pc1 ls1 st1 μ1 → SS G M pc1 ls1 st1 μ1 Φ) (h : pr st (fun x i r => bq (Nat.blt (k) (mL M)) (nx (pc + 2) (st1 ls k (vr x i)) r μ))) : SS G M pc ls st μ Φ := by
  obtain ⟨x, i, r, rfl, h⟩ := pr_c h
  obtain ⟨hlt, h⟩ := bq_c h
  have hlt : k < mL M := Nat.le_of_ble_eq_true hlt
  intro p e s m args below meth c cells slots Q E R H locs L hH hS hL hl hst
  refine lv_astore E.1 E.2.1 hd hL hlt rfl (fun L1 hL1 => ?_)
  exact N _ _ _ _ h p e s m args below meth c cells slots Q E R H locs L1 hH hS (lR_st1 (v := vr x i) hL1) (vld_st1 hl (vld_hd hst)) (vld_tl hst)
theorem s_iinc {k : Nat} {n : Int} {x c0 : Int32} {e0 : Nat} (hd : decode (mc M) pc = .ok (.iinc k n, 3)) (hc : Int32.ofInt n = c0) (hx : lget ls k = (.int x, e0)) (N : ∀ pc1 ls1 st1 μ1, nx pc1 ls1 st1 μ1 → SS G M pc1 ls1 st1 μ1 Φ) (h : bq (Nat.blt k (mL M)) (nx (pc + 3) (st1 ls k (vi (x + c0))) st μ)) : SS G M pc ls st μ Φ := by
  obtain ⟨hlt, h⟩ := bq_c h
  have hlt : k < mL M := Nat.le_of_ble_eq_true hlt
  intro p e s m args below meth c cells slots Q E R H locs L hH hS hL hl hst
  obtain ⟨j, hj⟩ := List.getElem?_of_mem ((lp_mem G ls 0 k (.int x)).mpr ⟨(.int x, e0), Nat.zero_le k, by rw [Nat.sub_zero]; exact lget_some ls k _ hx (fun q h => by cases h), (fun q h => by cases h), rfl⟩)
  refine lv_iinc (v := x + c0) E.1 E.2.1 hd hL hj (by rw [hc]) hlt rfl (fun L1 hL1 => ?_)
  exact N _ _ _ _ h p e s m args below meth c cells slots Q E R H locs L1 hH hS (lR_st1 (v := vi (x + c0)) hL1) (vld_st1 hl (by exact rfl)) hst
theorem vcat_1 {v : Vl} (h : Nat.beq (vcat v) 1 = true) : v.1.category = 1 := by
  obtain ⟨a, b⟩ := v
  cases a <;> first | rfl | simp [vcat] at h
theorem s_dup (hd : decode (mc M) pc = .ok (.dup, 1)) {v : Vl} {r : List Vl} (hst : st = v :: r) (N : ∀ pc1 ls1 st1 μ1, nx pc1 ls1 st1 μ1 → SS G M pc1 ls1 st1 μ1 Φ) (h : bq (Nat.beq (vcat v) 1) (nx (pc + 1) ls (v :: v :: r) μ)) : SS G M pc ls st μ Φ := by
  subst hst
  obtain ⟨hc, h⟩ := bq_c h
  exact SS_go (fun p e s m args below meth c cells slots Q E H locs L hL k => lv_dup E.1 E.2.1 hd (by rw [mv_cat]; exact vcat_1 hc) k) (fun _ h => vld_cons (vld_hd h) h) (N _ _ _ _ h)
theorem s_pop (hd : decode (mc M) pc = .ok (.pop, 1)) {v : Vl} {r : List Vl} (hst : st = v :: r) (N : ∀ pc1 ls1 st1 μ1, nx pc1 ls1 st1 μ1 → SS G M pc1 ls1 st1 μ1 Φ) (h : bq (Nat.beq (vcat v) 1) (nx (pc + 1) ls r μ)) : SS G M pc ls st μ Φ := by
  subst hst
  obtain ⟨hc, h⟩ := bq_c h
  exact SS_go (fun p e s m args below meth c cells slots Q E H locs L hL k => lv_pop E.1 E.2.1 hd (by rw [mv_cat]; exact vcat_1 hc) k) (fun _ h => vld_tl h) (N _ _ _ _ h)
theorem s_dup2 (hd : decode (mc M) pc = .ok (.dup2, 1)) {v w : Vl} {r : List Vl} (hst : st = v :: w :: r) (N : ∀ pc1 ls1 st1 μ1, nx pc1 ls1 st1 μ1 → SS G M pc1 ls1 st1 μ1 Φ) (h : bq (Nat.beq (vcat v) 1 && Nat.beq (vcat w) 1) (nx (pc + 1) ls (v :: w :: v :: w :: r) μ)) : SS G M pc ls st μ Φ := by
  subst hst
  obtain ⟨hc, h⟩ := bq_c h
  rw [Bool.and_eq_true] at hc
  exact SS_go (fun p e s m args below meth c cells slots Q E H locs L hL k => lv_dup2_11 E.1 E.2.1 hd (by rw [mv_cat]; exact vcat_1 hc.1) (by rw [mv_cat]; exact vcat_1 hc.2) k) (fun _ h => vld_cons (vld_hd h) (vld_cons (vld_hd (vld_tl h)) h)) (N _ _ _ _ h)
theorem SS_br {cnd : Prop} [Decidable cnd] {pcT pcF : Nat} (hgo : ∀ (p : Program) (e : Env) (s : State) (m : MethodId) (args : Array Value) (below : List Frame) (meth : Method) (c : Code) (cells slots : Nat) (Q : State → Prop), Ev G M p s m args meth c cells slots → ∀ (H : Heap) (locs : List Loc) (L : Array Slot), lR G L (mL M) ls → (cnd → W p (gl G) e (mR M) s m args below meth c H locs cells slots Q (F0 m pcT L (st'.map (mv G)))) → (¬ cnd → W p (gl G) e (mR M) s m args below meth c H locs cells slots Q (F0 m pcF L (st'.map (mv G)))) → W p (gl G) e (mR M) s m args below meth c H locs cells slots Q (F0 m pc L (st.map (mv G))))
    (hv : vld ls → vld st → vld st') (N : ∀ pc1 ls1 st1 μ1, nx pc1 ls1 st1 μ1 → SS G M pc1 ls1 st1 μ1 Φ) (h : if cnd then nx pcT ls st' μ else nx pcF ls st' μ) : SS G M pc ls st μ Φ := by
  intro p e s m args below meth c cells slots Q E R H locs L hH hS hL hl hst
  refine hgo p e s m args below meth c cells slots Q E H locs L hL (fun hc => ?_) (fun hc => ?_)
  · rw [if_pos hc] at h
    exact N _ _ _ _ h p e s m args below meth c cells slots Q E R H locs L hH hS hL hl (hv hl hst)
  · rw [if_neg hc] at h
    exact N _ _ _ _ h p e s m args below meth c cells slots Q E R H locs L hH hS hL hl (hv hl hst)
theorem s_if_eq {off : Int} {a : Nat} (hd : decode (mc M) pc = .ok (.ifCond .eq off, 3)) (ht : (pc : Int) + off = (a : Int)) (N : ∀ pc1 ls1 st1 μ1, nx pc1 ls1 st1 μ1 → SS G M pc1 ls1 st1 μ1 Φ) (h : p1 st (fun x r => if x = 0 then nx a ls r μ else nx (pc + 3) ls r μ)) : SS G M pc ls st μ Φ := by
  obtain ⟨x, e1, r, rfl, h⟩ := p1_c h
  exact SS_br (fun p e s m args below meth c cells slots Q E H locs L hL kt kf => lv_if_eq E.1 E.2.1 hd ht kt kf) (fun _ h => vld_tl h) N h
theorem s_if_ne {off : Int} {a : Nat} (hd : decode (mc M) pc = .ok (.ifCond .ne off, 3)) (ht : (pc : Int) + off = (a : Int)) (N : ∀ pc1 ls1 st1 μ1, nx pc1 ls1 st1 μ1 → SS G M pc1 ls1 st1 μ1 Φ) (h : p1 st (fun x r => if x = 0 then nx (pc + 3) ls r μ else nx a ls r μ)) : SS G M pc ls st μ Φ := by
  obtain ⟨x, e1, r, rfl, h⟩ := p1_c h
  exact SS_br (cnd := x = 0) (fun p e s m args below meth c cells slots Q E H locs L hL kt kf => lv_if_ne E.1 E.2.1 hd ht kf kt) (fun _ h => vld_tl h) N h
theorem s_if_lt {off : Int} {a : Nat} (hd : decode (mc M) pc = .ok (.ifCond .lt off, 3)) (ht : (pc : Int) + off = (a : Int)) (N : ∀ pc1 ls1 st1 μ1, nx pc1 ls1 st1 μ1 → SS G M pc1 ls1 st1 μ1 Φ) (h : p1 st (fun x r => if x < 0 then nx a ls r μ else nx (pc + 3) ls r μ)) : SS G M pc ls st μ Φ := by
  obtain ⟨x, e1, r, rfl, h⟩ := p1_c h
  exact SS_br (fun p e s m args below meth c cells slots Q E H locs L hL kt kf => lv_if_lt E.1 E.2.1 hd ht kt kf) (fun _ h => vld_tl h) N h
theorem s_if_ge {off : Int} {a : Nat} (hd : decode (mc M) pc = .ok (.ifCond .ge off, 3)) (ht : (pc : Int) + off = (a : Int)) (N : ∀ pc1 ls1 st1 μ1, nx pc1 ls1 st1 μ1 → SS G M pc1 ls1 st1 μ1 Φ) (h : p1 st (fun x r => if 0 ≤ x then nx a ls r μ else nx (pc + 3) ls r μ)) : SS G M pc ls st μ Φ := by
  obtain ⟨x, e1, r, rfl, h⟩ := p1_c h
  exact SS_br (fun p e s m args below meth c cells slots Q E H locs L hL kt kf => lv_if_ge E.1 E.2.1 hd ht kt kf) (fun _ h => vld_tl h) N h
theorem s_if_gt {off : Int} {a : Nat} (hd : decode (mc M) pc = .ok (.ifCond .gt off, 3)) (ht : (pc : Int) + off = (a : Int)) (N : ∀ pc1 ls1 st1 μ1, nx pc1 ls1 st1 μ1 → SS G M pc1 ls1 st1 μ1 Φ) (h : p1 st (fun x r => if 0 < x then nx a ls r μ else nx (pc + 3) ls r μ)) : SS G M pc ls st μ Φ := by
  obtain ⟨x, e1, r, rfl, h⟩ := p1_c h
  exact SS_br (fun p e s m args below meth c cells slots Q E H locs L hL kt kf => lv_if_gt E.1 E.2.1 hd ht kt kf) (fun _ h => vld_tl h) N h
theorem s_if_le {off : Int} {a : Nat} (hd : decode (mc M) pc = .ok (.ifCond .le off, 3)) (ht : (pc : Int) + off = (a : Int)) (N : ∀ pc1 ls1 st1 μ1, nx pc1 ls1 st1 μ1 → SS G M pc1 ls1 st1 μ1 Φ) (h : p1 st (fun x r => if x ≤ 0 then nx a ls r μ else nx (pc + 3) ls r μ)) : SS G M pc ls st μ Φ := by
  obtain ⟨x, e1, r, rfl, h⟩ := p1_c h
  exact SS_br (fun p e s m args below meth c cells slots Q E H locs L hL kt kf => lv_if_le E.1 E.2.1 hd ht kt kf) (fun _ h => vld_tl h) N h
theorem s_icmp_eq {off : Int} {a : Nat} (hd : decode (mc M) pc = .ok (.if_icmp .eq off, 3)) (ht : (pc : Int) + off = (a : Int)) (N : ∀ pc1 ls1 st1 μ1, nx pc1 ls1 st1 μ1 → SS G M pc1 ls1 st1 μ1 Φ) (h : p2 st (fun x y r => if x = y then nx a ls r μ else nx (pc + 3) ls r μ)) : SS G M pc ls st μ Φ := by
  obtain ⟨x, y, e1, e2, r, rfl, h⟩ := p2_c h
  exact SS_br (fun p e s m args below meth c cells slots Q E H locs L hL kt kf => lv_icmp_eq E.1 E.2.1 hd ht kt kf) (fun _ h => vld_tl (vld_tl h)) N h
theorem s_icmp_ne {off : Int} {a : Nat} (hd : decode (mc M) pc = .ok (.if_icmp .ne off, 3)) (ht : (pc : Int) + off = (a : Int)) (N : ∀ pc1 ls1 st1 μ1, nx pc1 ls1 st1 μ1 → SS G M pc1 ls1 st1 μ1 Φ) (h : p2 st (fun x y r => if x = y then nx (pc + 3) ls r μ else nx a ls r μ)) : SS G M pc ls st μ Φ := by
  obtain ⟨x, y, e1, e2, r, rfl, h⟩ := p2_c h
  exact SS_br (cnd := x = y) (fun p e s m args below meth c cells slots Q E H locs L hL kt kf => lv_icmp_ne E.1 E.2.1 hd ht kf kt) (fun _ h => vld_tl (vld_tl h)) N h
theorem s_icmp_lt {off : Int} {a : Nat} (hd : decode (mc M) pc = .ok (.if_icmp .lt off, 3)) (ht : (pc : Int) + off = (a : Int)) (N : ∀ pc1 ls1 st1 μ1, nx pc1 ls1 st1 μ1 → SS G M pc1 ls1 st1 μ1 Φ) (h : p2 st (fun x y r => if x < y then nx a ls r μ else nx (pc + 3) ls r μ)) : SS G M pc ls st μ Φ := by
  obtain ⟨x, y, e1, e2, r, rfl, h⟩ := p2_c h
  exact SS_br (fun p e s m args below meth c cells slots Q E H locs L hL kt kf => lv_icmp_lt E.1 E.2.1 hd ht kt kf) (fun _ h => vld_tl (vld_tl h)) N h
theorem s_icmp_ge {off : Int} {a : Nat} (hd : decode (mc M) pc = .ok (.if_icmp .ge off, 3)) (ht : (pc : Int) + off = (a : Int)) (N : ∀ pc1 ls1 st1 μ1, nx pc1 ls1 st1 μ1 → SS G M pc1 ls1 st1 μ1 Φ) (h : p2 st (fun x y r => if y ≤ x then nx a ls r μ else nx (pc + 3) ls r μ)) : SS G M pc ls st μ Φ := by
  obtain ⟨x, y, e1, e2, r, rfl, h⟩ := p2_c h
  exact SS_br (fun p e s m args below meth c cells slots Q E H locs L hL kt kf => lv_icmp_ge E.1 E.2.1 hd ht kt kf) (fun _ h => vld_tl (vld_tl h)) N h
theorem s_icmp_gt {off : Int} {a : Nat} (hd : decode (mc M) pc = .ok (.if_icmp .gt off, 3)) (ht : (pc : Int) + off = (a : Int)) (N : ∀ pc1 ls1 st1 μ1, nx pc1 ls1 st1 μ1 → SS G M pc1 ls1 st1 μ1 Φ) (h : p2 st (fun x y r => if y < x then nx a ls r μ else nx (pc + 3) ls r μ)) : SS G M pc ls st μ Φ := by
  obtain ⟨x, y, e1, e2, r, rfl, h⟩ := p2_c h
  exact SS_br (fun p e s m args below meth c cells slots Q E H locs L hL kt kf => lv_icmp_gt E.1 E.2.1 hd ht kt kf) (fun _ h => vld_tl (vld_tl h)) N h
theorem s_icmp_le {off : Int} {a : Nat} (hd : decode (mc M) pc = .ok (.if_icmp .le off, 3)) (ht : (pc : Int) + off = (a : Int)) (N : ∀ pc1 ls1 st1 μ1, nx pc1 ls1 st1 μ1 → SS G M pc1 ls1 st1 μ1 Φ) (h : p2 st (fun x y r => if x ≤ y then nx a ls r μ else nx (pc + 3) ls r μ)) : SS G M pc ls st μ Φ := by
  obtain ⟨x, y, e1, e2, r, rfl, h⟩ := p2_c h
  exact SS_br (fun p e s m args below meth c cells slots Q E H locs L hL kt kf => lv_icmp_le E.1 E.2.1 hd ht kt kf) (fun _ h => vld_tl (vld_tl h)) N h
theorem s_goto {off : Int} {a : Nat} (hd : decode (mc M) pc = .ok (.goto off, 3)) (ht : (pc : Int) + off = (a : Int)) (N : ∀ pc1 ls1 st1 μ1, nx pc1 ls1 st1 μ1 → SS G M pc1 ls1 st1 μ1 Φ) (h : nx a ls st μ) : SS G M pc ls st μ Φ := by
  exact SS_go (fun p e s m args below meth c cells slots Q E H locs L hL k => lv_goto E.1 E.2.1 hd ht k) (fun _ h => h) (N _ _ _ _ h)
theorem s_ifnullN {off : Int} {a e1 : Nat} {r : List Vl} (hst : st = (.null, e1) :: r) (hd : decode (mc M) pc = .ok (.ifnull off, 3)) (ht : (pc : Int) + off = (a : Int)) (N : ∀ pc1 ls1 st1 μ1, nx pc1 ls1 st1 μ1 → SS G M pc1 ls1 st1 μ1 Φ) (h : nx a ls r μ) : SS G M pc ls st μ Φ := by
  subst hst
  exact SS_go (fun p e s m args below meth c cells slots Q E H locs L hL k => lv_ifnullN E.1 E.2.1 hd ht k) (fun _ h => vld_tl h) (N _ _ _ _ h)
theorem s_ifnullR {off : Int} {x e1 : Nat} {r : List Vl} (hst : st = (.ref x, e1) :: r) (hd : decode (mc M) pc = .ok (.ifnull off, 3)) (N : ∀ pc1 ls1 st1 μ1, nx pc1 ls1 st1 μ1 → SS G M pc1 ls1 st1 μ1 Φ) (h : nx (pc + 3) ls r μ) : SS G M pc ls st μ Φ := by
  subst hst
  exact SS_go (fun p e s m args below meth c cells slots Q E H locs L hL k => lv_ifnull E.1 E.2.1 hd k) (fun _ h => vld_tl h) (N _ _ _ _ h)
end S1
