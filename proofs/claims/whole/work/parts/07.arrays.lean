/-! arrays, tables, the script -/
theorem wI_ne {μ : Mm} {k i s k' i' s' : Nat} {v : Int32} (h : ¬ (k' = k ∧ i' = i ∧ s' = s)) : (wI μ k i s v).1 k' i' s' = μ.1 k' i' s' := if_neg h
theorem wI_eq {μ : Mm} {k i s : Nat} {v : Int32} : (wI μ k i s v).1 k i s = v := if_pos ⟨rfl, rfl, rfl⟩
theorem wI_2 {μ : Mm} {k i s : Nat} {v : Int32} : (wI μ k i s v).2 = μ.2 := rfl
theorem wL_ne {μ : Mm} {k i s k' i' s' : Nat} {v : Int64} (h : ¬ (k' = k ∧ i' = i ∧ s' = s)) : (wL μ k i s v).2 k' i' s' = μ.2 k' i' s' := if_neg h
theorem wL_eq {μ : Mm} {k i s : Nat} {v : Int64} : (wL μ k i s v).2 k i s = v := if_pos ⟨rfl, rfl, rfl⟩
theorem wL_1 {μ : Mm} {k i s : Nat} {v : Int64} : (wL μ k i s v).1 = μ.1 := rfl
theorem sv_int {G : Ge} {μ : Mm} {k i s : Nat} (ht : ktag k = 1 ∨ ktag k = 3 ∨ ktag k = 4) : sv G μ k i s = .int (μ.1 k i s) := by
  unfold sv
  rcases ht with h | h | h <;> rw [h] <;> rfl
theorem sv_long {G : Ge} {μ : Mm} {k i s : Nat} (ht : ktag k = 2) : sv G μ k i s = .long (μ.2 k i s) := by
  unfold sv
  rw [ht]
  rfl
theorem sv_ref {G : Ge} {μ : Mm} {k i s : Nat} (ht : ktag k = 5) : sv G μ k i s = mv G (rf k i s) := by
  unfold sv
  rw [ht]
  rfl
theorem sv_f0 {G : Ge} {μ : Mm} {k i s : Nat} (ht : ktag k = 0) (hf : fc (kcl k) s = 0) : sv G μ k i s = .int (μ.1 k i s) := by
  simp only [sv, ht, hf]
theorem sv_f1 {G : Ge} {μ : Mm} {k i s : Nat} (ht : ktag k = 0) (hf : fc (kcl k) s = 1) : sv G μ k i s = .long (μ.2 k i s) := by
  simp only [sv, ht, hf]
theorem sv_f2 {G : Ge} {μ : Mm} {k i s : Nat} (ht : ktag k = 0) (hf : fc (kcl k) s = 2) : sv G μ k i s = mv G (rf k i s) := by
  simp only [sv, ht, hf]
theorem sv_f3 {G : Ge} {μ : Mm} {k i s : Nat} (ht : ktag k = 0) (hf : fc (kcl k) s = 3) : sv G μ k i s = if μ.1 k i s = 0 then .null else .ref (gad G 8 ((μ.1 k i s).toNatClampNeg - 1)) := by
  simp only [sv, ht, hf]
theorem wI_oth {μ : Mm} {k i s : Nat} {v : Int32} : ∀ k' i' s', ¬ (k' = k ∧ i' = i) → (wI μ k i s v).1 k' i' s' = μ.1 k' i' s' ∧ (wI μ k i s v).2 k' i' s' = μ.2 k' i' s' := fun _ _ _ h => ⟨wI_ne (fun q => h ⟨q.1, q.2.1⟩), rfl⟩
theorem wL_oth {μ : Mm} {k i s : Nat} {v : Int64} : ∀ k' i' s', ¬ (k' = k ∧ i' = i) → (wL μ k i s v).1 k' i' s' = μ.1 k' i' s' ∧ (wL μ k i s v).2 k' i' s' = μ.2 k' i' s' := fun _ _ _ h => ⟨rfl, wL_ne (fun q => h ⟨q.1, q.2.1⟩)⟩
theorem vp_lt {j : Int32} {n : Nat} (h : vp_in j n) : j.toNatClampNeg < n := Nat.not_le.mp fun q => h (Or.inr q)
theorem aty_ref : ∀ t, t < 8 → 4 ≤ t → (aty t).isReference = true := by decide +kernel
section S3
variable {G : Ge} {M : MS} {pc : Nat} {ls r : List Vl} {μ : Mm} {Φ : Ph} {j : Int32} {e1 e2 k i : Nat}
theorem arr_of {s : State} (hK : Kn G s) (hk : k < 52) (ht : ktag k ≠ 0) (n : Nat) (z : Nat → Value) : s.isArrayOf (arrV (gA G (kcl k)) n z) (aty (kcl k)) := by
  refine hK.2.1 (kcl k) ?_ n z
  revert ht
  have : ∀ k, k < 52 → ktag k ≠ 0 → kcl k < 8 := by decide +kernel
  exact this k hk
theorem SS_iald (hd : decode (mc M) pc = .ok (.iaload, 1)) (ht : ktag k = 1) (hin : vp_in j (klen k)) (h : SS G M (pc + 1) ls (vi (μ.1 k i j.toNatClampNeg) :: r) μ Φ) : SS G M pc ls ((.int j, e1) :: (.ref k, i) :: r) μ Φ := by
  intro p e s m args below meth c cells slots Q E R H locs L hH hS hL hl hst
  have hi := vok_num (vld_hd (vld_tl hst))
  have hk := tag_lt ht (by decide)
  have hc := cellAt_arr (by rw [ht]; decide) (hH.1 k i hk hi)
  have ha := arr_of E.2.2.2.2.2.2.2.1 hk (by rw [ht]; decide) (klen k) (fun j => sv G μ k i j)
  rw [(arr_cl k hk).1 ht] at hc ha
  exact W.iald (v := .int (μ.1 k i j.toNatClampNeg)) E.1 E.2.1 hc ha (fun q => by cases q) (by rw [arrV_size]; exact hin) (by rw [arrV_read _ _ (vp_lt hin), sv_int (Or.inl ht)]) rfl rfl hd (h p e s m args below meth c cells slots Q E R H locs L hH hS hL hl (vld_cons (by exact rfl) (vld_tl (vld_tl hst))))
theorem SS_bald (hd : decode (mc M) pc = .ok (.baload, 1)) (ht : ktag k = 3) (hin : vp_in j (klen k)) (h : SS G M (pc + 1) ls (vi (μ.1 k i j.toNatClampNeg) :: r) μ Φ) : SS G M pc ls ((.int j, e1) :: (.ref k, i) :: r) μ Φ := by
  intro p e s m args below meth c cells slots Q E R H locs L hH hS hL hl hst
  have hi := vok_num (vld_hd (vld_tl hst))
  have hk := tag_lt ht (by decide)
  have hc := cellAt_arr (by rw [ht]; decide) (hH.1 k i hk hi)
  have ha := arr_of E.2.2.2.2.2.2.2.1 hk (by rw [ht]; decide) (klen k) (fun j => sv G μ k i j)
  rw [(arr_cl k hk).2.2.1 ht] at hc ha
  exact W.bald (v := .int (μ.1 k i j.toNatClampNeg)) E.1 E.2.1 hc ha (fun q => by cases q) (by rw [arrV_size]; exact hin) (by rw [arrV_read _ _ (vp_lt hin), sv_int (Or.inr (Or.inl ht))]) rfl rfl hd (h p e s m args below meth c cells slots Q E R H locs L hH hS hL hl (vld_cons (by exact rfl) (vld_tl (vld_tl hst))))
theorem SS_zald (hd : decode (mc M) pc = .ok (.baload, 1)) (ht : ktag k = 4) (hin : vp_in j (klen k)) (h : SS G M (pc + 1) ls (vi (μ.1 k i j.toNatClampNeg) :: r) μ Φ) : SS G M pc ls ((.int j, e1) :: (.ref k, i) :: r) μ Φ := by
  intro p e s m args below meth c cells slots Q E R H locs L hH hS hL hl hst
  have hi := vok_num (vld_hd (vld_tl hst))
  have hk := tag_lt ht (by decide)
  have hc := cellAt_arr (by rw [ht]; decide) (hH.1 k i hk hi)
  have ha := arr_of E.2.2.2.2.2.2.2.1 hk (by rw [ht]; decide) (klen k) (fun j => sv G μ k i j)
  rw [(arr_cl k hk).2.2.2.1 ht] at hc ha
  exact W.zald (v := .int (μ.1 k i j.toNatClampNeg)) E.1 E.2.1 hc ha (fun q => by cases q) (by rw [arrV_size]; exact hin) (by rw [arrV_read _ _ (vp_lt hin), sv_int (Or.inr (Or.inr ht))]) rfl rfl hd (h p e s m args below meth c cells slots Q E R H locs L hH hS hL hl (vld_cons (by exact rfl) (vld_tl (vld_tl hst))))
theorem SS_lald (hd : decode (mc M) pc = .ok (.laload, 1)) (ht : ktag k = 2) (hin : vp_in j (klen k)) (h : SS G M (pc + 1) ls (vl (μ.2 k i j.toNatClampNeg) :: r) μ Φ) : SS G M pc ls ((.int j, e1) :: (.ref k, i) :: r) μ Φ := by
  intro p e s m args below meth c cells slots Q E R H locs L hH hS hL hl hst
  have hi := vok_num (vld_hd (vld_tl hst))
  have hk := tag_lt ht (by decide)
  have hc := cellAt_arr (by rw [ht]; decide) (hH.1 k i hk hi)
  have ha := arr_of E.2.2.2.2.2.2.2.1 hk (by rw [ht]; decide) (klen k) (fun j => sv G μ k i j)
  rw [(arr_cl k hk).2.1 ht] at hc ha
  exact W.lald (v := .long (μ.2 k i j.toNatClampNeg)) E.1 E.2.1 hc ha (fun q => by cases q) (by rw [arrV_size]; exact hin) (by rw [arrV_read _ _ (vp_lt hin), sv_long ht]) rfl rfl hd (h p e s m args below meth c cells slots Q E R H locs L hH hS hL hl (vld_cons (by exact rfl) (vld_tl (vld_tl hst))))
theorem SS_aald (hd : decode (mc M) pc = .ok (.aaload, 1)) (ht : ktag k = 5) (hin : vp_in j (klen k)) (h : SS G M (pc + 1) ls (rf k i j.toNatClampNeg :: r) μ Φ) : SS G M pc ls ((.int j, e1) :: (.ref k, i) :: r) μ Φ := by
  intro p e s m args below meth c cells slots Q E R H locs L hH hS hL hl hst
  have hi := vok_num (vld_hd (vld_tl hst))
  have hk := tag_lt ht (by decide)
  have hc := cellAt_arr (by rw [ht]; decide) (hH.1 k i hk hi)
  have ha := arr_of E.2.2.2.2.2.2.2.1 hk (by rw [ht]; decide) (klen k) (fun j => sv G μ k i j)
  have hk16 : k < 16 := ((kt_tag k (by omega)).2.2.2.2 ht).2
  have h48 := (arr_cl k hk).2.2.2.2.1 ht
  exact W.aald (v := mv G (rf k i j.toNatClampNeg)) E.1 E.2.1 hc ha (aty_ref _ h48.2 h48.1) (fun q => by cases q) (by rw [arrV_size]; exact hin) (by rw [arrV_read _ _ (vp_lt hin), sv_ref ht]) rfl rfl hd (h p e s m args below meth c cells slots Q E R H locs L hH hS hL hl (vld_cons (arr_rf k hk16 ht i hi _ (vp_lt hin)) (vld_tl (vld_tl hst))))
theorem tag_2 {k t : Nat} (h : ktag k = t) (ht : t ≠ 0) : k ≠ 2 := by
  rintro rfl
  exact ht h.symm
theorem store_i {s : State} {H H1 : Heap} {x y : Int32} (hK : Kn G s) (hH : Hd G μ H) (hk : k < 52) (hi : i < knum k) (ht : ktag k = 1 ∨ ktag k = 3 ∨ ktag k = 4) {n : Nat} (e : H1[gad G k i]? = some ((arrV (gA G (kcl k)) (klen k) (fun j => sv G μ k i j)).setSlot n (.int y))) (oq : ∀ q, q ≠ gad G k i → H1[q]? = H[q]?) : Hd G (wI μ k i n y) H1 := by
  have hn0 : ktag k ≠ 0 := by rcases ht with h | h | h <;> rw [h] <;> decide
  refine Hd_put hK hH hk hi (cellAt_arr' hn0 ?_) oq wI_oth ?_
  · rw [e, arrV_store]
    congr 2
    funext q
    rw [sv_int ht]
    by_cases hq : q = n
    · subst hq
      simp [updV, wI]
    · simp [updV, wI, hq, sv_int ht]
  · rw [wI_ne (fun q => tag_2 rfl hn0 q.1.symm)]
    exact hH.2
theorem SS_iast {x : Int32} {e3 : Nat} (hd : decode (mc M) pc = .ok (.iastore, 1)) (ht : ktag k = 1) (hin : vp_in j (klen k)) (h : SS G M (pc + 1) ls r (wI μ k i j.toNatClampNeg x) Φ) : SS G M pc ls ((.int x, e3) :: (.int j, e1) :: (.ref k, i) :: r) μ Φ := by
  intro p e s m args below meth c cells slots Q E R H locs L hH hS hL hl hst
  have hi := vok_num (vld_hd (vld_tl (vld_tl hst)))
  have hk := tag_lt ht (by decide)
  have hK := E.2.2.2.2.2.2.2.1
  have hc := cellAt_arr (by rw [ht]; decide) (hH.1 k i hk hi)
  have ha := arr_of hK hk (by rw [ht]; decide) (klen k) (fun j => sv G μ k i j)
  have hcl := (arr_cl k hk).1 ht
  refine W.iast E.1 E.2.1 hc (by rw [hcl] at ha; rw [hcl]; exact ha) (fun q => by cases q) (by rw [arrV_size]; exact hin) rfl rfl hd fun H1 e z oq => ?_
  exact h p _ s m args below meth c cells slots Q E R H1 _ L (store_i (x := x) hK hH hk hi (Or.inl ht) e oq) (hS.put z oq (hK.2.2.2.1 k i hk hi)) hL hl (vld_tl (vld_tl (vld_tl hst)))
theorem SS_bast {x : Int32} {e3 : Nat} (hd : decode (mc M) pc = .ok (.bastore, 1)) (ht : ktag k = 3) (hin : vp_in j (klen k)) (h : SS G M (pc + 1) ls r (wI μ k i j.toNatClampNeg x.toInt8.toInt32) Φ) : SS G M pc ls ((.int x, e3) :: (.int j, e1) :: (.ref k, i) :: r) μ Φ := by
  intro p e s m args below meth c cells slots Q E R H locs L hH hS hL hl hst
  have hi := vok_num (vld_hd (vld_tl (vld_tl hst)))
  have hk := tag_lt ht (by decide)
  have hK := E.2.2.2.2.2.2.2.1
  have hc := cellAt_arr (by rw [ht]; decide) (hH.1 k i hk hi)
  have ha := arr_of hK hk (by rw [ht]; decide) (klen k) (fun j => sv G μ k i j)
  have hcl := (arr_cl k hk).2.2.1 ht
  refine W.bast E.1 E.2.1 hc (by rw [hcl] at ha; rw [hcl]; exact ha) (fun q => by cases q) (by rw [arrV_size]; exact hin) rfl rfl hd fun H1 e z oq => ?_
  exact h p _ s m args below meth c cells slots Q E R H1 _ L (store_i (x := x) hK hH hk hi (Or.inr (Or.inl ht)) e oq) (hS.put z oq (hK.2.2.2.1 k i hk hi)) hL hl (vld_tl (vld_tl (vld_tl hst)))
theorem SS_zast {x : Int32} {e3 : Nat} (hd : decode (mc M) pc = .ok (.bastore, 1)) (ht : ktag k = 4) (hin : vp_in j (klen k)) (h : SS G M (pc + 1) ls r (wI μ k i j.toNatClampNeg (x &&& 1)) Φ) : SS G M pc ls ((.int x, e3) :: (.int j, e1) :: (.ref k, i) :: r) μ Φ := by
  intro p e s m args below meth c cells slots Q E R H locs L hH hS hL hl hst
  have hi := vok_num (vld_hd (vld_tl (vld_tl hst)))
  have hk := tag_lt ht (by decide)
  have hK := E.2.2.2.2.2.2.2.1
  have hc := cellAt_arr (by rw [ht]; decide) (hH.1 k i hk hi)
  have ha := arr_of hK hk (by rw [ht]; decide) (klen k) (fun j => sv G μ k i j)
  have hcl := (arr_cl k hk).2.2.2.1 ht
  refine W.zast E.1 E.2.1 hc (by rw [hcl] at ha; rw [hcl]; exact ha) (fun q => by cases q) (by rw [arrV_size]; exact hin) rfl rfl hd fun H1 e z oq => ?_
  exact h p _ s m args below meth c cells slots Q E R H1 _ L (store_i (x := x) hK hH hk hi (Or.inr (Or.inr ht)) e oq) (hS.put z oq (hK.2.2.2.1 k i hk hi)) hL hl (vld_tl (vld_tl (vld_tl hst)))
theorem SS_last {x : Int64} {e3 : Nat} (hd : decode (mc M) pc = .ok (.lastore, 1)) (ht : ktag k = 2) (hin : vp_in j (klen k)) (h : SS G M (pc + 1) ls r (wL μ k i j.toNatClampNeg x) Φ) : SS G M pc ls ((.long x, e3) :: (.int j, e1) :: (.ref k, i) :: r) μ Φ := by
  intro p e s m args below meth c cells slots Q E R H locs L hH hS hL hl hst
  have hi := vok_num (vld_hd (vld_tl (vld_tl hst)))
  have hk := tag_lt ht (by decide)
  have hK := E.2.2.2.2.2.2.2.1
  have hc := cellAt_arr (by rw [ht]; decide) (hH.1 k i hk hi)
  have ha := arr_of hK hk (by rw [ht]; decide) (klen k) (fun j => sv G μ k i j)
  have hcl := (arr_cl k hk).2.1 ht
  refine W.last E.1 E.2.1 hc (by rw [hcl] at ha; rw [hcl]; exact ha) (fun q => by cases q) (by rw [arrV_size]; exact hin) rfl rfl hd fun H1 e z oq => ?_
  refine h p _ s m args below meth c cells slots Q E R H1 _ L (Hd_put hK hH hk hi (cellAt_arr' (by rw [ht]; decide) ?_) oq wL_oth ?_) (hS.put z oq (hK.2.2.2.1 k i hk hi)) hL hl (vld_tl (vld_tl (vld_tl hst)))
  · rw [e, arrV_store]
    congr 2
    funext q
    rw [sv_long ht]
    by_cases hq : q = j.toNatClampNeg
    · subst hq
      simp [updV, wL]
    · simp [updV, wL, hq, sv_long ht]
  · exact hH.2
theorem SS_alen (hd : decode (mc M) pc = .ok (.arraylength, 1)) (ht : ktag k = 1 ∨ ktag k = 2) (h : SS G M (pc + 1) ls (vi (nI (klen k)) :: r) μ Φ) : SS G M pc ls ((.ref k, i) :: r) μ Φ := by
  intro p e s m args below meth c cells slots Q E R H locs L hH hS hL hl hst
  have hi := vok_num (vld_hd hst)
  have hn0 : ktag k ≠ 0 := by rcases ht with h | h <;> rw [h] <;> decide
  have hk : k < 52 := by rcases ht with h | h <;> exact tag_lt h (by decide)
  have hc := cellAt_arr hn0 (hH.1 k i hk hi)
  have ha := arr_of E.2.2.2.2.2.2.2.1 hk hn0 (klen k) (fun j => sv G μ k i j)
  exact W.alen (n := nI (klen k)) E.1 E.2.1 hc ha (by rw [arrV_size]; rfl) rfl rfl hd (h p e s m args below meth c cells slots Q E R H locs L hH hS hL hl (vld_cons (by exact rfl) (vld_tl hst)))
theorem rom_cell {s : State} {H : Heap} {locs : List Loc} {ty : FieldType} {t N : Nat} {f : Nat → Value} (hT : va_T ty t N f (Aw G) s s.heap) (hS : va_S (Aw G) s.heap H locs) : ∃ cell : Cell, H[t]? = some cell ∧ s.isArrayOf cell ty ∧ cell.vm ≠ .unknown ∧ N ≤ cell.slots.size ∧ cell.slots.size.toInt32 = Int32.ofNat N ∧ (∀ j : Nat, j < N → cell.slots[j]? = some (f j)) := by
  obtain ⟨cell, h1, h2, h3, h4, h5, h6, h7⟩ := hT
  exact ⟨cell, by rw [hS.2.1 t (Array.getElem?_eq_some_iff.mp h1).1 h7]; exact h1, h2, h3, h4, h5, h6⟩
theorem SS_rald (hd : decode (mc M) pc = .ok (.iaload, 1)) (ht : ktag k = 6) (hin : vp_in j 6) (h : SS G M (pc + 1) ls (vi (rom k j.toNatClampNeg) :: r) μ Φ) : SS G M pc ls ((.int j, e1) :: (.ref k, i) :: r) μ Φ := by
  intro p e s m args below meth c cells slots Q E R H locs L hH hS hL hl hst
  have hk := tag_rom ht
  have hi := vok_num (vld_hd (vld_tl hst))
  have hn : ∀ k, 52 ≤ k → k < 57 → knum k = 1 := fun k h1 h2 => by
    have : ∀ k, k < 57 → 52 ≤ k → knum k = 1 := by decide +kernel
    exact this k h2 h1
  rw [hn k hk.1 hk.2] at hi
  have hi0 : i = 0 := by omega
  subst hi0
  have hT := (E.2.2.2.2.2.2.2.1.2.2.2.2.1 (k - 52) (by omega)).2
  rw [show 52 + (k - 52) = k by omega] at hT
  obtain ⟨cell, h1, h2, h3, h4, h5, h6⟩ := rom_cell hT hS
  exact W.iald (v := .int (rom k j.toNatClampNeg)) E.1 E.2.1 h1 h2 h3 (fun q => hin (q.imp id (fun q => Nat.le_trans h4 q))) (h6 _ (vp_lt hin)) rfl rfl hd (h p e s m args below meth c cells slots Q E R H locs L hH hS hL hl (vld_cons (by exact rfl) (vld_tl (vld_tl hst))))
theorem scr_0 (ht : ktag k = 7) (h : vok (.ref k, i)) : k = 57 ∧ i = 0 := by
  have hk := tag_scr ht
  subst hk
  have := vok_num h
  exact ⟨rfl, Nat.lt_one_iff.mp this⟩
theorem SS_sald (hd : decode (mc M) pc = .ok (.iaload, 1)) (ht : ktag k = 7) (hin : vp_in j (gL G)) (h : SS G M (pc + 1) ls (vi (gxs G j.toNatClampNeg) :: r) μ Φ) : SS G M pc ls ((.int j, e1) :: (.ref k, i) :: r) μ Φ := by
  intro p e s m args below meth c cells slots Q E R H locs L hH hS hL hl hst
  obtain ⟨rfl, rfl⟩ := scr_0 ht (vld_hd (vld_tl hst))
  have hT := E.2.2.2.2.2.2.2.1.2.2.2.2.2.1
  obtain ⟨cell, h1, h2, h3, h4, h5, h6⟩ := rom_cell hT hS
  exact W.iald (v := .int (gxs G j.toNatClampNeg)) E.1 E.2.1 h1 h2 h3 (fun q => hin (q.imp id (fun q => Nat.le_trans h4 q))) (h6 _ (vp_lt hin)) rfl rfl hd (h p e s m args below meth c cells slots Q E R H locs L hH hS hL hl (vld_cons (by exact rfl) (vld_tl (vld_tl hst))))
theorem SS_slen (hd : decode (mc M) pc = .ok (.arraylength, 1)) (ht : ktag k = 7) (h : SS G M (pc + 1) ls (vi (nI (gL G)) :: r) μ Φ) : SS G M pc ls ((.ref k, i) :: r) μ Φ := by
  intro p e s m args below meth c cells slots Q E R H locs L hH hS hL hl hst
  obtain ⟨rfl, rfl⟩ := scr_0 ht (vld_hd hst)
  have hT := E.2.2.2.2.2.2.2.1.2.2.2.2.2.1
  obtain ⟨cell, h1, h2, h3, h4, h5, h6⟩ := rom_cell hT hS
  exact W.alen (n := nI (gL G)) E.1 E.2.1 h1 h2 h5 rfl rfl hd (h p e s m args below meth c cells slots Q E R H locs L hH hS hL hl (vld_cons (by exact rfl) (vld_tl hst)))
def okG (own : String) (q : Nat × Nat) : Bool := Nat.ble 52 q.2 && Nat.blt q.2 57 && (decide (Cond.fieldLink own q.1 "ColdShares" (romN.getD (q.2 - 52) "") "[I" ∈ lw_g) || decide (Cond.fieldLinkNest own q.1 "ColdShares" (romN.getD (q.2 - 52) "") "[I" "ColdShares" ∈ lw_tbl))
theorem SS_gets {idx k : Nat} (hd : decode (mc M) pc = .ok (.getstatic idx, 3)) (hg : okG (my M).cls (idx, k) = true) (h : SS G M (pc + 3) ls (vr k 0 :: r) μ Φ) : SS G M pc ls r μ Φ := by
  intro p e s m args below meth c cells slots Q E R H locs L hH hS hL hl hst
  unfold okG at hg
  simp only [Bool.and_eq_true, Bool.or_eq_true, decide_eq_true_eq] at hg
  obtain ⟨⟨h1, h2⟩, h3⟩ := hg
  have h1 : 52 ≤ k := Nat.le_of_ble_eq_true h1
  have h2 : k < 57 := Nat.le_of_ble_eq_true h2
  have hZ := (E.2.2.2.2.2.2.2.1.2.2.2.2.1 (k - 52) (by omega)).1
  rw [show 52 + (k - 52) = k by omega] at hZ
  have hv : vok (vr k 0) := by
    have : ∀ k, k < 57 → 52 ≤ k → vokB (vr k 0) = true := by decide +kernel
    exact this k h2 h1
  have h9 := h p e s m args below meth c cells slots Q E R H locs L hH hS hL hl (vld_cons hv hst)
  rcases h3 with h3 | h3
  · exact va_gets E.1 E.2.1 hZ hS E.2.2.2.2.2.1 (E.2.2.2.2.2.2.1 _ h3) (fun _ h => h) hd h9
  · exact va_getsN E.1 E.2.1 hZ hS E.2.2.2.2.2.1 (va_Nw.use rfl (E.2.2.2.2.2.2.2.1.2.2.2.2.2.2.2 _ h3 rfl)) (fun _ h => h) hd h9
end S3
