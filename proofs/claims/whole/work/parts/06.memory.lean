/-! memory: loads and stores -/
theorem kt_big {k : Nat} (h : 58 ≤ k) : kt k = (9, 0, 0, 0) := by
  unfold kt
  rw [List.getD_eq_getElem?_getD, List.getElem?_eq_none (show kTab.length ≤ k from h)]
  rfl
theorem kt_tag : ∀ k, k < 58 → (ktag k ≤ 5 → k < 52) ∧ (ktag k = 6 → 52 ≤ k ∧ k < 57) ∧ (ktag k = 7 → k = 57) ∧ (ktag k = 0 → k < 9) ∧ (ktag k = 5 → 9 ≤ k ∧ k < 16) := by decide +kernel
theorem tag_lt {k t : Nat} (h : ktag k = t) (ht : t ≤ 5) : k < 52 := by
  by_cases hk : k < 58
  · exact (kt_tag k hk).1 (by rw [h]; exact ht)
  · rw [ktag, kt_big (by omega)] at h
    subst h
    exact absurd ht (by decide)
theorem tag_rom {k : Nat} (h : ktag k = 6) : 52 ≤ k ∧ k < 57 := by
  by_cases hk : k < 58
  · exact (kt_tag k hk).2.1 h
  · rw [ktag, kt_big (by omega)] at h
    cases h
theorem tag_scr {k : Nat} (h : ktag k = 7) : k = 57 := by
  by_cases hk : k < 58
  · exact (kt_tag k hk).2.2.1 h
  · rw [ktag, kt_big (by omega)] at h
    cases h
theorem vok_num {k i : Nat} (h : vok (.ref k, i)) : i < knum k := Nat.le_of_ble_eq_true h
theorem vok_of {k i : Nat} (h : i < knum k) : vok (.ref k, i) := Nat.ble_eq_true_of_le h
theorem obj_tab : ∀ k, k < 52 → ktag k = 0 → vwCl[kcl k]?.map (fun q => q.2.2) = some (klen k) := by decide +kernel
theorem obj_rf : ∀ k, k < 9 → ∀ i, i < knum k → ∀ f, f < klen k → fc (kcl k) f = 2 → vokB (rf k i f) = true := by decide +kernel
theorem arr_rf : ∀ k, k < 16 → ktag k = 5 → ∀ i, i < knum k → ∀ f, f < klen k → vokB (rf k i f) = true := by decide +kernel
theorem arr_cl : ∀ k, k < 52 → (ktag k = 1 → kcl k = 0) ∧ (ktag k = 2 → kcl k = 1) ∧ (ktag k = 3 → kcl k = 2) ∧ (ktag k = 4 → kcl k = 3) ∧ (ktag k = 5 → 4 ≤ kcl k ∧ kcl k < 8) ∧ klen k < 2 ^ 31 := by decide +kernel
theorem cls_in : ∀ (ci : Nat) (q : vw_C), vwCl[ci]? = some q → ∀ w ∈ u_ws q.1 q.2.1 q.2.2, w ∈ lw_g := by
  intro ci q h
  match ci, h with
  | 0, h => cases h; decide +kernel
  | 1, h => cases h; decide +kernel
  | 2, h => cases h; decide +kernel
  | 3, h => cases h; decide +kernel
  | 4, h => cases h; decide +kernel
  | 5, h => cases h; decide +kernel
  | 6, h => cases h; decide +kernel
  | 7, h => cases h; decide +kernel
  | n + 8, h => simp [vwCl] at h
theorem cls_nm : ∀ (ci : Nat) (q : vw_C), vwCl[ci]? = some q → (∀ a, a < q.2.2 → ∀ b, b < q.2.2 → a ≠ b → (q.2.1 a).2.1 ≠ (q.2.1 b).2.1) ∧ ∃ ty : Nat → FieldType, ∀ k, k < q.2.2 → parseFieldDescriptor (q.2.1 k).2.2.1 = some (ty k) := by
  intro ci q h
  match ci, h with
  | 0, h => cases h; exact ⟨nmX0, tyX0, tyX0_ok⟩
  | 1, h => cases h; exact ⟨nmX1, tyX1, tyX1_ok⟩
  | 2, h => cases h; exact ⟨nmX2, tyX2, tyX2_ok⟩
  | 3, h => cases h; exact ⟨nmX3, tyX3, tyX3_ok⟩
  | 4, h => cases h; exact ⟨nmX4, tyX4, tyX4_ok⟩
  | 5, h => cases h; exact ⟨nmX5, tyX5, tyX5_ok⟩
  | 6, h => cases h; exact ⟨nmX6, tyX6, tyX6_ok⟩
  | 7, h => cases h; exact ⟨nmX7, tyX7, tyX7_ok⟩
  | n + 8, h => simp [vwCl] at h
theorem cls_ty : ∀ (ci : Nat) (q : vw_C), vwCl[ci]? = some q → ∀ f, f < q.2.2 → (fc ci f = 0 → (q.2.1 f).2.2.2 = false ∧ parseFieldDescriptor (q.2.1 f).2.2.1 = some .int) ∧ (fc ci f = 1 → (q.2.1 f).2.2.2 = false ∧ parseFieldDescriptor (q.2.1 f).2.2.1 = some .long) ∧ (fc ci f = 3 → (q.2.1 f).2.2.2 = false ∧ parseFieldDescriptor (q.2.1 f).2.2.1 = some (.object "ColdShares$Row") ∧ ci = 2 ∧ f = 1) := by
  intro ci q h
  match ci, h with
  | 0, h => cases h; decide +kernel
  | 1, h => cases h; decide +kernel
  | 2, h => cases h; decide +kernel
  | 3, h => cases h; decide +kernel
  | 4, h => cases h; decide +kernel
  | 5, h => cases h; decide +kernel
  | 6, h => cases h; decide +kernel
  | 7, h => cases h; decide +kernel
  | n + 8, h => simp [vwCl] at h
/-- a link of a field -/
def okF (own : String) (q : Nat × Nat × Nat) : Bool := match vwCl[q.2.1]? with
  | some t => Nat.blt q.2.2 t.2.2 && decide (Cond.fieldLink own q.1 (t.2.1 q.2.2).1 (t.2.1 q.2.2).2.1 (t.2.1 q.2.2).2.2.1 ∈ lw_g)
  | none => false
theorem okF_c {own : String} {idx ci f : Nat} (h : okF own (idx, ci, f) = true) : ∃ C T N, vwCl[ci]? = some (C, T, N) ∧ f < N ∧ Cond.fieldLink own idx (T f).1 (T f).2.1 (T f).2.2.1 ∈ lw_g := by
  unfold okF at h
  dsimp only at h
  split at h
  · rename_i t ht
    rw [Bool.and_eq_true] at h
    exact ⟨t.1, t.2.1, t.2.2, ht, Nat.le_of_ble_eq_true h.1, of_decide_eq_true h.2⟩
  · cases h
theorem cellAt_obj {G : Ge} {μ : Mm} {k i : Nat} {H : Heap} (ht : ktag k = 0) (h : cellAt G μ k i H) : t_OB (gad G k i) (gC G (kcl k)) (klen k) (gI G (kcl k)) H (fun f => sv G μ k i f) := by
  unfold cellAt at h
  rw [ht] at h
  exact h
theorem cellAt_obj' {G : Ge} {μ : Mm} {k i : Nat} {H : Heap} (ht : ktag k = 0) (h : t_OB (gad G k i) (gC G (kcl k)) (klen k) (gI G (kcl k)) H (fun f => sv G μ k i f)) : cellAt G μ k i H := by
  unfold cellAt
  rw [ht]
  exact h
theorem cellAt_arr {G : Ge} {μ : Mm} {k i : Nat} {H : Heap} (ht : ktag k ≠ 0) (h : cellAt G μ k i H) : H[gad G k i]? = some (arrV (gA G (kcl k)) (klen k) (fun j => sv G μ k i j)) := by
  unfold cellAt at h
  split at h
  · rename_i e
    exact absurd e ht
  · exact h
theorem cellAt_arr' {G : Ge} {μ : Mm} {k i : Nat} {H : Heap} (ht : ktag k ≠ 0) (h : H[gad G k i]? = some (arrV (gA G (kcl k)) (klen k) (fun j => sv G μ k i j))) : cellAt G μ k i H := by
  unfold cellAt
  split
  · rename_i e
    exact absurd e ht
  · exact h
theorem cellAt_kept {G : Ge} {μ μ' : Mm} {k i : Nat} {H H' : Heap} (h : cellAt G μ k i H) (hs : ∀ s, sv G μ' k i s = sv G μ k i s) (hq : H'[gad G k i]? = H[gad G k i]?) : cellAt G μ' k i H' := by
  by_cases ht : ktag k = 0
  · refine cellAt_obj' ht ?_
    have := (cellAt_obj ht h).kept hq
    exact this.to (fun f _ => (hs f).symm)
  · refine cellAt_arr' ht ?_
    rw [hq, cellAt_arr ht h]
    congr 2
    funext j
    exact (hs j).symm
theorem sv_same {G : Ge} {μ μ' : Mm} {k i s : Nat} (h1 : μ'.1 k i s = μ.1 k i s) (h2 : μ'.2 k i s = μ.2 k i s) : sv G μ' k i s = sv G μ k i s := by
  unfold sv
  rw [h1, h2]
theorem Hd_put {G : Ge} {μ μ' : Mm} {s : State} {k i : Nat} {H H' : Heap} (hK : Kn G s) (hH : Hd G μ H) (hk : k < 52) (hi : i < knum k) (hc : cellAt G μ' k i H') (ho : ∀ q, q ≠ gad G k i → H'[q]? = H[q]?)
    (hμ : ∀ k' i' s', ¬ (k' = k ∧ i' = i) → μ'.1 k' i' s' = μ.1 k' i' s' ∧ μ'.2 k' i' s' = μ.2 k' i' s') (ht : (μ'.1 2 0 1).toInt ≤ 4) : Hd G μ' H' := by
  refine ⟨fun k' i' hk' hi' => ?_, ht⟩
  by_cases e : k' = k ∧ i' = i
  · obtain ⟨rfl, rfl⟩ := e
    exact hc
  · refine cellAt_kept (hH.1 k' i' hk' hi') (fun s => sv_same (hμ k' i' s e).1 (hμ k' i' s e).2) (ho _ fun q => e ?_)
    exact hK.2.2.1 k' i' k i hk' hi' hk hi q
section S2
variable {G : Ge} {M : MS} {pc pc' len : Nat} {ls st st' : List Vl} {μ : Mm} {Φ : Ph} {nx : Nat → List Vl → List Vl → Mm → Prop}
/-- a field is read -/
theorem SS_get {idx k i f : Nat} {r : List Vl} {v : Vl} (hd : decode (mc M) pc = .ok (.getfield idx, 3)) (ht : ktag k = 0) (hl : okF (my M).cls (idx, kcl k, f) = true) (hv : ∀ H, Hd G μ H → i < knum k → vok v ∧ sv G μ k i f = mv G v) (h : SS G M (pc + 3) ls (v :: r) μ Φ) : SS G M pc ls ((.ref k, i) :: r) μ Φ := by
  intro p e s m args below meth c cells slots Q E R H locs L hH hS hL hl' hst
  obtain ⟨C, T, N, hc, hf, hw⟩ := okF_c hl
  have hi := vok_num (vld_hd hst)
  have hk := tag_lt ht (by decide)
  obtain ⟨cell, q1, q2, q3, q4⟩ := cellAt_obj ht (hH.1 k i hk hi)
  have hN : N = klen k := by
    have := obj_tab k hk ht
    rw [hc] at this
    exact Option.some.inj this
  have hin := cls_in (kcl k) _ hc
  have hts := E.2.2.2.2.2.2.1
  obtain ⟨hSl, hfc, kC, hkC, hkind⟩ := E.2.2.2.2.2.2.2.1.1.1 (kcl k) _ hc
  obtain ⟨cf, kf, fi, fd, hi', hsl⟩ := hSl f hf
  refine W.getf E.1 E.2.1 E.2.2.2.2.2.1 (hts _ hw) hi' (u_facts hfc hkC (u_lays hts hin hf) hi').1 q1 (by rw [q3]; exact fun h => by cases h) (v := mv G v) ?_ rfl rfl hd ?_
  · rw [hsl]
    have h9 : cell.slots[gI G (kcl k) f]? = some (sv G μ k i f) := q4 f (by rw [← hN]; exact hf)
    rw [(hv H hH hi).2] at h9
    exact h9
  · exact h p e s m args below meth c cells slots Q E R H locs L hH hS hL hl' (vld_cons (hv H hH hi).1 (vld_tl hst))
/-- a field is written -/
theorem SS_put {idx k i f : Nat} {r : List Vl} {v : Vl} {μ' : Mm} {ty : FieldType} (hd : decode (mc M) pc = .ok (.putfield idx, 3)) (ht : ktag k = 0) (hl : okF (my M).cls (idx, kcl k, f) = true)
    (hty : ∀ q, vwCl[kcl k]? = some q → f < q.2.2 → (q.2.1 f).2.2.2 = false ∧ parseFieldDescriptor (q.2.1 f).2.2.1 = some ty) (hn : narrow ty (mv G v) = mv G v) (hfit : fits ty (mv G v) = true) (hvc : v.1.category = 1 ∨ True)
    (hsf : vok v → i < knum k → sv G μ' k i f = mv G v) (hso : ∀ g, g ≠ f → sv G μ' k i g = sv G μ k i g) (hμ : ∀ k' i' s', ¬ (k' = k ∧ i' = i) → μ'.1 k' i' s' = μ.1 k' i' s' ∧ μ'.2 k' i' s' = μ.2 k' i' s') (h4 : vok v → (μ.1 2 0 1).toInt ≤ 4 → (μ'.1 2 0 1).toInt ≤ 4)
    (h : SS G M (pc + 3) ls r μ' Φ) : SS G M pc ls (v :: (.ref k, i) :: r) μ Φ := by
  intro p e s m args below meth c cells slots Q E R H locs L hH hS hL hl' hst
  obtain ⟨C, T, N, hc, hf, hw⟩ := okF_c hl
  have hi := vok_num (vld_hd (vld_tl hst))
  have hk := tag_lt ht (by decide)
  obtain ⟨cell, q1, q2, q3, q4⟩ := cellAt_obj ht (hH.1 k i hk hi)
  have hN : N = klen k := by
    have := obj_tab k hk ht
    rw [hc] at this
    exact Option.some.inj this
  have hin := cls_in (kcl k) _ hc
  have hts := E.2.2.2.2.2.2.1
  have hKn := E.2.2.2.2.2.2.2.1
  obtain ⟨hnm, ty0, hty0⟩ := cls_nm (kcl k) _ hc
  have hap := va_apart (own := (my M).cls) hts hin ty0 hty0 hnm hKn.1 hc
  obtain ⟨hSl, hfc, kC, hkC, hkind⟩ := hKn.1.1 (kcl k) _ hc
  obtain ⟨cf, kf, fi, fd, hi', hsl⟩ := hSl f hf
  obtain ⟨hfin, hdsc⟩ := hty _ hc hf
  have hlay := hts _ (hin _ (u_in_lay hf))
  unfold u_lay at hlay
  rw [if_neg (by rw [hfin]; decide)] at hlay
  have hst0 := (u_facts hfc hkC (u_lays hts hin hf) hi').1
  have h6 := u_store hfc hkC hkind hlay hi' hdsc hn hfit
  have hf' : f < klen k := by rw [← hN]; exact hf
  refine W.putK E.1 E.2.1 (f := fd) ⟨E.2.2.2.2.2.1, hts _ hw, ⟨_, _, _, hi'⟩, hst0⟩ (by rw [q2]; exact h6) q1 q3 (by rw [hsl]; exact k2_hasslot (q4 f hf')) rfl rfl hd fun H' e1 e2 e3 => ?_
  have hcell : cellAt G μ' k i H' := by
    refine cellAt_obj' ht ?_
    rw [hsl] at e1
    refine t_OB.to (V := updV (fun f => sv G μ k i f) f (mv G v)) ⟨_, e1, q2, q3, t_set q4 (by rw [← hN]; exact hap) hf' (mv G v)⟩ (fun j hj => ?_)
    by_cases e : j = f
    · subst e
      rw [hsf (vld_hd hst) hi]
      simp [updV]
    · rw [hso j e]
      simp [updV, e]
  exact h p e s m args below meth c cells slots Q E R H' _ L (Hd_put hKn hH hk hi hcell e3 hμ (h4 (vld_hd hst) hH.2)) (hS.put e2 e3 (hKn.2.2.2.1 k i hk hi)) hL hl' (vld_tl (vld_tl hst))
end S2
