/-! a whole step; a whole way; a contract -/
def okI (M : MS) (lk : Lk) (e : En) : Bool := match e with
  | (pc, ins, len, a, b, c, d, cs) => match ins with
    | .iconst n => Nat.beq len 1 && decide (Int32.ofInt n = c)
    | .bipush n => Nat.beq len 2 && decide ((Int8.ofInt n).toInt32 = c)
    | .sipush n => Nat.beq len 3 && decide ((Int16.ofInt n).toInt32 = c)
    | .ldc i => Nat.beq len 2 && decide ((i, c) ∈ lk.2.2.1)
    | .ldc_w i => Nat.beq len 3 && decide ((i, c) ∈ lk.2.2.1)
    | .lconst n => Nat.beq len 1 && decide (Int64.ofNat (n : Nat) = d)
    | .ldc2_w i => Nat.beq len 3 && decide ((i, d) ∈ lk.2.2.2.1)
    | .iload _ => Nat.beq len 2
    | .lload _ => Nat.beq len 2
    | .aload _ => Nat.beq len 2
    | .istore _ => Nat.beq len 2
    | .lstore _ => Nat.beq len 2
    | .astore _ => Nat.beq len 2
    | .iinc _ n => Nat.beq len 3 && decide (Int32.ofInt n = c)
    | .goto off => Nat.beq len 3 && decide ((pc : Int) + off = (a : Int))
    | .ifCond _ off => Nat.beq len 3 && decide ((pc : Int) + off = (a : Int))
    | .if_icmp _ off => Nat.beq len 3 && decide ((pc : Int) + off = (a : Int))
    | .ifnull off => Nat.beq len 3 && decide ((pc : Int) + off = (a : Int))
    | .tableswitch dflt lo hi offs => okT pc dflt lo hi offs a cs
    | .lookupswitch dflt ps => okK pc dflt ps a cs
    | .getfield i => Nat.beq len 3 && decide ((i, a, b) ∈ lk.1)
    | .putfield i => Nat.beq len 3 && decide ((i, a, b) ∈ lk.1)
    | .getstatic i => Nat.beq len 3 && decide ((i, a) ∈ lk.2.2.2.2)
    | .invokevirtual i => Nat.beq len 3 && Nat.blt a lk.2.1.length && (match lk.2.1.getD a (0, 9, m0) with
      | (i', _, M') => Nat.beq i i' && Nat.ble ((mR M').frames + 1) (mR M).frames && Nat.ble (8 + (mL M' + 11) + (mR M').locals) (mR M).locals)
    | .invokestatic i => Nat.beq len 3 && Nat.blt a lk.2.1.length && (match lk.2.1.getD a (0, 9, m0) with
      | (i', 3, _) => Nat.beq i i' && Nat.ble 1 (mR M).frames && Nat.ble 26 (mR M).locals
      | (i', _, M') => Nat.beq i i' && Nat.ble ((mR M').frames + 1) (mR M).frames && Nat.ble (8 + (mL M' + 11) + (mR M').locals) (mR M).locals)
    | _ => Nat.beq len 1
def okM (own : String) (q : Nat × Nat × MS) : Bool := match q with
  | (idx, 3, _) => okA own idx
  | (idx, kd, M) => okC own (idx, kd, M)
/-- the links of a type are good -/
def okL (own : String) (lk : Lk) : Prop := (∀ q ∈ lk.1, okF own q = true) ∧ (∀ q ∈ lk.2.1, okM own q = true) ∧ (∀ q ∈ lk.2.2.1, Cond.constant own q.1 q.2 ∈ lw_g) ∧ (∀ q ∈ lk.2.2.2.1, Cond.constantLong own q.1 q.2 ∈ lw_g) ∧ ∀ q ∈ lk.2.2.2.2, okG own q = true
theorem getD_mem {α : Type} {l : List α} {a : Nat} {d : α} (h : a < l.length) : l.getD a d ∈ l := by
  rw [List.getD_eq_getElem?_getD, List.getElem?_eq_getElem h]
  exact List.getElem_mem h
theorem beqN {a b : Nat} (h : Nat.beq a b = true) : a = b := Nat.eq_of_beq_eq_true h
section S6
variable {G : Ge} {M : MS} {lk : Lk} {ls st : List Vl} {μ : Mm} {Φ : Ph} {nx : Nat → List Vl → List Vl → Mm → Prop} {b : Nat} {c : Int32} {d : Int64} {cs : List (Int32 × Nat)}
theorem lI_c {k : Nat} {P : Int32 → Prop} (h : lI ls k P) : ∃ x e, lget ls k = (.int x, e) ∧ P x := by
  unfold lI at h
  split at h
  · rename_i x e he
    exact ⟨x, e, he, h⟩
  · exact h.elim
theorem lJ_c {k : Nat} {P : Int64 → Prop} (h : lJ ls k P) : ∃ x e, lget ls k = (.long x, e) ∧ P x := by
  unfold lJ at h
  split at h
  · rename_i x e he
    exact ⟨x, e, he, h⟩
  · exact h.elim
theorem lA_c {k : Nat} {P : Nat → Nat → Prop} (h : lA ls k P) : ∃ x i, lget ls k = (.ref x, i) ∧ P x i := by
  unfold lA at h
  split at h
  · rename_i x e he
    exact ⟨x, e, he, h⟩
  · exact h.elim
theorem ok2 {a b : Bool} (h : (a && b) = true) : a = true ∧ b = true := (Bool.and_eq_true _ _).mp h
/-- a call of a method of an object -/
theorem cV_s {pc i : Nat} {q : Nat × Nat × MS} (hd : decode (mc M) pc = .ok (.invokevirtual i, 3)) (hq : okM (my M).cls q = true) (hi : i = q.1) (h4 : (mR q.2.2).frames + 1 ≤ (mR M).frames) (h5 : 8 + (mL q.2.2 + 11) + (mR q.2.2).locals ≤ (mR M).locals) (N : ∀ pc1 ls1 st1 μ1, nx pc1 ls1 st1 μ1 → SS G M pc1 ls1 st1 μ1 Φ) (h : cV G q st μ (fun st' μ' => nx (pc + 3) ls st' μ')) : SS G M pc ls st μ Φ := by
  obtain ⟨i', kd, M'⟩ := q
  cases hi
  match kd, h with
  | 0, h =>
    have h : popA (mN M') st [] (fun as r0 => pr r0 (fun k i r => match ktag k with
      | 0 => bq (Nat.beq (kcl k) (mK M') && Nat.ble (wsum r) 8) (callK G M' (vr k i :: as) μ r (fun st' μ' => nx (pc + 3) ls st' μ'))
      | _ => False)) := h
    obtain ⟨as, r0, e1, e2, g1⟩ := popA_c _ _ _ _ h
    obtain ⟨k, j, r, e3, g2⟩ := pr_c g1
    rw [List.append_nil] at g2
    rw [e2, e3]
    split at g2
    · rename_i ht
      obtain ⟨hb, g3⟩ := bq_c g2
      have hb := ok2 hb
      obtain ⟨Ψ, hC, hk⟩ := callK_c (pc := pc) (ls := ls) (M := M) (Φ := Φ) g3 (fun st1 μ1 hx => N _ _ _ _ hx)
      exact SS_callV hd hq ht (beqN hb.1) e1 (Nat.le_of_ble_eq_true hb.2) h4 h5 hC hk
    · exact g2.elim
  | n + 1, h => exact h.elim
theorem cpy_s {pc i : Nat} (hd : decode (mc M) pc = .ok (.invokestatic i, 3)) (hq : okA (my M).cls i = true) (h4 : 1 ≤ (mR M).frames) (h5 : 26 ≤ (mR M).locals) (N : ∀ pc1 ls1 st1 μ1, nx pc1 ls1 st1 μ1 → SS G M pc1 ls1 st1 μ1 Φ) (h : cpy st μ (fun st' μ' => nx (pc + 3) ls st' μ')) : SS G M pc ls st μ Φ := by
  unfold cpy at h
  split at h
  · split at h
    · rename_i t0
      obtain ⟨hb, hh, g1⟩ := bq_c h
      have hb := ok2 hb
      exact SS_copyI hd hq t0 (beqN hb.1) (Nat.le_of_ble_eq_true hb.2) h4 h5 hh (N _ _ _ _ g1)
    · rename_i t0
      obtain ⟨hb, hh, g1⟩ := bq_c h
      have hb := ok2 hb
      exact SS_copyL hd hq t0 (beqN hb.1) (Nat.le_of_ble_eq_true hb.2) h4 h5 hh (N _ _ _ _ g1)
    · exact h.elim
  · exact h.elim
theorem cS_s {pc i : Nat} {q : Nat × Nat × MS} (hd : decode (mc M) pc = .ok (.invokestatic i, 3)) (hq : okM (my M).cls q = true) (hi : i = q.1) (h3 : q.2.1 = 3 → 1 ≤ (mR M).frames ∧ 26 ≤ (mR M).locals) (h45 : q.2.1 ≠ 3 → (mR q.2.2).frames + 1 ≤ (mR M).frames ∧ 8 + (mL q.2.2 + 11) + (mR q.2.2).locals ≤ (mR M).locals) (N : ∀ pc1 ls1 st1 μ1, nx pc1 ls1 st1 μ1 → SS G M pc1 ls1 st1 μ1 Φ) (h : cS G q st μ (fun st' μ' => nx (pc + 3) ls st' μ')) : SS G M pc ls st μ Φ := by
  obtain ⟨i', kd, M'⟩ := q
  cases hi
  have main : (okC (my M).cls (i', 1, M') = true ∨ okC (my M).cls (i', 2, M') = true) → kd ≠ 3 → popA (mN M') st [] (fun as r => bq (Nat.ble (wsum r) 8) (callK G M' as μ r (fun st' μ' => nx (pc + 3) ls st' μ'))) → SS G M pc ls st μ Φ := by
    intro hq hn h
    obtain ⟨as, r, e1, e2, g1⟩ := popA_c _ _ _ _ h
    rw [List.append_nil] at g1
    rw [e2]
    obtain ⟨hb, g2⟩ := bq_c g1
    obtain ⟨Ψ, hC, hk⟩ := callK_c (pc := pc) (ls := ls) (M := M) (Φ := Φ) g2 (fun st1 μ1 hx => N _ _ _ _ hx)
    exact SS_callS hd hq e1 (Nat.le_of_ble_eq_true hb) (h45 hn).1 (h45 hn).2 hC hk
  match kd, h, hq, h3, main with
  | 0, h, _, _, _ => exact h.elim
  | 1, h, hq, _, main => exact main (Or.inl hq) (by decide) h
  | 2, h, hq, _, main => exact main (Or.inr hq) (by decide) h
  | 3, h, hq, h3, _ => exact cpy_s hd hq (h3 rfl).1 (h3 rfl).2 N h
  | n + 4, h, _, _, _ => exact h.elim
theorem gF_s {pc idx k i a f : Nat} {r : List Vl} (hd : decode (mc M) pc = .ok (.getfield idx, 3)) (hl : okF (my M).cls (idx, a, f) = true) (N : ∀ pc1 ls1 st1 μ1, nx pc1 ls1 st1 μ1 → SS G M pc1 ls1 st1 μ1 Φ) (h : gF k i a f μ (fun v => nx (pc + 3) ls (v :: r) μ)) : SS G M pc ls ((.ref k, i) :: r) μ Φ := by
  unfold gF at h
  split at h
  · rename_i ht
    obtain ⟨hb, g1⟩ := bq_c h
    clear h
    cases beqN hb
    split at g1
    · rename_i hf
      exact SS_get hd ht hl (fun H _ _ => ⟨by exact rfl, sv_f0 ht hf⟩) (N _ _ _ _ g1)
    · rename_i hf
      exact SS_get hd ht hl (fun H _ _ => ⟨by exact rfl, sv_f1 ht hf⟩) (N _ _ _ _ g1)
    · rename_i hf
      have hk9 := ((kt_tag k (by have := tag_lt ht (by decide); omega)).2.2.2.1 ht)
      have hlen : f < klen k := by
        obtain ⟨C, T, N, hc, hf', -⟩ := okF_c hl
        have := obj_tab k (by omega) ht
        rw [hc] at this
        rw [← Option.some.inj this]
        exact hf'
      exact SS_get hd ht hl (fun H _ hi => ⟨obj_rf k hk9 i hi f hlen hf, sv_f2 ht hf⟩) (N _ _ _ _ g1)
    · rename_i hf
      obtain ⟨C, T, N', hc, hf', -⟩ := okF_c hl
      obtain ⟨-, -, e1, e2⟩ := (cls_ty _ _ hc f hf').2.2 hf
      have hk9 := ((kt_tag k (by have := tag_lt ht (by decide); omega)).2.2.2.1 ht)
      have hk2 : k = 2 := by
        have : ∀ k, k < 9 → kcl k = 2 → k = 2 := by decide +kernel
        exact this k hk9 e1
      subst hk2
      subst e2
      by_cases hz : μ.1 2 i 1 = 0
      · rw [if_pos hz] at g1
        exact SS_get (v := vn) hd ht hl (fun H _ _ => ⟨rfl, by rw [sv_f3 ht hf, if_pos hz]; rfl⟩) (N _ _ _ _ g1)
      · rw [if_neg hz] at g1
        refine SS_get (v := vr 8 ((μ.1 2 i 1).toNatClampNeg - 1)) hd ht hl (fun H hH hi => ⟨vok_of ?_, by rw [sv_f3 ht hf, if_neg hz]; rfl⟩) (N _ _ _ _ g1)
        have hi : i < 1 := hi
        have hi0 : i = 0 := by omega
        subst hi0
        have h4 := hH.2
        show (μ.1 2 0 1).toInt.toNat - 1 < 4
        omega
    · exact g1.elim
  · exact h.elim
theorem pF_s {pc idx a f : Nat} (hd : decode (mc M) pc = .ok (.putfield idx, 3)) (hl : okF (my M).cls (idx, a, f) = true) (N : ∀ pc1 ls1 st1 μ1, nx pc1 ls1 st1 μ1 → SS G M pc1 ls1 st1 μ1 Φ) (h : pF st a f μ (fun r μ' => nx (pc + 3) ls r μ')) : SS G M pc ls st μ Φ := by
  have ne2 : ∀ (k i : Nat), ktag k = 0 → fc (kcl k) f ≠ 3 → ¬ (2 = k ∧ 0 = i ∧ 1 = f) := by
    rintro k i ht hf ⟨rfl, -, rfl⟩
    exact hf rfl
  unfold pF at h
  split at h
  · split at h
    · rename_i x e k i r k' ht
      obtain ⟨hb, g1⟩ := bq_c h
      clear h
      obtain ⟨hb, hf⟩ := ok2 hb
      cases beqN hb
      have hf := beqN hf
      refine SS_put (v := (.int x, e)) (μ' := wI μ k i f x) (ty := .int) hd ht hl (fun q hq hlt => (cls_ty _ _ hq f hlt).1 hf) rfl rfl (Or.inr trivial) (fun _ _ => by rw [sv_f0 ht hf, wI_eq]; rfl) (fun g hg => sv_same (wI_ne (fun q => hg q.2.2)) rfl) wI_oth (fun _ h4 => ?_) (N _ _ _ _ g1)
      rw [wI_ne (ne2 k i ht (by rw [hf]; decide))]
      exact h4
    · exact h.elim
  · split at h
    · rename_i x e k i r k' ht
      obtain ⟨hb, g1⟩ := bq_c h
      clear h
      obtain ⟨hb, hf⟩ := ok2 hb
      cases beqN hb
      have hf := beqN hf
      exact SS_put (v := (.long x, e)) (μ' := wL μ k i f x) (ty := .long) hd ht hl (fun q hq hlt => (cls_ty _ _ hq f hlt).2.1 hf) rfl rfl (Or.inr trivial) (fun _ _ => by rw [sv_f1 ht hf, wL_eq]; rfl) (fun g hg => sv_same rfl (wL_ne (fun q => hg q.2.2))) wL_oth (fun _ h4 => h4) (N _ _ _ _ g1)
    · exact h.elim
  · split at h
    · rename_i k' i' k i r k'' ht
      obtain ⟨hb, g1⟩ := bq_c h
      clear h
      obtain ⟨hb, hk8⟩ := ok2 hb
      obtain ⟨hb, hf⟩ := ok2 hb
      cases beqN hb
      cases beqN hk8
      have hf := beqN hf
      have hs : ∀ {v : Vl}, v = (.ref 8, i') → vok v → (nI (i' + 1)).toNatClampNeg = i' + 1 ∧ nI (i' + 1) ≠ 0 ∧ (nI (i' + 1)).toInt ≤ 4 := by
        rintro v rfl hv
        have hi : i' < 4 := vok_num hv
        refine ⟨nI_clamp (by omega), nI_ne0 (by omega) (by omega), ?_⟩
        rw [nI_toInt (by omega)]
        omega
      refine SS_put (v := (.ref 8, i')) (μ' := wI μ k i f (nI (i' + 1))) (ty := .object "ColdShares$Row") hd ht hl (fun q hq hlt => ⟨((cls_ty _ _ hq f hlt).2.2 hf).1, ((cls_ty _ _ hq f hlt).2.2 hf).2.1⟩) rfl rfl (Or.inr trivial) (fun hv _ => ?_) (fun g hg => sv_same (wI_ne (fun q => hg q.2.2)) rfl) wI_oth (fun hv h4 => ?_) (N _ _ _ _ g1)
      · obtain ⟨g1, g2, g3⟩ := hs rfl hv
        rw [sv_f3 ht hf, wI_eq, if_neg g2, g1]
        rfl
      · by_cases e : 2 = k ∧ 0 = i ∧ 1 = f
        · rw [show (wI μ k i f (nI (i' + 1))).1 2 0 1 = nI (i' + 1) from if_pos e]
          exact (hs rfl hv).2.2
        · rw [wI_ne e]
          exact h4
    · exact h.elim
  · exact h.elim
end S6
