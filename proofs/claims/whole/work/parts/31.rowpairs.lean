/-! the calls of rows -/
section P31
variable {G : Ge} {μ : Mm} {K : Int32 → Mm → Prop}
theorem rowAt_s {r j : Nat} (hr : r < 6) (hj : j < 40) (h : K (μ.1 28 0 (40 * r + j)) μ) : CS G m_Mo_rowAt [vr 7 0, vi (nI r), vi (nI j)] μ (RI K) := by
  have e : (40 : Int32) * nI r + nI j = nI (40 * r + j) := by rw [show (40 : Int32) * nI r = nI (40 * r) from nI_mul 40 r, nI_add]
  refine c_Mo_rowAt _ _ ?_
  rw [e, nI_tn (by omega)]
  exact ⟨in_nI (by omega) (by decide), h⟩
theorem row34 {r n : Nat} (hr : r < 6) : ∀ (d : Nat) {j : Nat} {μ : Mm}, 40 = j + d → K (nI n) (aI μ 28 0 (40 * r + j) d (fun _ => 0)) → SS G m_Mo_row 34 [vr 7 0, vi (nI r), vi (nI n), vi (nI j)] [] μ (RI K)
  | 0, j, μ, e, h => by
    rw [aI_0] at h
    exact b_Mo_row_34 _ _ _ (iT (nI_le (a := 40) (by omega) (by omega)) h)
  | d + 1, j, μ, e, h => by
    refine b_Mo_row_34 _ _ _ (iF (nI_ge (b := 40) (by omega) (by omega)) ?_)
    rw [show (40 : Int32) * nI r = nI (40 * r) from nI_mul 40 r, nI_add, nI_1, nI_tn (by omega)]
    refine ⟨in_nI (by omega) (by decide), row34 hr d (by omega) ?_⟩
    rw [show 40 * r + (j + 1) = 40 * r + j + 1 by omega, aI_step _ _ _ _ _ (fun _ => 0) 0 rfl]
    exact h
theorem le_of_n {x : Int32} {m : Nat} (hm : m < 2147483648) (h1 : x ≤ nI m) (h2 : 0 ≤ x) : ∃ n, n ≤ m ∧ x = nI n := by
  refine nI_of2 (M := nI m) (nI_toInt hm) (fun q => ?_) h1
  rw [Int32.lt_iff_toInt_lt] at q
  rw [Int32.le_iff_toInt_le] at h2
  omega
theorem two_row (x1 x2 : Int32) : Two G m_Cs_row m_Mo_row [vr 6 0, vi x1, vi x2] [vr 7 0, vi x1, vi x2] := by
  intro μ L ⟨a, hA, hC, hM⟩ hL
  by_cases h1 : rg x1 6
  · obtain ⟨r, hr, rfl⟩ := h1
    by_cases h2 : x2 ≤ 40
    · by_cases h3 : 0 ≤ x2
      · obtain ⟨n, hn, rfl⟩ := le_of_n (m := 40) (by decide) h2 h3
        refine c_Cs_row _ _ (noRow_T hr (i0 (iT h2 (iT h3 ⟨in_nI hr (by decide), ?_⟩))))
        rw [nI_tn (by omega)]
        refine begR hn ?_
        refine c_Mo_row _ _ (isRow_T hr (i1 (iT h2 (iT h3 ⟨in_nI hr (by decide), ?_⟩))))
        rw [nI_tn (by omega)]
        refine row34 hr (j := 0) 40 rfl (hL _ _ ?_)
        have F1 : Fa (L1 1) μ (aI (wI μ 3 r 1 (nI n)) 18 r 0 n (fun _ => 0)) := (Fa.rf.wI rfl).aI (fun _ => rfl)
        have hM1 := hM.fa F1 (L1_M (by decide))
        generalize hμ : aI (wI μ 3 r 1 (nI n)) 18 r 0 n (fun _ => 0) = μ1 at F1 hM1 ⊢
        have F2 : Fa (L1 7) μ1 (aI (wI μ1 27 0 r (nI n)) 28 0 (40 * r + 0) 40 (fun _ => 0)) := (Fa.rf.wI rfl).aI (fun _ => rfl)
        have hC1 : RC (aT a, (uf (aR a).1 r (n + 1), uf (aR a).2 r (fun _ => 0)), a.2.2) μ1 := by
          refine hC.rest1 hA F1 (Cr_up hC.2.1 ?_ (fun j hj => ?_) (fun i hi => ?_) (fun i hi => ?_))
          · rw [← hμ, aI_k (by decide), wI_s]
            rfl
          · rw [← hμ, aI_in (by omega) (by omega)]
          · rw [← hμ, aI_k (by decide), wI_i _ _ _ hi]
          · rw [← hμ, aI_i hi, wI_k _ _ (by decide)]
        have hA1 : AI (aT a, (uf (aR a).1 r (n + 1), uf (aR a).2 r (fun _ => 0)), a.2.2) := ⟨RI2_up hA.1 (by omega), hA.2⟩
        refine ⟨(aT a, (uf (aR a).1 r (n + 1), uf (aR a).2 r (fun _ => 0)), a.2.2), hA1, hC1.fa hA1 F2 (L1_C (by decide)), hM1.rest1 F2 (Mr_up hM1.2.1 hA.1 ?_ (fun j hj => ?_) (fun i hi => ?_) (fun x hx => ?_))⟩
        · rw [aI_k (by decide), wI_s]
          rfl
        · rw [aI_in (by omega) (by omega)]
        · rw [aI_k (by decide), wI_n _ _ _ _ hi]
        · rw [aI_out (by omega), wI_k _ _ (by decide)]
      · refine c_Cs_row _ _ (noRow_T hr (i0 (iT h2 (iF h3 ?_))))
        refine both_meet (f := 5) (by decide) hA hC hM hL fun μ1 K1 hM1 h => ?_
        exact c_Mo_row _ _ (isRow_T hr (i1 (iT h2 (iF h3 h))))
    · exact c_Cs_row _ _ (noRow_T hr (i0 (iF h2 (c_Mo_row _ _ (isRow_T hr (i1 (iF h2 (hL _ _ ⟨a, hA, hC, hM⟩))))))))
  · exact c_Cs_row _ _ (noRow_F h1 (i1 (c_Mo_row _ _ (isRow_F h1 (i0 (hL _ _ ⟨a, hA, hC, hM⟩))))))
/-- a place of a row, or a finding: both -/
theorem rg_has {x : Int32} {n : Nat} (h : ¬ rg x n) : ¬ ∃ j, j + 1 ≤ n ∧ x = nI j := fun ⟨j, hj, e⟩ => h ⟨j, hj, e⟩
theorem at_meet {a : Ab} {x1 x2 : Int32} {r : Nat} (hA : AI a) (hM : RM a μ) (hr : r < 6) (e1 : x1 = nI r) (hz : (aR a).1 r = 0) (h : CS G m_Mo_meets [vr 7 0, vi 1] μ (RI K)) : CS G m_Mo_at [vr 7 0, vi x1, vi x2] μ (RI K) := by
  subst e1
  refine c_Mo_at _ _ (isRow_T hr (i1 ⟨in_nI hr (by decide), ?_⟩))
  rw [nI_tn (by omega), (hM.2.1 r hr).1, hz]
  exact iF (by decide) h
theorem two_at (x1 x2 : Int32) : Two G m_Cs_at m_Mo_at [vr 6 0, vi x1, vi x2] [vr 7 0, vi x1, vi x2] := by
  intro μ L ⟨a, hA, hC, hM⟩ hL
  by_cases h1 : rg x1 6
  · obtain ⟨r, hr, rfl⟩ := h1
    have e1 := (hC.2.1 r hr).1
    have hz := hA.1 r hr
    cases hq : (aR a).1 r with
    | zero =>
      rw [hq] at e1
      refine c_Cs_at _ _ (noRow_T hr (i0 ⟨in_nI hr (by decide), ?_⟩))
      rw [nI_tn (by omega)]
      refine misR_T e1 (i1 (both_meet (f := 1) (by decide) hA hC hM hL fun μ1 K1 hM1 h => ?_))
      refine c_Mo_at _ _ (isRow_T hr (i1 ⟨in_nI hr (by decide), ?_⟩))
      rw [nI_tn (by omega), (hM1.2.1 r hr).1, hq]
      exact iF (by decide) h
    | succ n =>
      rw [hq] at e1 hz
      have e1 : μ.1 3 r 1 = nI n := e1
      by_cases h2 : rg x2 n
      · obtain ⟨j, hj, rfl⟩ := h2
        refine c_Cs_at _ _ (noRow_T hr (i0 ⟨in_nI hr (by decide), ?_⟩))
        rw [nI_tn (by omega), nI_tn (by omega)]
        refine misR_F e1 (by omega) (i0 ⟨in_nI hr (by decide), hasR_T (m := 1) e1 (by omega) (by decide) (by omega) (i1 ⟨in_nI hr (by decide), in_nI (by omega) (by decide), ?_⟩)⟩)
        have F1 : Fa (L1 0) μ (wI μ 6 0 9 (μ.1 18 r j)) := Fa.rf.wI rfl
        have hM1 := hM.fa F1 (L1_M (by decide))
        have hC1 := hC.rest0 hA F1 (tellC (v := μ.1 18 r j) hC.1)
        rw [(hC.2.1 r hr).2 j (by rw [hq]; omega)] at F1 hM1 hC1 ⊢
        generalize wI μ 6 0 9 ((aR a).2 r j) = μ1 at F1 hM1 hC1 ⊢
        refine c_Mo_at _ _ (isRow_T hr (i1 ⟨in_nI hr (by decide), ?_⟩))
        rw [nI_tn (by omega), (hM1.2.1 r hr).1, hq]
        refine iN0 (a := n) (by omega) ⟨in_nI hr (by decide), in_T (by omega) hj (i1 (rowAt_s hr (by omega) ?_))⟩
        rw [(hM1.2.1 r hr).2 j (by rw [hq]; omega)]
        refine tells_s hM1.1 fun μ2 hT F2 => hL _ _ ⟨(tellI ((aR a).2 r j) (aT a), a.2), hA, hC1.fa hA F2 (L1_C (by decide)), hM1.rest0 F2 hT⟩
      · refine c_Cs_at _ _ (noRow_T hr (i0 ⟨in_nI hr (by decide), ?_⟩))
        rw [nI_tn (by omega)]
        refine misR_F e1 (by omega) (i0 ⟨in_nI hr (by decide), hasR_F (m := 1) e1 (by omega) (by decide) (rg_has h2) (i0 (both_meet (f := 2) (by decide) hA hC hM hL fun μ1 K1 hM1 h => ?_))⟩)
        refine c_Mo_at _ _ (isRow_T hr (i1 ⟨in_nI hr (by decide), ?_⟩))
        rw [nI_tn (by omega), (hM1.2.1 r hr).1, hq]
        exact iN0 (a := n) (by omega) ⟨in_nI hr (by decide), in_F (by omega) h2 (i0 h)⟩
  · exact c_Cs_at _ _ (noRow_F h1 (i1 (c_Mo_at _ _ (isRow_F h1 (i0 (hL _ _ ⟨a, hA, hC, hM⟩))))))
theorem two_lay (x1 x2 x3 : Int32) : Two G m_Cs_lay m_Mo_lay [vr 6 0, vi x1, vi x2, vi x3] [vr 7 0, vi x1, vi x2, vi x3] := by
  intro μ L ⟨a, hA, hC, hM⟩ hL
  by_cases h1 : rg x1 6
  · obtain ⟨r, hr, rfl⟩ := h1
    have e1 := (hC.2.1 r hr).1
    have hz := hA.1 r hr
    cases hq : (aR a).1 r with
    | zero =>
      rw [hq] at e1
      refine c_Cs_lay _ _ _ (c_Cs_at _ _ (noRow_T hr (i0 ⟨in_nI hr (by decide), ?_⟩)))
      rw [nI_tn (by omega)]
      refine misR_T e1 (i1 (answer_s (f := 1) hC.1 (by decide) fun μ1 hT F => iF (by decide) ?_))
      have hM1 := hM.fa F (L1_M (by decide))
      refine c_Mo_lay _ _ _ (isRow_T hr (i1 ⟨in_nI hr (by decide), ?_⟩))
      rw [nI_tn (by omega), (hM1.2.1 r hr).1, hq]
      refine iF (by decide) (meets_s (f := 1) hM1.1 (by decide) fun μ2 hT2 F2 => hL _ _ ⟨(meet 1 (aT a), a.2), hA, (hC.rest0 hA F hT).fa hA F2 (L1_C (by decide)), hM1.rest0 F2 hT2⟩)
    | succ n =>
      rw [hq] at e1 hz
      have e1 : μ.1 3 r 1 = nI n := e1
      by_cases h2 : rg x2 n
      · obtain ⟨j, hj, rfl⟩ := h2
        refine c_Cs_lay _ _ _ (c_Cs_at _ _ (noRow_T hr (i0 ⟨in_nI hr (by decide), ?_⟩)))
        rw [nI_tn (by omega), nI_tn (by omega)]
        refine misR_F e1 (by omega) (i0 ⟨in_nI hr (by decide), hasR_T (m := 1) e1 (by omega) (by decide) (by omega) (i1 ⟨in_nI hr (by decide), in_nI (by omega) (by decide), iT rfl ⟨in_nI hr (by decide), in_nI (by omega) (by decide), ?_⟩⟩)⟩)
        have F1 : Fa (L1 0) μ (wI μ 6 0 9 (μ.1 18 r j)) := Fa.rf.wI rfl
        have hM1 := hM.fa F1 (L1_M (by decide))
        have hC1 := hC.rest0 hA F1 (tellC (v := μ.1 18 r j) hC.1)
        rw [(hC.2.1 r hr).2 j (by rw [hq]; omega)] at F1 hM1 hC1 ⊢
        generalize wI μ 6 0 9 ((aR a).2 r j) = μ1 at F1 hM1 hC1 ⊢
        have F2 : Fa (L1 1) μ1 (wI μ1 18 r j x3) := Fa.rf.wI rfl
        have hM2 := hM1.fa F2 (L1_M (by decide))
        have hA2 : AI (tellI ((aR a).2 r j) (aT a), (uf (aR a).1 r (n + 1), uf (aR a).2 r (uf ((aR a).2 r) j x3)), a.2.2) := ⟨RI2_up hA.1 (by omega), hA.2⟩
        have hC2 : RC (tellI ((aR a).2 r j) (aT a), (uf (aR a).1 r (n + 1), uf (aR a).2 r (uf ((aR a).2 r) j x3)), a.2.2) (wI μ1 18 r j x3) := by
          refine RC.rest1 (a := (tellI ((aR a).2 r j) (aT a), a.2)) hC1 hA F2 (Cr_up hC1.2.1 ?_ (fun i hi => ?_) (fun i hi => ?_) (fun i hi => ?_))
          · rw [wI_k _ _ (by decide), (hC1.2.1 r hr).1]
            exact congrArg sz hq
          · by_cases e : i = j
            · subst e
              rw [wI_s, uf_s]
            · rw [wI_n _ _ _ _ e, uf_n e]
              exact (hC1.2.1 r hr).2 i (by show i + 1 < (aR a).1 r; rw [hq]; exact hi)
          · rw [wI_k _ _ (by decide)]
          · rw [wI_i _ _ _ hi]
        generalize wI μ1 18 r j x3 = μ2 at F2 hM2 hC2 ⊢
        refine c_Mo_lay _ _ _ (isRow_T hr (i1 ⟨in_nI hr (by decide), ?_⟩))
        rw [nI_tn (by omega), (hM2.2.1 r hr).1, hq]
        refine iN0 (a := n) (by omega) ⟨in_nI hr (by decide), in_T (by omega) hj (i1 (rowAt_s hr (by omega) ?_))⟩
        rw [show (40 : Int32) * nI r = nI (40 * r) from nI_mul 40 r, nI_add, nI_tn (by omega)]
        refine ⟨in_nI (by omega) (by decide), ?_⟩
        rw [(hM2.2.1 r hr).2 j (by rw [hq]; omega)]
        have F3 : Fa (L1 7) μ2 (wI μ2 28 0 (40 * r + j) x3) := Fa.rf.wI rfl
        have hM3 : RM (aT a, (uf (aR a).1 r (n + 1), uf (aR a).2 r (uf ((aR a).2 r) j x3)), a.2.2) (wI μ2 28 0 (40 * r + j) x3) := by
          refine hM2.rest1 F3 (Mr_up hM2.2.1 hA.1 ?_ (fun i hi => ?_) (fun i hi => ?_) (fun i hi => ?_))
          · rw [wI_k _ _ (by decide), (hM2.2.1 r hr).1]
            exact congrArg sz hq
          · by_cases e : i = j
            · subst e
              rw [wI_s, uf_s]
            · rw [wI_n _ _ _ _ (by omega), uf_n e]
              exact (hM2.2.1 r hr).2 i (by rw [hq]; exact hi)
          · rw [wI_k _ _ (by decide)]
          · rw [wI_n _ _ _ _ (by omega)]
        have hC3 := hC2.fa hA2 F3 (L1_C (by decide))
        generalize wI μ2 28 0 (40 * r + j) x3 = μ3 at hM3 hC3 ⊢
        refine tells_s hM3.1 fun μ4 hT F4 => hL _ _ ⟨(tellI ((aR a).2 r j) (aT a), (uf (aR a).1 r (n + 1), uf (aR a).2 r (uf ((aR a).2 r) j x3)), a.2.2), hA2, hC3.fa hA2 F4 (L1_C (by decide)), hM3.rest0 F4 hT⟩
      · refine c_Cs_lay _ _ _ (c_Cs_at _ _ (noRow_T hr (i0 ⟨in_nI hr (by decide), ?_⟩)))
        rw [nI_tn (by omega)]
        refine misR_F e1 (by omega) (i0 ⟨in_nI hr (by decide), hasR_F (m := 1) e1 (by omega) (by decide) (rg_has h2) (i0 (answer_s (f := 2) hC.1 (by decide) fun μ1 hT F => iF (by decide) ?_))⟩)
        have hM1 := hM.fa F (L1_M (by decide))
        refine c_Mo_lay _ _ _ (isRow_T hr (i1 ⟨in_nI hr (by decide), ?_⟩))
        rw [nI_tn (by omega), (hM1.2.1 r hr).1, hq]
        exact iN0 (a := n) (by omega) ⟨in_nI hr (by decide), in_F (by omega) h2 (i0 (meets_s (f := 2) hM1.1 (by decide) fun μ2 hT2 F2 => hL _ _ ⟨(meet 2 (aT a), a.2), hA, (hC.rest0 hA F hT).fa hA F2 (L1_C (by decide)), hM1.rest0 F2 hT2⟩))⟩
  · refine c_Cs_lay _ _ _ (c_Cs_at _ _ (noRow_F h1 (i1 (iF (by decide) (c_Mo_lay _ _ _ (isRow_F h1 (i0 (hL _ _ ⟨a, hA, hC, hM⟩))))))))
theorem two_tear (x1 : Int32) : Two G m_Cs_tear m_Mo_tear [vr 6 0, vi x1] [vr 7 0, vi x1] := by
  intro μ L ⟨a, hA, hC, hM⟩ hL
  by_cases h1 : rg x1 6
  · obtain ⟨r, hr, rfl⟩ := h1
    have e1 := (hC.2.1 r hr).1
    have hz := hA.1 r hr
    cases hq : (aR a).1 r with
    | zero =>
      rw [hq] at e1
      refine c_Cs_tear _ (noRow_T hr (i0 ⟨in_nI hr (by decide), ?_⟩))
      rw [nI_tn (by omega)]
      refine misR_T e1 (i1 (both_meet (f := 1) (by decide) hA hC hM hL fun μ1 K1 hM1 h => ?_))
      refine c_Mo_tear _ (isRow_T hr (i1 ⟨in_nI hr (by decide), ?_⟩))
      rw [nI_tn (by omega), (hM1.2.1 r hr).1, hq]
      exact iF (by decide) h
    | succ n =>
      rw [hq] at e1 hz
      have e1 : μ.1 3 r 1 = nI n := e1
      refine c_Cs_tear _ (noRow_T hr (i0 ⟨in_nI hr (by decide), ?_⟩))
      rw [nI_tn (by omega)]
      refine misR_F e1 (by omega) (i0 ⟨in_nI hr (by decide), ?_⟩)
      have F1 : Fa (L1 1) μ (wI μ 3 r 1 (-1)) := Fa.rf.wI rfl
      have hM1 := hM.fa F1 (L1_M (by decide))
      have hA1 : AI (aT a, (uf (aR a).1 r 0, uf (aR a).2 r (fun _ => 0)), a.2.2) := ⟨RI2_up hA.1 (by omega), hA.2⟩
      have hC1 : RC (aT a, (uf (aR a).1 r 0, uf (aR a).2 r (fun _ => 0)), a.2.2) (wI μ 3 r 1 (-1)) := by
        refine hC.rest1 hA F1 (Cr_up hC.2.1 ?_ (fun i hi => absurd hi (by omega)) (fun i hi => ?_) (fun i hi => ?_))
        · rw [wI_s]
          rfl
        · rw [wI_i _ _ _ hi]
        · rw [wI_k _ _ (by decide)]
      generalize wI μ 3 r 1 (-1) = μ1 at F1 hM1 hC1 ⊢
      refine c_Mo_tear _ (isRow_T hr (i1 ⟨in_nI hr (by decide), ?_⟩))
      rw [nI_tn (by omega), (hM1.2.1 r hr).1, hq]
      refine iN0 (a := n) (by omega) ⟨in_nI hr (by decide), hL _ _ ?_⟩
      have F2 : Fa (L1 7) μ1 (wI μ1 27 0 r (-1)) := Fa.rf.wI rfl
      refine ⟨_, hA1, hC1.fa hA1 F2 (L1_C (by decide)), hM1.rest1 F2 (Mr_up hM1.2.1 hA.1 ?_ (fun i hi => absurd hi (by omega)) (fun i hi => ?_) (fun i hi => ?_))⟩
      · rw [wI_s]
        rfl
      · rw [wI_n _ _ _ _ hi]
      · rw [wI_k _ _ (by decide)]
  · exact c_Cs_tear _ (noRow_F h1 (i1 (c_Mo_tear _ (isRow_F h1 (i0 (hL _ _ ⟨a, hA, hC, hM⟩))))))
end P31
