/-! mean, texts, what is told -/
section P33
variable {G : Ge} {μ : Mm} {K : Int32 → Mm → Prop}
def sL (f : Nat → Int32) : Nat → Int64
  | 0 => 0
  | n + 1 => sL f n + (f n).toInt64
theorem meanC {r n : Nat} {f : Nat → Int32} (hn : n ≤ 40) (h0 : 0 < n) (e : μ.1 3 r 1 = nI n) (hf : ∀ j, j < n → μ.1 18 r j = f j) (h : K 1 (wI μ 6 0 9 (Int64.toInt32 (sL f n / lN n)))) : ∀ (d j : Nat), n = j + d → SS G m_Cs_mean 48 [vr 6 0, un, vr 3 r, vl (sL f j), un, vi (nI j)] [] μ (RI K)
  | 0, j, q => by
    refine b_Cs_mean_48 _ _ _ ?_
    rw [e]
    refine iLeT (by omega) (by omega) ?_
    rw [nI_l (by omega)]
    refine ⟨fun z => ?_, ?_⟩
    · have := (lN_eq (a := n) (b := 0) (by omega) (by decide)).mp z
      omega
    · have : j = n := by omega
      subst this
      exact h
  | d + 1, j, q => by
    refine b_Cs_mean_48 _ _ _ ?_
    rw [e]
    refine iLeF (by omega) (by omega) ⟨in_nI (by omega) (by decide), ?_⟩
    rw [nI_tn (by omega), hf j (by omega), nI_1]
    exact meanC hn h0 e hf h d (j + 1) (by omega)
theorem meanM {a : Ab} {r n : Nat} (hM : RM a μ) (hr : r < 6) (hn : n ≤ 40) (h0 : 0 < n) (e : (aR a).1 r = n + 1) (h : CS G m_Mo_tells [vr 7 0, vi (Int64.toInt32 (sL ((aR a).2 r) n / lN n)), vi 1] μ (RI K)) : ∀ (d j : Nat), n = j + d → SS G m_Mo_mean 44 [vr 7 0, vi (nI r), vl (sL ((aR a).2 r) j), un, vi (nI j)] [] μ (RI K)
  | 0, j, q => by
    refine b_Mo_mean_44 _ _ _ ⟨in_nI hr (by decide), ?_⟩
    rw [nI_tn (by omega), (hM.2.1 r hr).1, e]
    refine iLeT (a := n) (by omega) (by omega) ⟨in_nI hr (by decide), ?_⟩
    rw [show (sz (n + 1)).toInt64 = lN n from nI_l (by omega)]
    refine ⟨fun z => ?_, ?_⟩
    · have := (lN_eq (a := n) (b := 0) (by omega) (by decide)).mp z
      omega
    · have : j = n := by omega
      subst this
      exact h
  | d + 1, j, q => by
    refine b_Mo_mean_44 _ _ _ ⟨in_nI hr (by decide), ?_⟩
    rw [nI_tn (by omega), (hM.2.1 r hr).1, e]
    refine iLeF (a := n) (by omega) (by omega) (rowAt_s hr (by omega) ?_)
    rw [(hM.2.1 r hr).2 j (by omega), nI_1]
    exact meanM hM hr hn h0 e h d (j + 1) (by omega)
theorem two_mean (x1 : Int32) : Two G m_Cs_mean m_Mo_mean [vr 6 0, vi x1] [vr 7 0, vi x1] := by
  intro μ L ⟨a, hA, hC, hM⟩ hL
  by_cases h1 : rg x1 6
  · obtain ⟨r, hr, rfl⟩ := h1
    have e1 := (hC.2.1 r hr).1
    have hz := hA.1 r hr
    cases hq : (aR a).1 r with
    | zero =>
      rw [hq] at e1
      refine c_Cs_mean _ (noRow_T hr (i0 ⟨in_nI hr (by decide), ?_⟩))
      rw [nI_tn (by omega)]
      refine misR_T e1 (i1 (both_meet (f := 1) (by decide) hA hC hM hL fun μ1 K1 hM1 h => ?_))
      refine c_Mo_mean _ (isRow_T hr (i1 ⟨in_nI hr (by decide), ?_⟩))
      rw [nI_tn (by omega), (hM1.2.1 r hr).1, hq]
      exact iF (by decide) h
    | succ n =>
      rw [hq] at e1 hz
      have e1 : μ.1 3 r 1 = nI n := e1
      by_cases h0 : n = 0
      · subst h0
        refine c_Cs_mean _ (noRow_T hr (i0 ⟨in_nI hr (by decide), ?_⟩))
        rw [nI_tn (by omega)]
        refine misR_F e1 (by omega) (i0 (iT e1 (both_meet (f := 4) (by decide) hA hC hM hL fun μ1 K1 hM1 h => ?_)))
        refine c_Mo_mean _ (isRow_T hr (i1 ⟨in_nI hr (by decide), ?_⟩))
        rw [nI_tn (by omega), (hM1.2.1 r hr).1, hq]
        exact iN0 (a := 0) (by omega) ⟨in_nI hr (by decide), iT rfl h⟩
      · refine c_Cs_mean _ (noRow_T hr (i0 ⟨in_nI hr (by decide), ?_⟩))
        rw [nI_tn (by omega)]
        refine misR_F e1 (by omega) (i0 (iF (by rw [e1]; exact nI_ne0 (by omega) (by omega)) ?_))
        refine meanC (f := (aR a).2 r) (by omega) (by omega) e1 (fun j hj => (hC.2.1 r hr).2 j (by omega)) ?_ n 0 (by omega)
        have F1 : Fa (L1 0) μ (wI μ 6 0 9 (Int64.toInt32 (sL ((aR a).2 r) n / lN n))) := Fa.rf.wI rfl
        have hM1 := hM.fa F1 (L1_M (by decide))
        have hC1 := hC.rest0 hA F1 (tellC (v := Int64.toInt32 (sL ((aR a).2 r) n / lN n)) hC.1)
        generalize wI μ 6 0 9 (Int64.toInt32 (sL ((aR a).2 r) n / lN n)) = μ1 at F1 hM1 hC1 ⊢
        refine c_Mo_mean _ (isRow_T hr (i1 ⟨in_nI hr (by decide), ?_⟩))
        rw [nI_tn (by omega), (hM1.2.1 r hr).1, hq]
        refine iN0 (a := n) (by omega) ⟨in_nI hr (by decide), iF (nI_ne0 (by omega) (by omega)) ?_⟩
        refine meanM hM1 hr (by omega) (by omega) hq ?_ n 0 (by omega)
        exact tells_s hM1.1 fun μ2 hT F2 => hL _ _ ⟨(tellI (Int64.toInt32 (sL ((aR a).2 r) n / lN n)) (aT a), a.2), hA, hC1.fa hA F2 (L1_C (by decide)), hM1.rest0 F2 hT⟩
  · exact c_Cs_mean _ (noRow_F h1 (i1 (c_Mo_mean _ (isRow_F h1 (i0 (hL _ _ ⟨a, hA, hC, hM⟩))))))
theorem text34 {r n : Nat} (hr : r < 4) : ∀ (d : Nat) {j : Nat} {μ : Mm}, 60 = j + d → K (nI n) (aI μ 31 0 (60 * r + j) d (fun _ => 32)) → SS G m_Mo_text 34 [vr 7 0, vi (nI r), vi (nI n), vi (nI j)] [] μ (RI K)
  | 0, j, μ, e, h => by
    rw [aI_0] at h
    exact b_Mo_text_34 _ _ _ (iT (nI_le (a := 60) (by omega) (by omega)) h)
  | d + 1, j, μ, e, h => by
    refine b_Mo_text_34 _ _ _ (iF (nI_ge (b := 60) (by omega) (by omega)) ?_)
    rw [show (60 : Int32) * nI r = nI (60 * r) from nI_mul 60 r, nI_add, nI_1, nI_tn (by omega)]
    refine ⟨in_nI (by omega) (by decide), text34 hr d (by omega) ?_⟩
    rw [show 60 * r + (j + 1) = 60 * r + j + 1 by omega, aI_step _ _ _ _ _ (fun _ => 32) _ (by decide)]
    exact h
theorem two_text (x1 x2 : Int32) : Two G m_Cs_text m_Mo_text [vr 6 0, vi x1, vi x2] [vr 7 0, vi x1, vi x2] := by
  intro μ L ⟨a, hA, hC, hM⟩ hL
  by_cases h1 : rg x1 4
  · obtain ⟨r, hr, rfl⟩ := h1
    by_cases h2 : x2 ≤ 60
    · by_cases h3 : 0 ≤ x2
      · obtain ⟨n, hn, rfl⟩ := le_of_n (m := 60) (by decide) h2 h3
        refine c_Cs_text _ _ (noText_T hr (i0 (iT h2 (iT h3 ⟨in_nI hr (by decide), ?_⟩))))
        rw [nI_tn (by omega)]
        refine begT hn ?_
        refine c_Mo_text _ _ (isText_T hr (i1 (iT h2 (iT h3 ⟨in_nI hr (by decide), ?_⟩))))
        rw [nI_tn (by omega)]
        refine text34 hr (j := 0) 60 rfl (hL _ _ ?_)
        have F1 : Fa (L1 2) μ (aI (wI μ 8 r 1 (nI n)) 19 r 0 n (fun _ => 32)) := (Fa.rf.wI rfl).aI (fun _ => rfl)
        have hM1 := hM.fa F1 (L1_M (by decide))
        generalize hμ : aI (wI μ 8 r 1 (nI n)) 19 r 0 n (fun _ => 32) = μ1 at F1 hM1 ⊢
        have F2 : Fa (L1 8) μ1 (aI (wI μ1 30 0 r (nI n)) 31 0 (60 * r + 0) 60 (fun _ => 32)) := (Fa.rf.wI rfl).aI (fun _ => rfl)
        have hC1 : RC (aT a, aR a, (uf (aX a).1 r (n + 1), uf (aX a).2 r (fun _ => 32)), a.2.2.2) μ1 := by
          refine hC.rest2 hA F1 (Cx_up hC.2.2.1 ?_ (fun j hj => ?_) (fun i hi => ?_) (fun i hi => ?_))
          · rw [← hμ, aI_k (by decide), wI_s]
            rfl
          · rw [← hμ, aI_in (by omega) (by omega)]
          · rw [← hμ, aI_k (by decide), wI_i _ _ _ hi]
          · rw [← hμ, aI_i hi, wI_k _ _ (by decide)]
        have hA1 : AI (aT a, aR a, (uf (aX a).1 r (n + 1), uf (aX a).2 r (fun _ => 32)), a.2.2.2) := ⟨hA.1, RI2_up hA.2.1 (by omega), hA.2.2⟩
        refine ⟨_, hA1, hC1.fa hA1 F2 (L1_C (by decide)), hM1.rest2 F2 (Mx_up hM1.2.2.1 hA.2.1 ?_ (fun j hj => ?_) (fun i hi => ?_) (fun x hx => ?_))⟩
        · rw [aI_k (by decide), wI_s]
          rfl
        · rw [aI_in (by omega) (by omega)]
        · rw [aI_k (by decide), wI_n _ _ _ _ hi]
        · rw [aI_out (by omega), wI_k _ _ (by decide)]
      · refine c_Cs_text _ _ (noText_T hr (i0 (iT h2 (iF h3 ?_))))
        refine both_meet (f := 5) (by decide) hA hC hM hL fun μ1 K1 hM1 h => ?_
        exact c_Mo_text _ _ (isText_T hr (i1 (iT h2 (iF h3 h))))
    · exact c_Cs_text _ _ (noText_T hr (i0 (iF h2 (c_Mo_text _ _ (isText_T hr (i1 (iF h2 (hL _ _ ⟨a, hA, hC, hM⟩))))))))
  · exact c_Cs_text _ _ (noText_F h1 (i1 (c_Mo_text _ _ (isText_F h1 (i0 (hL _ _ ⟨a, hA, hC, hM⟩))))))
theorem byte2 (x : Int32) : Int8.toInt32 (Int32.toInt8 (Int8.toInt32 (Int32.toInt8 x))) = Int8.toInt32 (Int32.toInt8 x) := by rw [Int8.toInt8_toInt32]
theorem two_put (x1 x2 x3 : Int32) : Two G m_Cs_put m_Mo_put [vr 6 0, vi x1, vi x2, vi x3] [vr 7 0, vi x1, vi x2, vi x3] := by
  intro μ L ⟨a, hA, hC, hM⟩ hL
  by_cases h1 : rg x1 4
  · obtain ⟨r, hr, rfl⟩ := h1
    have e1 := (hC.2.2.1 r hr).1
    have hz := hA.2.1 r hr
    cases hq : (aX a).1 r with
    | zero =>
      rw [hq] at e1
      refine c_Cs_put _ _ _ (noText_T hr (i0 ⟨in_nI hr (by decide), ?_⟩))
      rw [nI_tn (by omega)]
      refine misT_T e1 (i1 (both_meet (f := 1) (by decide) hA hC hM hL fun μ1 K1 hM1 h => ?_))
      refine c_Mo_put _ _ _ (isText_T hr (i1 ⟨in_nI hr (by decide), ?_⟩))
      rw [nI_tn (by omega), (hM1.2.2.1 r hr).1, hq]
      exact iF (by decide) h
    | succ n =>
      rw [hq] at e1 hz
      have e1 : μ.1 8 r 1 = nI n := e1
      by_cases h2 : rg x2 n
      · obtain ⟨j, hj, rfl⟩ := h2
        refine c_Cs_put _ _ _ (noText_T hr (i0 ⟨in_nI hr (by decide), ?_⟩))
        rw [nI_tn (by omega), nI_tn (by omega)]
        refine misT_F e1 (by omega) (i0 ⟨in_nI hr (by decide), hasT_T (m := 1) e1 (by omega) (by decide) (by omega) (i1 ⟨in_nI hr (by decide), in_nI (by omega) (by decide), in_nI hr (by decide), in_nI (by omega) (by decide), ?_⟩)⟩)
        rw [(hC.2.2.1 r hr).2 j (by rw [hq]; omega)]
        generalize hv : Int8.toInt32 (Int32.toInt8 x3) = v
        have F1 : Fa (L1 2) μ (wI μ 19 r j v) := Fa.rf.wI rfl
        have hM1 := hM.fa F1 (L1_M (by decide))
        have hA1 : AI (aT a, aR a, (uf (aX a).1 r (n + 1), uf (aX a).2 r (uf ((aX a).2 r) j v)), a.2.2.2) := ⟨hA.1, RI2_up hA.2.1 (by omega), hA.2.2⟩
        have hC1 : RC (aT a, aR a, (uf (aX a).1 r (n + 1), uf (aX a).2 r (uf ((aX a).2 r) j v)), a.2.2.2) (wI μ 19 r j v) := by
          refine hC.rest2 hA F1 (Cx_up hC.2.2.1 ?_ (fun i hi => ?_) (fun i hi => ?_) (fun i hi => ?_))
          · rw [wI_k _ _ (by decide), e1]
            rfl
          · by_cases e : i = j
            · subst e
              rw [wI_s, uf_s]
            · rw [wI_n _ _ _ _ e, uf_n e]
              exact (hC.2.2.1 r hr).2 i (by rw [hq]; exact hi)
          · rw [wI_k _ _ (by decide)]
          · rw [wI_i _ _ _ hi]
        generalize wI μ 19 r j v = μ1 at F1 hM1 hC1 ⊢
        refine c_Mo_put _ _ _ (isText_T hr (i1 ⟨in_nI hr (by decide), ?_⟩))
        rw [nI_tn (by omega), (hM1.2.2.1 r hr).1, hq]
        refine iN0 (a := n) (by omega) ⟨in_nI hr (by decide), in_T (by omega) hj (i1 ?_)⟩
        rw [show (60 : Int32) * nI r = nI (60 * r) from nI_mul 60 r, nI_add, nI_tn (by omega), byte2, hv, (hM1.2.2.1 r hr).2 j (by rw [hq]; omega)]
        refine ⟨in_nI (by omega) (by decide), in_nI (by omega) (by decide), hL _ _ ?_⟩
        have F3 : Fa (L1 8) μ1 (wI μ1 31 0 (60 * r + j) v) := Fa.rf.wI rfl
        refine ⟨_, hA1, hC1.fa hA1 F3 (L1_C (by decide)), hM1.rest2 F3 (Mx_up hM1.2.2.1 hA.2.1 ?_ (fun i hi => ?_) (fun i hi => ?_) (fun i hi => ?_))⟩
        · rw [wI_k _ _ (by decide), (hM1.2.2.1 r hr).1]
          exact congrArg sz hq
        · by_cases e : i = j
          · subst e
            rw [wI_s, uf_s]
          · rw [wI_n _ _ _ _ (by omega), uf_n e]
            exact (hM1.2.2.1 r hr).2 i (by rw [hq]; exact hi)
        · rw [wI_k _ _ (by decide)]
        · rw [wI_n _ _ _ _ (by omega)]
      · refine c_Cs_put _ _ _ (noText_T hr (i0 ⟨in_nI hr (by decide), ?_⟩))
        rw [nI_tn (by omega)]
        refine misT_F e1 (by omega) (i0 ⟨in_nI hr (by decide), hasT_F (m := 1) e1 (by omega) (by decide) (rg_has h2) (i0 (both_meet (f := 2) (by decide) hA hC hM hL fun μ1 K1 hM1 h => ?_))⟩)
        refine c_Mo_put _ _ _ (isText_T hr (i1 ⟨in_nI hr (by decide), ?_⟩))
        rw [nI_tn (by omega), (hM1.2.2.1 r hr).1, hq]
        exact iN0 (a := n) (by omega) ⟨in_nI hr (by decide), in_F (by omega) h2 (i0 h)⟩
  · exact c_Cs_put _ _ _ (noText_F h1 (i1 (c_Mo_put _ _ _ (isText_F h1 (i0 (hL _ _ ⟨a, hA, hC, hM⟩))))))
theorem two_asked : Two G m_Cs_asked m_Mo_asked [vr 6 0] [vr 7 0] := by
  intro μ L ⟨a, hA, hC, hM⟩ hL
  refine c_Cs_asked (c_Mo_asked ?_)
  rw [hC.1.2.2.1, hM.1.2.2.1]
  exact hL _ _ ⟨a, hA, hC, hM⟩
theorem two_finding : Two G m_Cs_finding m_Mo_finding [vr 6 0] [vr 7 0] := by
  intro μ L ⟨a, hA, hC, hM⟩ hL
  refine c_Cs_finding (c_Mo_finding ?_)
  rw [hC.1.2.1, hM.1.2.1]
  exact hL _ _ ⟨a, hA, hC, hM⟩
theorem two_upper : Two8 G m_Cs_upper m_Mo_upper [vr 6 0] [vr 7 0] := by
  intro μ L ⟨a, hA, hC, hM⟩ hL
  refine c_Cs_upper (c_Mo_upper ?_)
  rw [hC.1.2.2.2.1, hM.1.2.2.2.1]
  exact hL _ _ ⟨a, hA, hC, hM⟩
theorem two_lower : Two8 G m_Cs_lower m_Mo_lower [vr 6 0] [vr 7 0] := by
  intro μ L ⟨a, hA, hC, hM⟩ hL
  refine c_Cs_lower (c_Mo_lower ?_)
  rw [hC.1.2.2.2.2, hM.1.2.2.2.2]
  exact hL _ _ ⟨a, hA, hC, hM⟩
theorem two_findings (x1 : Int32) : Two G m_Cs_findings m_Mo_findings [vr 6 0, vi x1] [vr 7 0, vi x1] := by
  intro μ L ⟨a, hA, hC, hM⟩ hL
  have ok : Ok G μ := ⟨a, hA, hC, hM⟩
  refine c_Cs_findings _ (iB (fun h1 => ?_) fun h1 => iB (fun h2 => ?_) fun h2 => ?_)
  · exact c_Mo_findings _ (c_Mo_in _ _ _ (iT h1 ⟨z00, i0 (hL _ _ ok)⟩))
  · obtain ⟨f, hf, rfl⟩ := le_of_n (m := 5) (by decide) h2 (by
      rw [Int32.lt_iff_toInt_lt] at h1
      rw [Int32.le_iff_toInt_le]
      have e1 : (1 : Int32).toInt = 1 := rfl
      have e0 : (0 : Int32).toInt = 0 := rfl
      omega)
    refine ⟨in_nI (by omega) (by decide), c_Mo_findings _ (c_Mo_in _ _ _ (iF h1 (iF (fun q => ?_) ⟨z01, i1 ⟨in_nI (by omega) (by decide), ?_⟩⟩)))⟩
    · rw [Int32.lt_iff_toInt_lt] at q
      rw [Int32.le_iff_toInt_le] at h2
      omega
    · rw [nI_tn (by omega), hC.1.1 f (by omega), hM.1.1 f (by omega)]
      exact hL _ _ ok
  · refine c_Mo_findings _ (c_Mo_in _ _ _ (iF h1 (iT ?_ ⟨z00, i0 (hL _ _ ok)⟩)))
    rw [Int32.lt_iff_toInt_lt]
    rw [Int32.le_iff_toInt_le] at h2
    omega
end P33
