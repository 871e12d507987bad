/-! copy, mean, texts, what is told -/
theorem lN_big {n : Nat} (h : n < 9223372036854775808) : (lN n).toInt = (n : Int) := lg_ofNat_toInt (by omega)
theorem lN_ltB {a b : Nat} (ha : a < 9223372036854775808) (hb : b < 9223372036854775808) : lN a < lN b ↔ a < b := by
  rw [Int64.lt_iff_toInt_lt, lN_big ha, lN_big hb]
  omega
theorem lN_leB {a b : Nat} (ha : a < 9223372036854775808) (hb : b < 9223372036854775808) : lN a ≤ lN b ↔ a ≤ b := by
  rw [Int64.le_iff_toInt_le, lN_big ha, lN_big hb]
  omega
section P32
variable {G : Ge} {μ : Mm} {K : Int32 → Mm → Prop}
theorem copy136 {t j m : Nat} (ht : t < 6) (hj : j + m ≤ 40) (g : Nat → Int32) : ∀ (d : Nat) {k : Nat} {μ : Mm}, m = k + d → (∀ x, k ≤ x → x < m → μ.1 29 0 x = g (40 * t + j + x)) → K 1 (aI μ 28 0 (40 * t + j + k) d g) → SS G m_Mo_copy 136 [vr 7 0, un, un, vi (nI t), vi (nI j), vi (nI m), vi (nI k)] [] μ (RI K)
  | 0, k, μ, e, hf, h => by
    rw [aI_0] at h
    exact b_Mo_copy_136 _ _ _ _ (iLeT (by omega) (by omega) h)
  | d + 1, k, μ, e, hf, h => by
    refine b_Mo_copy_136 _ _ _ _ (iLeF (by omega) (by omega) ⟨in_nI (by omega) (by decide), ?_⟩)
    rw [show (40 : Int32) * nI t = nI (40 * t) from nI_mul 40 t, nI_add, nI_add, nI_1, nI_tn (by omega), nI_tn (by omega)]
    refine ⟨in_nI (by omega) (by decide), copy136 ht hj g d (by omega) (fun x h1 h2 => ?_) ?_⟩
    · rw [wI_k _ _ (by decide)]
      exact hf x (by omega) h2
    · rw [show 40 * t + j + (k + 1) = 40 * t + j + k + 1 by omega, aI_step _ _ _ _ _ g _ (hf k (by omega) (by omega))]
      exact h
theorem copy104 {r i t j m : Nat} (hr : r < 6) (hi : i + m ≤ 40) (g : Nat → Int32) : ∀ (d : Nat) {k : Nat} {μ : Mm}, m = k + d → (∀ x, k ≤ x → x < m → μ.1 28 0 (40 * r + (i + x)) = g x) → SS G m_Mo_copy 136 [vr 7 0, un, un, vi (nI t), vi (nI j), vi (nI m), vi 0] [] (aI μ 29 0 k d g) (RI K) → SS G m_Mo_copy 104 [vr 7 0, vi (nI r), vi (nI i), vi (nI t), vi (nI j), vi (nI m), vi (nI k)] [] μ (RI K)
  | 0, k, μ, e, hf, h => by
    rw [aI_0] at h
    exact b_Mo_copy_104 _ _ _ _ _ _ (iLeT (by omega) (by omega) h)
  | d + 1, k, μ, e, hf, h => by
    refine b_Mo_copy_104 _ _ _ _ _ _ (iLeF (by omega) (by omega) ?_)
    rw [nI_add, nI_1, nI_tn (by omega)]
    refine rowAt_s hr (by omega) ⟨in_nI (by omega) (by decide), copy104 hr hi g d (by omega) (fun x h1 h2 => ?_) ?_⟩
    · rw [wI_k _ _ (by decide)]
      exact hf x (by omega) h2
    · rw [aI_step _ _ _ _ _ g _ (hf k (by omega) (by omega))]
      exact h
theorem cmpG {i m n : Nat} {P Q : Prop} (hi : i < 2147483648) (hm : m < 2147483648) (hn : n ≤ 40) (h1 : n < i + m → P) (h2 : i + m ≤ n → Q) : if 0 < lg_cmp ((nI i).toInt64 + (nI m).toInt64) (nI n).toInt64 then P else Q := by
  rw [nI_l hi, nI_l hm, nI_l (by omega), lN_add]
  refine iB (fun h => h1 ?_) (fun h => h2 ?_)
  · rw [lg_cmp_gt, lN_ltB (by omega) (by omega)] at h
    exact h
  · rw [lg_cmp_gt, lN_ltB (by omega) (by omega)] at h
    omega
theorem cmpL {i m n : Nat} {P Q : Prop} (hi : i < 2147483648) (hm : m < 2147483648) (hn : n ≤ 40) (h1 : n < i + m → Q) (h2 : i + m ≤ n → P) : if lg_cmp ((nI i).toInt64 + (nI m).toInt64) (nI n).toInt64 ≤ 0 then P else Q := by
  rw [nI_l hi, nI_l hm, nI_l (by omega), lN_add]
  refine iB (fun h => h2 ?_) (fun h => h1 ?_)
  · rw [lg_cmp_le, lN_leB (by omega) (by omega)] at h
    exact h
  · rw [lg_cmp_le, lN_leB (by omega) (by omega)] at h
    omega
/-- the reference's copy, where not so many are there -/
theorem copy_far {a : Ab} {x2 x4 : Int32} {r t m n1 n2 : Nat} (hM : RM a μ) (hA : AI a) (hr : r < 6) (ht : t < 6) (hm : m < 2147483648) (h1 : (aR a).1 r = n1 + 1) (h2 : (aR a).1 t = n2 + 1) (hc : ¬ ((∃ i, i + m ≤ n1 ∧ x2 = nI i) ∧ ∃ j, j + m ≤ n2 ∧ x4 = nI j)) (h : CS G m_Mo_meets [vr 7 0, vi 2] μ (RI K)) : CS G m_Mo_copy [vr 7 0, vi (nI r), vi x2, vi (nI t), vi x4, vi (nI m)] μ (RI K) := by
  have b1 := hA.1 r hr
  have b2 := hA.1 t ht
  rw [h1] at b1
  rw [h2] at b2
  have e1 : μ.1 27 0 r = nI n1 := by rw [(hM.2.1 r hr).1, h1]; rfl
  have e2 : μ.1 27 0 t = nI n2 := by rw [(hM.2.1 t ht).1, h2]; rfl
  refine c_Mo_copy _ _ _ _ _ (isRow_T hr (i1 (isRow_T ht (i1 (iN0 hm ⟨in_nI hr (by decide), ?_⟩)))))
  rw [nI_tn (by omega), nI_tn (by omega), e1, e2]
  refine iNl (by omega) ⟨in_nI ht (by decide), iN0 (by omega) (iB (fun _ => h) fun p2 => iB (fun _ => h) fun p4 => ⟨in_nI hr (by decide), ?_⟩)⟩
  obtain ⟨i, hi, rfl⟩ := nI_of p2
  obtain ⟨j, hj, rfl⟩ := nI_of p4
  refine cmpG hi hm (by omega) (fun _ => h) fun q1 => ⟨in_nI ht (by decide), cmpL hj hm (by omega) (fun _ => h) fun q2 => ?_⟩
  exact absurd ⟨⟨i, q1, rfl⟩, j, q2, rfl⟩ hc
theorem two_copy (x1 x2 x3 x4 x5 : Int32) : Two G m_Cs_copy m_Mo_copy [vr 6 0, vi x1, vi x2, vi x3, vi x4, vi x5] [vr 7 0, vi x1, vi x2, vi x3, vi x4, vi x5] := by
  intro μ L ⟨a, hA, hC, hM⟩ hL
  by_cases h1 : rg x1 6
  · obtain ⟨r, hr, rfl⟩ := h1
    by_cases h3 : rg x3 6
    · obtain ⟨t, ht, rfl⟩ := h3
      have b1 := hA.1 r hr
      have b2 := hA.1 t ht
      by_cases h5 : 0 ≤ x5
      · obtain ⟨m, hm, rfl⟩ : ∃ m : Nat, m < 2 ^ 31 ∧ x5 = nI m := nI_of (fun q => by rw [Int32.lt_iff_toInt_lt] at q; rw [Int32.le_iff_toInt_le] at h5; omega)
        have hm : m < 2147483648 := hm
        cases hq1 : (aR a).1 r with
        | zero =>
          refine c_Cs_copy _ _ _ _ _ (noRow_T hr (i0 (noRow_T ht (i0 (iT h5 ⟨in_nI hr (by decide), ?_⟩)))))
          rw [nI_tn (by omega)]
          refine misR_T (by rw [(hC.2.1 r hr).1, hq1]; rfl) (i1 (both_meet (f := 1) (by decide) hA hC hM hL fun μ1 K1 hM1 h => ?_))
          refine c_Mo_copy _ _ _ _ _ (isRow_T hr (i1 (isRow_T ht (i1 (iT h5 ⟨in_nI hr (by decide), ?_⟩)))))
          rw [nI_tn (by omega), (hM1.2.1 r hr).1, hq1]
          exact iT (by decide) h
        | succ n1 =>
          rw [hq1] at b1
          have e1 : μ.1 3 r 1 = nI n1 := by rw [(hC.2.1 r hr).1, hq1]; rfl
          cases hq2 : (aR a).1 t with
          | zero =>
            refine c_Cs_copy _ _ _ _ _ (noRow_T hr (i0 (noRow_T ht (i0 (iT h5 ⟨in_nI hr (by decide), ?_⟩)))))
            rw [nI_tn (by omega), nI_tn (by omega)]
            refine misR_F e1 (by omega) (i0 ⟨in_nI ht (by decide), misR_T (by rw [(hC.2.1 t ht).1, hq2]; rfl) (i1 (both_meet (f := 1) (by decide) hA hC hM hL fun μ1 K1 hM1 h => ?_))⟩)
            refine c_Mo_copy _ _ _ _ _ (isRow_T hr (i1 (isRow_T ht (i1 (iT h5 ⟨in_nI hr (by decide), ?_⟩)))))
            rw [nI_tn (by omega), nI_tn (by omega), (hM1.2.1 r hr).1, hq1, (hM1.2.1 t ht).1, hq2]
            exact iNl (a := n1) (by omega) ⟨in_nI ht (by decide), iF (by decide) h⟩
          | succ n2 =>
            rw [hq2] at b2
            have e2 : μ.1 3 t 1 = nI n2 := by rw [(hC.2.1 t ht).1, hq2]; rfl
            by_cases c1 : ∃ i, i + m ≤ n1 ∧ x2 = nI i
            · by_cases c2 : ∃ j, j + m ≤ n2 ∧ x4 = nI j
              · obtain ⟨i, hi, rfl⟩ := c1
                obtain ⟨j, hj, rfl⟩ := c2
                refine c_Cs_copy _ _ _ _ _ (noRow_T hr (i0 (noRow_T ht (i0 (iT h5 ⟨in_nI hr (by decide), ?_⟩)))))
                rw [nI_tn (n := r) (by omega), nI_tn (n := t) (by omega), nI_tn (n := i) (by omega), nI_tn (n := j) (by omega), nI_tn (n := m) (by omega)]
                refine misR_F e1 (by omega) (i0 ⟨in_nI ht (by decide), misR_F e2 (by omega) (i0 ⟨in_nI hr (by decide), hasR_T e1 (by omega) hm hi (i1 ⟨in_nI ht (by decide), hasR_T e2 (by omega) hm hj (i1 ⟨in_nI hr (by decide), in_nI ht (by decide), ⟨nI_pos (by omega), nI_pos (by omega), nI_pos hm, by omega, by omega⟩, ?_⟩)⟩)⟩)⟩)
                have F1 : Fa (L1 1) μ (cI μ 18 r i 18 t j m) := Fa.rf.cI (fun _ => rfl)
                have hM1 := hM.fa F1 (L1_M (by decide))
                have hA1 : AI (aT a, (uf (aR a).1 t (n2 + 1), uf (aR a).2 t (fun x => if j ≤ x ∧ x < j + m then (aR a).2 r (i + (x - j)) else (aR a).2 t x)), a.2.2) := ⟨RI2_up hA.1 (by omega), hA.2⟩
                have hC1 : RC (aT a, (uf (aR a).1 t (n2 + 1), uf (aR a).2 t (fun x => if j ≤ x ∧ x < j + m then (aR a).2 r (i + (x - j)) else (aR a).2 t x)), a.2.2) (cI μ 18 r i 18 t j m) := by
                  refine hC.rest1 hA F1 (Cr_up hC.2.1 ?_ (fun x hx => ?_) (fun y hy => ?_) (fun y hy => ?_))
                  · rw [cI_k _ (by decide), e2]
                    rfl
                  · by_cases hin : j ≤ x ∧ x < j + m
                    · rw [cI_in hin.1 hin.2, if_pos hin]
                      exact (hC.2.1 r hr).2 _ (by omega)
                    · rw [cI_out hin, if_neg hin]
                      exact (hC.2.1 t ht).2 _ (by omega)
                  · rw [cI_k _ (by decide)]
                  · rw [cI_i hy]
                generalize cI μ 18 r i 18 t j m = μ1 at F1 hM1 hC1 ⊢
                have e1 : μ1.1 27 0 r = nI n1 := by rw [(hM1.2.1 r hr).1, hq1]; rfl
                have e2 : μ1.1 27 0 t = nI n2 := by rw [(hM1.2.1 t ht).1, hq2]; rfl
                refine c_Mo_copy _ _ _ _ _ (isRow_T hr (i1 (isRow_T ht (i1 (iN0 hm ⟨in_nI hr (by decide), ?_⟩)))))
                rw [nI_tn (by omega), nI_tn (by omega), e1, e2]
                refine iNl (by omega) ⟨in_nI ht (by decide), iN0 (by omega) (iNl (by omega) (iNl (by omega) ⟨in_nI hr (by decide), ?_⟩))⟩
                refine cmpG (by omega) hm (by omega) (fun q => absurd q (by omega)) fun q1 => ⟨in_nI ht (by decide), cmpL (by omega) hm (by omega) (fun q => absurd q (by omega)) fun q2 => ?_⟩
                refine copy104 hr (by omega) (fun x => (aR a).2 r (i + x)) (k := 0) m (by omega) (fun x _ hx => (hM1.2.1 r hr).2 _ (by rw [hq1]; omega)) ?_
                have F2 : Fa (L1 11) μ1 (aI μ1 29 0 0 m (fun x => (aR a).2 r (i + x))) := Fa.rf.aI (fun _ => rfl)
                have hM2 := hM1.fa F2 L1_W
                have hC2 := hC1.fa hA1 F2 (L1_C (by decide))
                have h29 : ∀ x, x < m → (aI μ1 29 0 0 m (fun x => (aR a).2 r (i + x))).1 29 0 x = (aR a).2 r (i + x) := fun x hx => aI_in (by omega) (by omega)
                generalize aI μ1 29 0 0 m (fun x => (aR a).2 r (i + x)) = μ2 at F2 hM2 hC2 h29 ⊢
                refine copy136 ht (by omega) (fun s => (aR a).2 r (i + (s - (40 * t + j)))) (k := 0) m (by omega) (fun x _ hx => ?_) (hL _ _ ?_)
                · rw [h29 x hx, show 40 * t + j + x - (40 * t + j) = x by omega]
                have F3 : Fa (L1 7) μ2 (aI μ2 28 0 (40 * t + j + 0) m (fun s => (aR a).2 r (i + (s - (40 * t + j))))) := Fa.rf.aI (fun _ => rfl)
                refine ⟨_, hA1, hC2.fa hA1 F3 (L1_C (by decide)), hM2.rest1 F3 (Mr_up hM2.2.1 hA.1 ?_ (fun x hx => ?_) (fun y hy => ?_) (fun y hy => ?_))⟩
                · rw [aI_k (by decide), (hM2.2.1 t ht).1, hq2]
                · by_cases hin : j ≤ x ∧ x < j + m
                  · rw [aI_in (by omega) (by omega), if_pos hin, show 40 * t + x - (40 * t + j) = x - j by omega]
                  · rw [aI_out (by omega), if_neg hin]
                    exact (hM2.2.1 t ht).2 _ (by rw [hq2]; exact hx)
                · rw [aI_k (by decide)]
                · rw [aI_out (by omega)]
              · obtain ⟨i, hi, rfl⟩ := c1
                refine c_Cs_copy _ _ _ _ _ (noRow_T hr (i0 (noRow_T ht (i0 (iT h5 ⟨in_nI hr (by decide), ?_⟩)))))
                rw [nI_tn (n := r) (by omega), nI_tn (n := t) (by omega)]
                refine misR_F e1 (by omega) (i0 ⟨in_nI ht (by decide), misR_F e2 (by omega) (i0 ⟨in_nI hr (by decide), hasR_T e1 (by omega) hm hi (i1 ⟨in_nI ht (by decide), hasR_F e2 (by omega) hm c2 (i0 (both_meet (f := 2) (by decide) hA hC hM hL fun μ1 K1 hM1 h => ?_))⟩)⟩)⟩)
                exact copy_far hM1 hA hr ht hm hq1 hq2 (fun q => c2 q.2) h
            · refine c_Cs_copy _ _ _ _ _ (noRow_T hr (i0 (noRow_T ht (i0 (iT h5 ⟨in_nI hr (by decide), ?_⟩)))))
              rw [nI_tn (n := r) (by omega), nI_tn (n := t) (by omega)]
              refine misR_F e1 (by omega) (i0 ⟨in_nI ht (by decide), misR_F e2 (by omega) (i0 ⟨in_nI hr (by decide), hasR_F e1 (by omega) hm c1 (i0 (both_meet (f := 2) (by decide) hA hC hM hL fun μ1 K1 hM1 h => ?_))⟩)⟩)
              exact copy_far hM1 hA hr ht hm hq1 hq2 (fun q => c1 q.1) h
      · refine c_Cs_copy _ _ _ _ _ (noRow_T hr (i0 (noRow_T ht (i0 (iF h5 ?_)))))
        refine both_meet (f := 5) (by decide) hA hC hM hL fun μ1 K1 hM1 h => ?_
        exact c_Mo_copy _ _ _ _ _ (isRow_T hr (i1 (isRow_T ht (i1 (iF h5 h)))))
    · exact c_Cs_copy _ _ _ _ _ (noRow_T hr (i0 (noRow_F h3 (i1 (c_Mo_copy _ _ _ _ _ (isRow_T hr (i1 (isRow_F h3 (i0 (hL _ _ ⟨a, hA, hC, hM⟩))))))))))
  · exact c_Cs_copy _ _ _ _ _ (noRow_F h1 (i1 (c_Mo_copy _ _ _ _ _ (isRow_F h1 (i0 (hL _ _ ⟨a, hA, hC, hM⟩))))))
end P32
