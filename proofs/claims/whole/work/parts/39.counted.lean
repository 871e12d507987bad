/-! count, the reference's -/
section P39
variable {G : Ge} {μ : Mm} {K : Int32 → Mm → Prop}
theorem add0 (n : Nat) : nI n + 0 = nI n := nI_add n 0
theorem cd4 {a : Ab} {x : Nat} (hA : AI a) (hM : RM a μ) (hx : x < 10) (acc : Nat) (hK : K (nI (if x < 4 then cnt a x else acc + sm (f4 a x) 3)) μ) : ∀ (d i : Nat), 3 = i + d → SS G m_Mo_counted 157 [vr 7 0, vi (nI x), vi (nI (acc + sm (f4 a x) i)), vi (nI i)] [] μ (RI K)
  | 0, i, e => by
    have : i = 3 := by omega
    subst this
    have hS := hM.2.2.2.1
    refine b_Mo_counted_157 _ _ _ (iT (by decide) ?_)
    rw [show Int32.toNatClampNeg 15 = 15 from rfl, hS.1.1, hS.1.2.1, hS.2.1, hS.2.2.2.1.1]
    have hx10 : x = 0 ∨ x = 1 ∨ x = 2 ∨ x = 3 ∨ 4 ≤ x := by omega
    rcases hx10 with rfl | rfl | rfl | rfl | h4
    · exact iT rfl hK
    · exact iF (by decide) (iT rfl hK)
    · exact iF (by decide) (iF (by decide) (iT rfl ⟨in_nI (n := 15) (by decide) (by decide), hK⟩))
    · exact iF (by decide) (iF (by decide) (iF (by decide) (iT rfl hK)))
    · rw [if_neg (by omega)] at hK
      exact iEqF (b := 0) (by omega) (by decide) (by omega) (iEqF (b := 1) (by omega) (by decide) (by omega) (iEqF (b := 2) (by omega) (by decide) (by omega) (iEqF (b := 3) (by omega) (by decide) (by omega) hK)))
  | d + 1, i, e => by
    have ih := cd4 hA hM hx acc hK d (i + 1) (by omega)
    have ih2 : SS G m_Mo_counted 157 [vr 7 0, vi (nI x), vi (nI (acc + (sm (f4 a x) i + f4 a x i))), vi (nI (i + 1))] [] μ (RI K) := ih
    rw [← Nat.add_assoc] at ih2
    refine b_Mo_counted_157 _ _ _ (iF (nI_ge (b := 3) (by omega) (by omega)) ?_)
    rw [nI_tn (by omega)]
    simp only [nI_1, add0]
    have hk := hM.2.2.2.2 i (by omega)
    unfold Mk1 at hk
    refine iEq (b := 9) (by omega) (by decide) (fun z => ⟨in_nI (by omega) (by decide), ?_⟩) fun z => ?_
    · cases hq : (aK a) i with
      | none =>
        rw [hq] at hk
        rw [show f4 a x i = 0 from by unfold f4 kf; rw [if_pos z, hq]] at ih2
        rw [hk]
        exact iT rfl ih2
      | some c =>
        rw [hq] at hk
        rw [show f4 a x i = 1 from by unfold f4 kf; rw [if_pos z, hq]] at ih2
        rw [hk.1]
        exact iF (by decide) ih2
    · rw [show f4 a x i = 0 from if_neg z] at ih2
      exact ih2
theorem cd3 {a : Ab} {x : Nat} (hA : AI a) (hM : RM a μ) (hx : x < 10) (acc : Nat) (hK : SS G m_Mo_counted 157 [vr 7 0, vi (nI x), vi (nI (acc + sm (f3 a x) 4)), vi (nI 0)] [] μ (RI K)) : ∀ (d i : Nat), 4 = i + d → SS G m_Mo_counted 121 [vr 7 0, vi (nI x), vi (nI (acc + sm (f3 a x) i)), vi (nI i)] [] μ (RI K)
  | 0, i, e => by
    have : i = 4 := by omega
    subst this
    exact b_Mo_counted_121 _ _ _ (iT (by decide) hK)
  | d + 1, i, e => by
    have ih := cd3 hA hM hx acc hK d (i + 1) (by omega)
    have ih2 : SS G m_Mo_counted 121 [vr 7 0, vi (nI x), vi (nI (acc + (sm (f3 a x) i + f3 a x i))), vi (nI (i + 1))] [] μ (RI K) := ih
    rw [← Nat.add_assoc] at ih2
    have hb := hA.2.1 i (by omega)
    refine b_Mo_counted_121 _ _ _ (iF (nI_ge (b := 4) (by omega) (by omega)) ?_)
    rw [nI_tn (by omega), (hM.2.2.1 i (by omega)).1]
    simp only [nI_1, add0]
    refine iEq (b := 8) (by omega) (by decide) (fun z => ⟨in_nI (by omega) (by decide), ?_⟩) fun z => ?_
    · cases hq : (aX a).1 i with
      | zero =>
        rw [show f3 a x i = 0 from by unfold f3 zf; rw [if_pos z, if_pos hq]] at ih2
        exact iT (by decide) ih2
      | succ n =>
        rw [show f3 a x i = 1 from by unfold f3 zf; rw [if_pos z, if_neg (by omega)]] at ih2
        exact iNl (a := n) (by omega) ih2
    · rw [show f3 a x i = 0 from if_neg z] at ih2
      exact ih2
theorem cd2 {a : Ab} {x : Nat} (hA : AI a) (hM : RM a μ) (hx : x < 10) (acc : Nat) (hK : SS G m_Mo_counted 121 [vr 7 0, vi (nI x), vi (nI (acc + sm (f2 a x) 6)), vi (nI 0)] [] μ (RI K)) : ∀ (d i : Nat), 6 = i + d → SS G m_Mo_counted 84 [vr 7 0, vi (nI x), vi (nI (acc + sm (f2 a x) i)), vi (nI i)] [] μ (RI K)
  | 0, i, e => by
    have : i = 6 := by omega
    subst this
    exact b_Mo_counted_84 _ _ _ (iT (by decide) hK)
  | d + 1, i, e => by
    have ih := cd2 hA hM hx acc hK d (i + 1) (by omega)
    have ih2 : SS G m_Mo_counted 84 [vr 7 0, vi (nI x), vi (nI (acc + (sm (f2 a x) i + f2 a x i))), vi (nI (i + 1))] [] μ (RI K) := ih
    rw [← Nat.add_assoc] at ih2
    have hb := hA.1 i (by omega)
    refine b_Mo_counted_84 _ _ _ (iF (nI_ge (b := 6) (by omega) (by omega)) ?_)
    rw [nI_tn (by omega), (hM.2.1 i (by omega)).1]
    simp only [nI_1, add0]
    refine iEq (b := 7) (by omega) (by decide) (fun z => ⟨in_nI (by omega) (by decide), ?_⟩) fun z => ?_
    · cases hq : (aR a).1 i with
      | zero =>
        rw [show f2 a x i = 0 from by unfold f2 zf; rw [if_pos z, if_pos hq]] at ih2
        exact iT (by decide) ih2
      | succ n =>
        rw [show f2 a x i = 1 from by unfold f2 zf; rw [if_pos z, if_neg (by omega)]] at ih2
        exact iNl (a := n) (by omega) ih2
    · rw [show f2 a x i = 0 from if_neg z] at ih2
      exact ih2
theorem k25 : ∀ k, k < 6 → (isK k 2 = true ↔ (k = 2 ∨ k = 5)) := by decide
theorem cd1 {a : Ab} {x : Nat} (hA : AI a) (hM : RM a μ) (hx : x < 10) (hK : SS G m_Mo_counted 84 [vr 7 0, vi (nI x), vi (nI (sm (f1 a x) (hn (aH a)))), vi (nI 0)] [] μ (RI K)) : ∀ (d i : Nat), hn (aH a) = i + d → SS G m_Mo_counted 4 [vr 7 0, vi (nI x), vi (nI (sm (f1 a x) i)), vi (nI i)] [] μ (RI K)
  | 0, i, e => by
    have b1 := hA.2.2.1.1
    refine b_Mo_counted_4 _ _ _ ?_
    rw [hM.2.2.2.1.1.1]
    refine iLeT (by omega) (by omega) ?_
    rw [show i = hn (aH a) by omega]
    exact hK
  | d + 1, i, e => by
    have b1 := hA.2.2.1.1
    have hi : i < hn (aH a) := by omega
    have ih := cd1 hA hM hx hK d (i + 1) (by omega)
    have ih2 : SS G m_Mo_counted 4 [vr 7 0, vi (nI x), vi (nI (sm (f1 a x) i + f1 a x i)), vi (nI (i + 1))] [] μ (RI K) := ih
    have hS := hM.2.2.2.1
    have hv := hS.2.2.2.1.2 i hi
    have hk5 := (hA.2.2.1.2.2.2 i hi).1
    refine b_Mo_counted_4 _ _ _ ?_
    rw [hM.2.2.2.1.1.1]
    refine iLeF (by omega) (by omega) ?_
    rw [show (5 : Int32) + nI i = nI (5 + i) from nI_add 5 i, nI_tn (n := i) (by omega), nI_tn (n := 5 + i) (by omega), (hS.1.2.2 i hi).1, hv.1, hv.2.1]
    simp only [nI_1, add0, nI_add]
    refine iEq (b := 4) (by omega) (by decide) (fun z => ⟨in_nI (by omega) (by decide), ?_⟩) fun z4 => iEq (b := 5) (by omega) (by decide) (fun z => ⟨in_nI (by omega) (by decide), ?_⟩) fun z5 => iEq (b := 6) (by omega) (by decide) (fun z => ⟨in_nI (by omega) (by decide), ?_⟩) fun z6 => ?_
    · rw [show f1 a x i = vo (cs (aH a) (aC a)) i from if_pos z] at ih2
      exact ih2
    · rw [show f1 a x i = vp (cs (aH a) (aC a)) i from by unfold f1; rw [if_neg z4, if_pos z]] at ih2
      exact ih2
    · have ef : f1 a x i = if isK (hk (aH a) i) 2 = true then 1 else 0 := by
        unfold f1
        rw [if_neg z4, if_neg z5, if_pos z]
        rfl
      refine iEq (b := 2) (by omega) (by decide) (fun y => ?_) fun y2 => ⟨in_nI (by omega) (by decide), iEq (b := 5) (by omega) (by decide) (fun y => ?_) fun y5 => ?_⟩
      · rw [ef, if_pos ((k25 _ (by omega)).mpr (Or.inl y))] at ih2
        exact ih2
      · rw [ef, if_pos ((k25 _ (by omega)).mpr (Or.inr y))] at ih2
        exact ih2
      · rw [ef, if_neg (fun q => ((k25 _ (by omega)).mp q).elim y2 y5)] at ih2
        exact ih2
    · rw [show f1 a x i = 0 from by unfold f1; rw [if_neg z4, if_neg z5, if_neg z6]] at ih2
      exact ih2
theorem counted_s {a : Ab} {x : Nat} (hA : AI a) (hM : RM a μ) (hx : x < 10) (hK : K (nI (cnt a x)) μ) : CS G m_Mo_counted [vr 7 0, vi (nI x)] μ (RI K) := by
  refine c_Mo_counted _ (cd1 hA hM hx ?_ (hn (aH a)) 0 (by omega))
  refine cd2 hA hM hx (sm (f1 a x) (hn (aH a))) ?_ 6 0 rfl
  refine cd3 hA hM hx (sm (f1 a x) (hn (aH a)) + sm (f2 a x) 6) ?_ 4 0 rfl
  refine cd4 hA hM hx (sm (f1 a x) (hn (aH a)) + sm (f2 a x) 6 + sm (f3 a x) 4) ?_ 3 0 rfl
  by_cases h4 : x < 4
  · rw [if_pos h4]
    exact hK
  · rw [if_neg h4]
    obtain ⟨y, rfl⟩ : ∃ y, x = y + 4 := ⟨x - 4, by omega⟩
    exact hK
theorem two_count (x1 : Int32) : Two G m_Cs_count m_Mo_count [vr 6 0, vi x1] [vr 7 0, vi x1] := by
  intro μ L ⟨a, hA, hC, hM⟩ hL
  have ok : Ok G μ := ⟨a, hA, hC, hM⟩
  by_cases h1 : rg x1 10
  · obtain ⟨x, hx, rfl⟩ := h1
    exact count_C hA hC hx (c_Mo_count _ (in_T (n := 10) (by decide) hx (i1 (counted_s hA hM hx (hL _ _ ok)))))
  · have ne : ∀ n : Nat, n < 10 → ¬ x1 = nI n := fun n hn q => h1 ⟨n, hn, q⟩
    refine c_Cs_count _ (iF (ne 0 (by decide)) (iF (ne 1 (by decide)) (iF (ne 2 (by decide)) (iF (ne 3 (by decide)) (iF (ne 4 (by decide)) (iF (ne 5 (by decide)) (iF (ne 6 (by decide)) (iF (ne 7 (by decide)) (iF (ne 8 (by decide)) (iF (ne 9 (by decide)) ?_))))))))))
    exact c_Mo_count _ (in_F (n := 10) (by decide) h1 (i0 (hL _ _ ok)))
end P39
