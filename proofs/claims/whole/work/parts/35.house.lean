/-! what hurts, what can be borne: both -/
theorem max0 (x : Int32) {K : Int32 → Mm → Prop} {G : Ge} {μ : Mm} (h : K (if 0 < x then x else 0) μ) : CS G m_Jm_max [vi 0, vi x] μ (RI K) := by
  refine c_Jm_max _ _ (iB (fun q => ?_) fun q => ?_)
  · rw [if_pos q] at h
    exact h
  · rw [if_neg q] at h
    exact h
theorem mx_sub {d z : Nat} (hd : d < 2147483648) (hz : z < 2147483648) : (if 0 < nI d - nI z then nI d - nI z else 0) = nI (d - z) := by
  by_cases h : z < d
  · rw [nI_sub (by omega), if_pos (show (0 : Int32) < nI (d - z) from nI_lt (a := 0) (by omega) (by omega))]
  · rw [if_neg, show d - z = 0 by omega]
    · rfl
    · rw [Int32.lt_iff_toInt_lt, sub_toInt hd hz]
      have e0 : (0 : Int32).toInt = 0 := rfl
      omega
section B35
variable {G : Ge} {μ : Mm} {K : Int32 → Mm → Prop} {q k w d h : Nat}
theorem sqA {z : Nat} (hd : d < 2147483648) (hz : z < 2147483648) (h : K (nI ((d - z) * (d - z))) μ) : CS G m_Ho_squareAbove [vi (nI d), vi (nI z)] μ (RI K) := by
  refine c_Ho_squareAbove _ _ (max0 _ ?_)
  rw [mx_sub hd hz, nI_mul]
  exact h
theorem warm_d : ∀ k, k < 6 → ∀ w, w < 10 → (if (0 : Int32) < nI w + rom 54 k then nI w + rom 54 k else 0) = nI (wz k w) := by decide +kernel
theorem tms_d : ∀ k, k < 6 → rom 55 k = nI (tms k) := by decide +kernel
theorem wz_le (hw : w ≤ 9) : wz k w ≤ 11 := by
  unfold wz
  split <;> omega
theorem painOf_s (e0 : μ.1 0 q 0 = nI k) (e1 : μ.1 0 q 1 = nI w) (hk : k ≤ 5) (hw : w ≤ 9) (hd : d ≤ 99) (h : K (nI (hu k w d)) μ) : CS G m_Ho_painOf [vr 0 q, vi (nI d)] μ (RI K) := by
  refine c_Ho_painOf _ _ ?_
  rw [e0, e1, nI_tn (by omega)]
  refine ⟨in_nI (by omega) (by decide), in_nI (by omega) (by decide), max0 _ ?_⟩
  rw [warm_d k (by omega) w (by omega)]
  have hz := wz_le (k := k) hw
  refine sqA (by omega) (by omega) ?_
  rw [tms_d k (by omega), nI_mul]
  exact h
theorem plain_s (e1 : μ.1 0 q 1 = nI w) (hw : w ≤ 9) (hd : d ≤ 99) (h : K (nI ((d - w) * (d - w))) μ) : CS G m_Ho_plainPainOf [vr 0 q, vi (nI d)] μ (RI K) := by
  refine c_Ho_plainPainOf _ _ ?_
  rw [e1]
  exact sqA (by omega) (by omega) h
theorem sqd_s {z : Nat} (hd : d < 2147483648) (hz : z < 2147483648) (h : K (nI ((d - z) * (d - z))) μ) : CS G m_Mo_squared [vi (nI d), vi (nI z)] μ (RI K) := by
  refine c_Mo_squared _ _ (iLe hd hz (fun q => ?_) fun q => ?_)
  · rw [show d - z = 0 by omega] at h
    exact h
  · rw [nI_sub (by omega), nI_mul]
    exact h
theorem hurtOf_s (hh : h < 5) (e0 : μ.1 32 0 h = nI k) (e1 : μ.1 33 0 h = nI w) (hk : k ≤ 5) (hw : w ≤ 9) (hd : d ≤ 99) (hK : K (nI (hu k w d)) μ) : CS G m_Mo_hurtOf [vr 7 0, vi (nI h), vi (nI d)] μ (RI K) := by
  have one : ∀ z, 1 * z = z := Nat.one_mul
  refine c_Mo_hurtOf _ _ ⟨in_nI hh (by decide), ?_⟩
  rw [nI_tn (by omega), e0, e1]
  have hk6 : k = 0 ∨ k = 1 ∨ k = 2 ∨ k = 3 ∨ k = 4 ∨ k = 5 := by omega
  rcases hk6 with rfl | rfl | rfl | rfl | rfl | rfl
  · refine iF (by decide) (iF (by decide) (iF (by decide) (iF (by decide) (iF (by decide) ⟨in_nI hh (by decide), sqd_s (by omega) (by omega) ?_⟩))))
    rw [← one ((d - w) * (d - w))]
    exact hK
  · refine iT rfl ⟨in_nI hh (by decide), ?_⟩
    rw [show nI w + 2 = nI (w + 2) from nI_add w 2]
    refine sqd_s (by omega) (by omega) ?_
    rw [← one ((d - (w + 2)) * (d - (w + 2)))]
    exact hK
  · refine iF (by decide) (iT rfl ⟨in_nI hh (by decide), sqd_s (by omega) (by omega) ?_⟩)
    rw [show (2 : Int32) * nI ((d - w) * (d - w)) = nI (2 * ((d - w) * (d - w))) from nI_mul 2 _]
    exact hK
  · refine iF (by decide) (iF (by decide) (iT rfl ⟨in_nI hh (by decide), sqd_s (by omega) (by omega) ?_⟩))
    rw [← one ((d - w) * (d - w))]
    exact hK
  · refine iF (by decide) (iF (by decide) (iF (by decide) (iT rfl ?_)))
    have e : hu 4 w d = 0 := Nat.zero_mul _
    rw [e] at hK
    exact hK
  · refine iF (by decide) (iF (by decide) (iF (by decide) (iF (by decide) (iT rfl ⟨in_nI hh (by decide), iLe (b := 0) (by omega) (by decide) (fun q => ?_) fun q => ⟨in_nI hh (by decide), ?_⟩⟩))))
    · refine sqd_s (z := 0) (by omega) (by decide) ?_
      rw [show (2 : Int32) * nI ((d - 0) * (d - 0)) = nI (2 * ((d - 0) * (d - 0))) from nI_mul 2 _]
      have e : hu 5 w d = 2 * ((d - 0) * (d - 0)) := by
        show 2 * ((d - (w - 1)) * (d - (w - 1))) = _
        rw [show w - 1 = 0 by omega]
      rw [e] at hK
      exact hK
    · rw [show nI w - 1 = nI (w - 1) from nI_sub (b := 1) (by omega)]
      refine sqd_s (by omega) (by omega) ?_
      rw [show (2 : Int32) * nI ((d - (w - 1)) * (d - (w - 1))) = nI (2 * ((d - (w - 1)) * (d - (w - 1)))) from nI_mul 2 _]
      exact hK
/-! kinds -/
theorem isK_d1 : ∀ k, k < 6 → ∀ s, s < 5 → isK k (s + 1) = true → k ≠ s + 1 → rom 53 k = nI (s + 1) := by decide +kernel
theorem isK_d2 : ∀ k, k < 6 → ∀ s, s < 5 → isK k (s + 1) = false → (k ≠ s + 1 ∧ ¬ rom 53 k = nI (s + 1)) := by decide +kernel
theorem isK_d {k s : Nat} (hk : k < 6) (hs : s < 6) (h1 : 1 ≤ s) : (isK k s = true ∧ ¬ k = s → rom 53 k = nI s) ∧ (isK k s = false → ¬ k = s ∧ ¬ rom 53 k = nI s) := by
  obtain ⟨s, rfl⟩ : ∃ t, s = t + 1 := ⟨s - 1, by omega⟩
  exact ⟨fun h => isK_d1 k hk s (by omega) h.1 h.2, fun h => isK_d2 k hk s (by omega) h⟩
theorem isOf_T {s : Nat} (e0 : μ.1 0 q 0 = nI k) (hk : k ≤ 5) (hs : s ≤ 5) (hs1 : 1 ≤ s) (hi : isK k s = true) (h : K 1 μ) : CS G m_Ho_isOf [vr 0 q, vi (nI s)] μ (RI K) := by
  refine c_Ho_isOf _ _ ?_
  rw [e0, nI_tn (by omega)]
  exact iEq (by omega) (by omega) (fun _ => ⟨z01, h⟩) fun ne => ⟨in_nI (by omega) (by decide), iT ((isK_d (k := k) (by omega) (s := s) (by omega) hs1).1 ⟨hi, ne⟩) ⟨z01, h⟩⟩
theorem isOf_F {s : Nat} (e0 : μ.1 0 q 0 = nI k) (hk : k ≤ 5) (hs : s ≤ 5) (hs1 : 1 ≤ s) (hi : isK k s = false) (h : K 0 μ) : CS G m_Ho_isOf [vr 0 q, vi (nI s)] μ (RI K) := by
  have g := (isK_d (k := k) (by omega) (s := s) (by omega) hs1).2 hi
  refine c_Ho_isOf _ _ ?_
  rw [e0, nI_tn (by omega)]
  exact iEqF (by omega) (by omega) g.1 ⟨in_nI (by omega) (by decide), iF g.2 ⟨z00, h⟩⟩
theorem isK3 : ∀ k, k < 6 → (isK k 3 = true ↔ (k = 3 ∨ k = 4)) := by decide
theorem canAt_s {c : Nat} (e0 : μ.1 0 q 0 = nI k) (hk : k ≤ 5) (hc : c < 2147483648) (h : K (nI (cap k c)) μ) : CS G m_Ho_canAt [vr 0 q, vi (nI c)] μ (RI K) := by
  refine c_Ho_canAt _ _ ?_
  unfold cap at h
  cases hi : isK k 3 with
  | true =>
    rw [if_pos ((isK3 k (by omega)).mp hi)] at h
    refine isOf_T (s := 3) e0 hk (by decide) (by decide) hi (i1 (c_Jm_min _ _ (iLt (a := 2) (by decide) hc (fun q => ?_) fun q => ?_)))
    · rw [show min c 2 = 2 by omega] at h
      exact h
    · rw [show min c 2 = c by omega] at h
      exact h
  | false =>
    rw [if_neg (fun z => by rw [(isK3 k (by omega)).mpr z] at hi; cases hi)] at h
    exact isOf_F (s := 3) e0 hk (by decide) (by decide) hi (i0 h)
theorem canIn_s {c : Nat} (hh : h < 5) (e0 : μ.1 32 0 h = nI k) (hk : k ≤ 5) (hc : c < 2147483648) (hK : K (nI (cap k c)) μ) : CS G m_Mo_canIn [vr 7 0, vi (nI h), vi (nI c)] μ (RI K) := by
  have two : (k = 3 ∨ k = 4) → CS G m_Mo_lesser [vi 2, vi (nI c)] μ (RI fun v2 μ2 => K v2 μ2) := by
    intro q
    unfold cap at hK
    rw [if_pos q] at hK
    refine c_Mo_lesser _ _ (iLe (b := 2) hc (by decide) (fun q => ?_) fun q => ?_)
    · rw [show min c 2 = c by omega] at hK
      exact hK
    · rw [show min c 2 = 2 by omega] at hK
      exact hK
  refine c_Mo_canIn _ _ (c_Mo_isMiser _ ⟨in_nI hh (by decide), ?_⟩)
  rw [nI_tn (by omega), e0]
  refine iEq (b := 3) (by omega) (by decide) (fun q => ⟨z01, i1 (two (Or.inl q))⟩) fun q3 => ⟨in_nI hh (by decide), iEq (b := 4) (by omega) (by decide) (fun q => ⟨z01, i1 (two (Or.inr q))⟩) fun q4 => ⟨z00, i0 ?_⟩⟩
  unfold cap at hK
  rw [if_neg (fun z => z.elim q3 q4)] at hK
  exact hK
theorem bI_9 {b : Nat} (hb : b ≤ 46) : bI b = -9 ↔ b = 0 := by
  cases b with
  | zero => exact ⟨fun _ => rfl, fun _ => rfl⟩
  | succ n =>
    refine ⟨fun h => ?_, fun h => by cases h⟩
    have h : nI n = -9 := h
    have h2 := congrArg Int32.toInt h
    rw [nI_toInt (by omega)] at h2
    have e : (-9 : Int32).toInt = -9 := rfl
    omega
end B35
/-! of the street now -/
section S35
variable {G : Ge} {μ : Mm} {K : Int32 → Mm → Prop} {H : Hs} {c : Sc} {h t : Nat}
theorem topIn_s (hC : Cs H c μ) (hH : HI H) (hc : CI H c) (hh : h < hn H) (ht : t < hN H) (hK : K (nI (tp H c (cs H c) h t)) μ) : CS G m_St_topIn [vr 4 0, vi (nI h), vi (nI t)] μ (RI K) := by
  have hS := SI_now hH hc
  have b1 := hH.1
  have b2 := hH.2.1
  have hkd := (hC.1.2.2 h hh).1
  have hcd := hC.2.1.2.1 t ht
  have hc9 := hc.2.1 t ht
  have hv := (hC.2.2.2 h hh).2.2
  have hb := hS.2.2.1 h hh
  have hk5 := (hH.2.2.2 h hh).1
  have h5 : vp_in (nI h) 5 := in_nI (by omega) (by decide)
  have h8 : vp_in (nI t) 8 := in_nI (by omega) (by decide)
  refine c_St_topIn _ _ _ ?_
  rw [hC.2.2.1, nI_tn (by omega), nI_tn (by omega), hv, hcd]
  have hvt := hS.1
  refine iEq (by omega) (by omega) (fun q => ⟨h5, iB (fun z => ⟨h5, h8, canAt_s hkd hk5 (by omega) ?_⟩) fun z => ?_⟩) fun q => ⟨h5, h8, canAt_s hkd hk5 (by omega) ?_⟩
  · unfold tp at hK
    rw [if_neg (fun y => y.2 ((bI_9 hb).mp z))] at hK
    exact hK
  · unfold tp at hK
    rw [if_pos ⟨q, fun y => z ((bI_9 hb).mpr y)⟩] at hK
    exact hK
  · unfold tp at hK
    rw [if_neg (fun y => q y.1)] at hK
    exact hK
theorem cand_C (hC : Cs H c μ) (hH : HI H) (hc : CI H c) (h0 : vt (cs H c) < hN H → K 0 μ) (h1 : vt (cs H c) = hN H → K 1 μ) : CS G m_St_isCandlemas [vr 4 0] μ (RI K) := by
  have hS := SI_now hH hc
  have b2 := hH.2.1
  have hvt := hS.1
  refine c_St_isCandlemas _ ?_
  rw [hC.2.2.1, hC.1.2.1]
  exact iLt (by omega) (by omega) (fun q => ⟨z00, h0 q⟩) fun q => ⟨z01, h1 (by omega)⟩
theorem canT_C (hC : Cs H c μ) (hH : HI H) (hc : CI H c) (hh : h < hn H) (hK : K (nI (ct H c (cs H c) h)) μ) : CS G m_St_canTonight [vr 4 0, vi (nI h)] μ (RI K) := by
  have hS := SI_now hH hc
  have b1 := hH.1
  refine c_St_canTonight _ _ (cand_C hC hH hc (fun q => i0 ?_) fun q => i1 ?_)
  · rw [hC.2.2.1]
    refine topIn_s hC hH hc hh q ⟨in_nI (by omega) (by decide), ?_⟩
    unfold ct at hK
    rw [if_pos q] at hK
    have ho := hS.owes hh
    have ht := tp_le (H := H) (c := c) (s := cs H c) (h := h) (t := vt (cs H c))
    have hc9 := hc.2.1 _ q
    rw [nI_tn (by omega), (hC.2.2.2 h hh).1]
    refine c_Jm_min _ _ (iLt (by omega) (by omega) (fun z => ?_) fun z => ?_)
    · rw [Nat.min_eq_right (by omega)] at hK
      exact hK
    · rw [Nat.min_eq_left (by omega)] at hK
      exact hK
  · unfold ct at hK
    rw [if_neg (by omega)] at hK
    exact hK
theorem cand_M (hM : Ms H c μ) (hH : HI H) (hc : CI H c) (h0 : vt (cs H c) < hN H → K 0 μ) (h1 : vt (cs H c) = hN H → K 1 μ) : CS G m_Mo_isCandlemas [vr 7 0] μ (RI K) := by
  have hS := SI_now hH hc
  have b2 := hH.2.1
  have hvt := hS.1
  refine c_Mo_isCandlemas ⟨in_nI (n := 15) (by decide) (by decide), ?_⟩
  rw [show Int32.toNatClampNeg 15 = 15 from rfl, hM.2.2.2.1.1, hM.1.2.1]
  exact iEq (by omega) (by omega) (fun q => ⟨z01, h1 q⟩) fun q => ⟨z00, h0 (by omega)⟩
theorem did_M (hM : Ms H c μ) (hH : HI H) (hc : CI H c) (hh : h < hn H) (h0 : vb (cs H c) h = 0 → K 0 μ) (h1 : vb (cs H c) h ≠ 0 → K 1 μ) : CS G m_Mo_didBear [vr 7 0, vi (nI h)] μ (RI K) := by
  have hS := SI_now hH hc
  have b1 := hH.1
  have hb := hS.2.2.1 h hh
  refine c_Mo_didBear _ ?_
  rw [show (10 : Int32) + nI h = nI (10 + h) from nI_add 10 h, nI_tn (by omega), (hM.2.2.2.1.2 h hh).2.2]
  exact ⟨in_nI (by omega) (by decide), iB (fun z => ⟨z00, h0 ((bI_9 hb).mp z)⟩) fun z => ⟨z01, h1 fun y => z ((bI_9 hb).mpr y)⟩⟩
theorem canOn_s (hM : Ms H c μ) (hH : HI H) (hc : CI H c) (hh : h < hn H) (ht : t < hN H) (hK : K (nI (tp H c (cs H c) h t)) μ) : CS G m_Mo_canOn [vr 7 0, vi (nI h), vi (nI t)] μ (RI K) := by
  have hS := SI_now hH hc
  have b1 := hH.1
  have b2 := hH.2.1
  have hkd := (hM.1.2.2 h hh).1
  have hcd := hM.2.2.1 t ht
  have hc9 := hc.2.1 t ht
  have hk5 := (hH.2.2.2 h hh).1
  have h8 : vp_in (nI t) 8 := in_nI (by omega) (by decide)
  have hvt := hS.1
  refine c_Mo_canOn _ _ ⟨in_nI (n := 15) (by decide) (by decide), ?_⟩
  rw [show Int32.toNatClampNeg 15 = 15 from rfl, hM.2.2.2.1.1, nI_tn (by omega)]
  refine iEq (by omega) (by omega) (fun q => did_M hM hH hc hh (fun z => i0 ⟨h8, ?_⟩) fun z => i1 ?_) fun q => ⟨h8, ?_⟩
  · rw [hcd]
    refine canIn_s (by omega) hkd hk5 (by omega) ?_
    unfold tp at hK
    rw [if_neg (fun y => y.2 z)] at hK
    exact hK
  · unfold tp at hK
    rw [if_pos ⟨q, z⟩] at hK
    exact hK
  · rw [hcd]
    refine canIn_s (by omega) hkd hk5 (by omega) ?_
    unfold tp at hK
    rw [if_neg (fun y => q y.1)] at hK
    exact hK
theorem canT_M (hM : Ms H c μ) (hH : HI H) (hc : CI H c) (hh : h < hn H) (hK : K (nI (ct H c (cs H c) h)) μ) : CS G m_Mo_canTonight [vr 7 0, vi (nI h)] μ (RI K) := by
  have hS := SI_now hH hc
  have b1 := hH.1
  refine c_Mo_canTonight _ (cand_M hM hH hc (fun q => i0 ⟨in_nI (by omega) (by decide), in_nI (n := 15) (by decide) (by decide), ?_⟩) fun q => i1 ?_)
  · rw [show Int32.toNatClampNeg 15 = 15 from rfl, hM.2.2.2.1.1]
    refine canOn_s hM hH hc hh q ?_
    unfold ct at hK
    rw [if_pos q] at hK
    have ho := hS.owes hh
    have ht := tp_le (H := H) (c := c) (s := cs H c) (h := h) (t := vt (cs H c))
    have hc9 := hc.2.1 _ q
    rw [nI_tn (by omega), (hM.2.2.2.1.2 h hh).1]
    refine c_Mo_lesser _ _ (iLe (by omega) (by omega) (fun z => ?_) fun z => ?_)
    · rw [Nat.min_eq_left (by omega)] at hK
      exact hK
    · rw [Nat.min_eq_right (by omega)] at hK
      exact hK
  · unfold ct at hK
    rw [if_neg (by omega)] at hK
    exact hK
end S35
