/-! house, cold, hurt, most, mark -/
theorem toI_ge {x : Int32} (h : ¬ x < 1) : 0 ≤ x := by
  rw [Int32.lt_iff_toInt_lt] at h
  rw [Int32.le_iff_toInt_le]
  have e1 : (1 : Int32).toInt = 1 := rfl
  have e0 : (0 : Int32).toInt = 0 := rfl
  omega
theorem nl_le {x y : Int32} (h : ¬ x ≤ y) : y < x := by
  rw [Int32.lt_iff_toInt_lt]
  rw [Int32.le_iff_toInt_le] at h
  omega
theorem le_nl {x y : Int32} (h : x ≤ y) : ¬ y < x := by
  rw [Int32.lt_iff_toInt_lt]
  rw [Int32.le_iff_toInt_le] at h
  omega
/-- a number of 0 .. n, or both call it bad -/
theorem rg_le {x : Int32} {n : Nat} (hn : n < 2147483647) (h : ¬ rg x (n + 1)) : x < 0 ∨ (¬ x < 0 ∧ ¬ x ≤ nI n) := by
  by_cases h0 : x < 0
  · exact Or.inl h0
  · refine Or.inr ⟨h0, fun q => ?_⟩
    obtain ⟨j, hj, rfl⟩ := nI_of h0
    have := (nI_leI hj (by omega)).mp q
    exact h ⟨j, by omega, rfl⟩
section P36
variable {G : Ge} {μ : Mm} {K : Int32 → Mm → Prop}
def sd (a : Ab) (h x : Nat) : Int32 := match x with
  | 0 => nI (hk (aH a) h)
  | 1 => nI (hw (aH a) h)
  | 2 => nI (vo (cs (aH a) (aC a)) h)
  | 3 => nI (vp (cs (aH a) (aC a)) h)
  | 4 => bI (vb (cs (aH a) (aC a)) h)
  | _ => nI (ct (aH a) (aC a) (cs (aH a) (aC a)) h)
theorem side_C {a : Ab} {h x : Nat} (hA : AI a) (hC : RC a μ) (hh : h < hn (aH a)) (hx : x < 6) (hK : K (sd a h x) μ) : CS G m_Cs_sideOf [vr 6 0, vi (nI h), vi (nI x)] μ (RI K) := by
  have b1 := hA.2.2.1.1
  have hS := hC.2.2.2.1
  refine c_Cs_sideOf _ _ ⟨in_nI (by omega) (by decide), ?_⟩
  rw [nI_tn (by omega), (hS.1.2.2 h hh).1, (hS.1.2.2 h hh).2.1, (hS.2.2.2 h hh).1, (hS.2.2.2 h hh).2.1, (hS.2.2.2 h hh).2.2]
  have hx6 : x = 0 ∨ x = 1 ∨ x = 2 ∨ x = 3 ∨ x = 4 ∨ x = 5 := by omega
  rcases hx6 with rfl | rfl | rfl | rfl | rfl | rfl
  · exact iT rfl hK
  · exact iF (by decide) (iT rfl hK)
  · exact iF (by decide) (iF (by decide) (iT rfl hK))
  · exact iF (by decide) (iF (by decide) (iF (by decide) (iT rfl hK)))
  · exact iF (by decide) (iF (by decide) (iF (by decide) (iF (by decide) (iT rfl hK))))
  · exact iF (by decide) (iF (by decide) (iF (by decide) (iF (by decide) (iF (by decide) (canT_C hS hA.2.2.1 hA.2.2.2.1 hh hK)))))
theorem side_M {a : Ab} {h x : Nat} (hA : AI a) (hM : RM a μ) (hh : h < hn (aH a)) (hx : x < 6) (hK : K (sd a h x) μ) : CS G m_Mo_houseTells [vr 7 0, vi (nI h), vi (nI x)] μ (RI K) := by
  have b1 := hA.2.2.1.1
  have hS := hM.2.2.2.1
  have hv := hS.2.2.2.1.2 h hh
  refine c_Mo_houseTells _ _ ?_
  rw [show (5 : Int32) + nI h = nI (5 + h) from nI_add 5 h, show (10 : Int32) + nI h = nI (10 + h) from nI_add 10 h, nI_tn (n := h) (by omega), nI_tn (n := 5 + h) (by omega), nI_tn (n := 10 + h) (by omega), (hS.1.2.2 h hh).1, (hS.1.2.2 h hh).2, hv.1, hv.2.1, hv.2.2]
  have h5 : vp_in (nI h) 5 := in_nI (by omega) (by decide)
  have hx6 : x = 0 ∨ x = 1 ∨ x = 2 ∨ x = 3 ∨ x = 4 ∨ x = 5 := by omega
  rcases hx6 with rfl | rfl | rfl | rfl | rfl | rfl
  · exact iT rfl ⟨h5, hK⟩
  · exact iF (by decide) (iT rfl ⟨h5, hK⟩)
  · exact iF (by decide) (iF (by decide) (iT rfl ⟨in_nI (by omega) (by decide), hK⟩))
  · exact iF (by decide) (iF (by decide) (iF (by decide) (iT rfl ⟨in_nI (by omega) (by decide), hK⟩)))
  · exact iF (by decide) (iF (by decide) (iF (by decide) (iF (by decide) (iT rfl ⟨in_nI (by omega) (by decide), hK⟩))))
  · exact iF (by decide) (iF (by decide) (iF (by decide) (iF (by decide) (iF (by decide) (canT_M hS hA.2.2.1 hA.2.2.2.1 hh hK)))))
theorem two_house (x1 x2 : Int32) : Two G m_Cs_house m_Mo_house [vr 6 0, vi x1, vi x2] [vr 7 0, vi x1, vi x2] := by
  intro μ L ⟨a, hA, hC, hM⟩ hL
  have b1 := hA.2.2.1.1
  by_cases h1 : rg x1 (hn (aH a))
  · obtain ⟨h, hh, rfl⟩ := h1
    by_cases h2 : rg x2 6
    · obtain ⟨x, hx, rfl⟩ := h2
      refine c_Cs_house _ _ (noHouse_T hC.2.2.2.1.1.1 (by omega) hh (i0 (iNl (by omega) (iLtT (b := 6) (by decide) hx (side_C hA hC hh hx ?_)))))
      have F1 : Fa (L1 0) μ (wI μ 6 0 9 (sd a h x)) := Fa.rf.wI rfl
      have hM1 := hM.fa F1 (L1_M (by decide))
      have hC1 := hC.rest0 hA F1 (tellC (v := sd a h x) hC.1)
      generalize wI μ 6 0 9 (sd a h x) = μ1 at F1 hM1 hC1 ⊢
      refine c_Mo_house _ _ (isHouse_T hM1.2.2.2.1.1.1 (by omega) hh (i1 (in_T (n := 6) (by decide) hx (i1 (side_M hA hM1 hh hx ?_)))))
      exact tells_s hM1.1 fun μ2 hT F2 => hL _ _ ⟨(tellI (sd a h x) (aT a), a.2), hA, hC1.fa hA F2 (L1_C (by decide)), hM1.rest0 F2 hT⟩
    · refine c_Cs_house _ _ (noHouse_T hC.2.2.2.1.1.1 (by omega) hh (i0 (no_F (n := 6) (by decide) h2 ?_)))
      exact c_Mo_house _ _ (isHouse_T hM.2.2.2.1.1.1 (by omega) hh (i1 (in_F (n := 6) (by decide) h2 (i0 (hL _ _ ⟨a, hA, hC, hM⟩)))))
  · exact c_Cs_house _ _ (noHouse_F hC.2.2.2.1.1.1 (by omega) h1 (i1 (c_Mo_house _ _ (isHouse_F hM.2.2.2.1.1.1 (by omega) h1 (i0 (hL _ _ ⟨a, hA, hC, hM⟩))))))
theorem two_cold (x1 : Int32) : Two G m_Cs_cold m_Mo_cold [vr 6 0, vi x1] [vr 7 0, vi x1] := by
  intro μ L ⟨a, hA, hC, hM⟩ hL
  have b1 := hA.2.2.1.2.1
  by_cases h1 : rg x1 (hN (aH a))
  · obtain ⟨t, ht, rfl⟩ := h1
    refine c_Cs_cold _ (noNight_T hC.2.2.2.1.1.2.1 (by omega) ht (i0 ⟨in_nI (by omega) (by decide), ?_⟩))
    refine c_Mo_cold _ (isNight_T hM.2.2.2.1.1.2.1 (by omega) ht (i1 ⟨in_nI (by omega) (by decide), ?_⟩))
    rw [nI_tn (by omega), hC.2.2.2.1.2.1.2.1 t ht, hM.2.2.2.1.2.2.1 t ht]
    exact hL _ _ ⟨a, hA, hC, hM⟩
  · exact c_Cs_cold _ (noNight_F hC.2.2.2.1.1.2.1 (by omega) h1 (i1 (c_Mo_cold _ (isNight_F hM.2.2.2.1.1.2.1 (by omega) h1 (i0 (hL _ _ ⟨a, hA, hC, hM⟩))))))
theorem two_hurt (x1 x2 : Int32) : Two G m_Cs_hurt m_Mo_hurt [vr 6 0, vi x1, vi x2] [vr 7 0, vi x1, vi x2] := by
  intro μ L ⟨a, hA, hC, hM⟩ hL
  have b1 := hA.2.2.1.1
  have ok : Ok G μ := ⟨a, hA, hC, hM⟩
  by_cases h1 : rg x1 (hn (aH a))
  · obtain ⟨h, hh, rfl⟩ := h1
    have q := hA.2.2.1.2.2.2 h hh
    by_cases h2 : rg x2 10
    · obtain ⟨d, hd, rfl⟩ := h2
      refine c_Cs_hurt _ _ (noHouse_T hC.2.2.2.1.1.1 (by omega) hh (i0 (iNl (by omega) (iLeT (b := 9) (by decide) (by omega) ⟨in_nI (by omega) (by decide), ?_⟩))))
      rw [nI_tn (by omega)]
      refine painOf_s (hC.2.2.2.1.1.2.2 h hh).1 (hC.2.2.2.1.1.2.2 h hh).2.1 q.1 q.2.1 (by omega) ?_
      exact c_Mo_hurt _ _ (isHouse_T hM.2.2.2.1.1.1 (by omega) hh (i1 (in_T (n := 10) (by decide) hd (i1 (hurtOf_s (by omega) (hM.2.2.2.1.1.2.2 h hh).1 (hM.2.2.2.1.1.2.2 h hh).2 q.1 q.2.1 (by omega) (hL _ _ ok))))))
    · refine c_Cs_hurt _ _ (noHouse_T hC.2.2.2.1.1.1 (by omega) hh (i0 ?_))
      have hm : CS G m_Mo_hurt [vr 7 0, vi (nI h), vi x2] μ (RI fun v2 μ2 => L (-1) v2 μ2) := c_Mo_hurt _ _ (isHouse_T hM.2.2.2.1.1.1 (by omega) hh (i1 (in_F (n := 10) (by decide) h2 (i0 (hL _ _ ok)))))
      rcases rg_le (n := 9) (by decide) h2 with z | z
      · exact iT z hm
      · exact iF z.1 (iF z.2 hm)
  · exact c_Cs_hurt _ _ (noHouse_F hC.2.2.2.1.1.1 (by omega) h1 (i1 (c_Mo_hurt _ _ (isHouse_F hM.2.2.2.1.1.1 (by omega) h1 (i0 (hL _ _ ok))))))
/-- how much it can bear from night t on -/
def ms (H : Hs) (c : Sc) (h t : Nat) : Nat := sm (fun j => tp H c (cs H c) h (vt (cs H c) + j)) (t - vt (cs H c))
theorem ms_s {H : Hs} {c : Sc} {h t : Nat} (ht : vt (cs H c) ≤ t) : ms H c h (t + 1) = ms H c h t + tp H c (cs H c) h t := by
  unfold ms
  rw [show t + 1 - vt (cs H c) = (t - vt (cs H c)) + 1 by omega]
  show sm _ _ + tp H c (cs H c) h (vt (cs H c) + (t - vt (cs H c))) = _
  rw [show vt (cs H c) + (t - vt (cs H c)) = t by omega]
theorem most_C {H : Hs} {c : Sc} {h : Nat} (hC : Cs H c μ) (hH : HI H) (hc : CI H c) (hh : h < hn H) (hK : K (nI (ms H c h (hN H))) μ) : ∀ (d t : Nat), hN H = t + d → vt (cs H c) ≤ t → SS G m_Cs_most 20 [vr 6 0, vi (nI h), vi (nI (ms H c h t)), vi (nI t)] [] μ (RI K)
  | 0, t, e, hv => by
    have b2 := hH.2.1
    refine b_Cs_most_20 _ _ _ ?_
    rw [hC.1.2.1]
    refine iLeT (by omega) (by omega) ?_
    rw [show t = hN H by omega]
    exact hK
  | d + 1, t, e, hv => by
    have b2 := hH.2.1
    refine b_Cs_most_20 _ _ _ ?_
    rw [hC.1.2.1]
    refine iLeF (by omega) (by omega) (topIn_s hC hH hc hh (by omega) ?_)
    rw [nI_add, nI_1, ← ms_s hv]
    exact most_C hC hH hc hh hK d (t + 1) (by omega) (by omega)
theorem most_M {H : Hs} {c : Sc} {h : Nat} (hM : Ms H c μ) (hH : HI H) (hc : CI H c) (hh : h < hn H) (hK : K (nI (ms H c h (hN H))) μ) : ∀ (d t : Nat), hN H = t + d → vt (cs H c) ≤ t → SS G m_Mo_mostOf 10 [vr 7 0, vi (nI h), vi (nI (ms H c h t)), vi (nI t)] [] μ (RI K)
  | 0, t, e, hv => by
    have b2 := hH.2.1
    refine b_Mo_mostOf_10 _ _ _ ?_
    rw [hM.1.2.1]
    refine iLeT (by omega) (by omega) ?_
    rw [show t = hN H by omega]
    exact hK
  | d + 1, t, e, hv => by
    have b2 := hH.2.1
    refine b_Mo_mostOf_10 _ _ _ ?_
    rw [hM.1.2.1]
    refine iLeF (by omega) (by omega) (canOn_s hM hH hc hh (by omega) ?_)
    rw [nI_add, nI_1, ← ms_s hv]
    exact most_M hM hH hc hh hK d (t + 1) (by omega) (by omega)
theorem ms_0 {H : Hs} {c : Sc} {h : Nat} : ms H c h (vt (cs H c)) = 0 := by
  unfold ms
  rw [Nat.sub_self]
  rfl
theorem mostOf_s {H : Hs} {c : Sc} {h : Nat} (hM : Ms H c μ) (hH : HI H) (hc : CI H c) (hh : h < hn H) (hK : K (nI (ms H c h (hN H))) μ) : CS G m_Mo_mostOf [vr 7 0, vi (nI h)] μ (RI K) := by
  have hS := SI_now hH hc
  have hvt := hS.1
  refine c_Mo_mostOf _ ⟨in_nI (n := 15) (by decide) (by decide), ?_⟩
  rw [show Int32.toNatClampNeg 15 = 15 from rfl, hM.2.2.2.1.1]
  have := most_M (G := G) hM hH hc hh hK (hN H - vt (cs H c)) (vt (cs H c)) (by omega) (Nat.le_refl _)
  rw [ms_0] at this
  exact this
theorem two_most (x1 : Int32) : Two G m_Cs_most m_Mo_most [vr 6 0, vi x1] [vr 7 0, vi x1] := by
  intro μ L ⟨a, hA, hC, hM⟩ hL
  have b1 := hA.2.2.1.1
  have ok : Ok G μ := ⟨a, hA, hC, hM⟩
  by_cases h1 : rg x1 (hn (aH a))
  · obtain ⟨h, hh, rfl⟩ := h1
    have hvt := (SI_now hA.2.2.1 hA.2.2.2.1).1
    refine c_Cs_most _ (noHouse_T hC.2.2.2.1.1.1 (by omega) hh (i0 ?_))
    rw [hC.2.2.2.1.2.2.1]
    have hm : CS G m_Mo_most [vr 7 0, vi (nI h)] μ (RI fun v2 μ2 => L (nI (ms (aH a) (aC a) h (hN (aH a)))) v2 μ2) := c_Mo_most _ (isHouse_T hM.2.2.2.1.1.1 (by omega) hh (i1 (mostOf_s hM.2.2.2.1 hA.2.2.1 hA.2.2.2.1 hh (hL _ _ ok))))
    have := most_C (G := G) (K := fun v1 μ1 => CS G m_Mo_most [vr 7 0, vi (nI h)] μ1 (RI fun v2 μ2 => L v1 v2 μ2)) hC.2.2.2.1 hA.2.2.1 hA.2.2.2.1 hh hm (hN (aH a) - vt (cs (aH a) (aC a))) (vt (cs (aH a) (aC a))) (by omega) (Nat.le_refl _)
    rw [ms_0] at this
    exact this
  · exact c_Cs_most _ (noHouse_F hC.2.2.2.1.1.1 (by omega) h1 (i1 (c_Mo_most _ (isHouse_F hM.2.2.2.1.1.1 (by omega) h1 (i0 (hL _ _ ok))))))
end P36
