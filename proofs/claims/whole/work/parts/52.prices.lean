/-! price, late, gain, sales -/
def prc (o1 o2 : Option Nat) : Int32 := match o1 with
  | none => -9
  | some a => match o2 with
    | none => -9
    | some b => nI b - nI a
def gnO (o1 o2 o3 o4 : Option Nat) : Int32 := match o1 with
  | none => -9
  | some a => match o2 with
    | none => -9
    | some b => match o3 with
      | none => -9
      | some c => match o4 with
        | none => -9
        | some d => 100 + (nI a + nI b) - (nI c + nI d)
theorem lt6 {v : Nat} (h : v ≤ 1296) : nI v < 1000000 := nI_lt (b := 1000000) (by omega) (by decide)
theorem ge6 {v : Nat} (h : v ≤ 1296) : ¬ (1000000 : Int32) ≤ nI v := nI_ge (b := 1000000) (by omega) (by decide)
theorem ne8 {v : Nat} (h : v ≤ 1296) : ¬ nI v = (100000000 : Int32) := fun q => by
  have := (nI_eq (a := v) (b := 100000000) (by omega) (by decide)).mp q
  omega
theorem ge8 {v : Nat} (h : v ≤ 1296) : ¬ (100000000 : Int32) ≤ nI v := nI_ge (b := 100000000) (by omega) (by decide)
theorem le6 : (1000000 : Int32) ≤ 1000000 := Int32.le_refl _
theorem le8 : (100000000 : Int32) ≤ 100000000 := Int32.le_refl _
section O52
variable {P : Int32 → Prop} {o1 o2 o3 o4 : Option Nat}
theorem prcC (B1 : oB 1296 o1) (B2 : oB 1296 o2) (h : P (prc o1 o2)) : if (1000000 : Int32) ≤ nI (eN 1000000 o1) then P (-9) else if nI (eN 1000000 o2) < 1000000 then P (nI (eN 1000000 o2) - nI (eN 1000000 o1)) else P (-9) := by
  cases o1 with
  | none => exact iT le6 h
  | some a =>
    refine iF (ge6 (B1 a rfl)) ?_
    cases o2 with
    | none => exact iF (by decide) h
    | some b => exact iT (lt6 (B2 b rfl)) h
theorem prcM (B1 : oB 1296 o1) (B2 : oB 1296 o2) (h : P (prc o1 o2)) : if nI (eN 100000000 o1) = 100000000 then P (-9) else if nI (eN 100000000 o2) = 100000000 then P (-9) else P (nI (eN 100000000 o2) - nI (eN 100000000 o1)) := by
  cases o1 with
  | none => exact iT rfl h
  | some a =>
    refine iF (ne8 (B1 a rfl)) ?_
    cases o2 with
    | none => exact iT rfl h
    | some b => exact iF (ne8 (B2 b rfl)) h
theorem gnC (B1 : oB 1296 o1) (B2 : oB 1296 o2) (B3 : oB 1296 o3) (B4 : oB 1296 o4) (h : P (gnO o1 o2 o3 o4)) : if (1000000 : Int32) ≤ nI (eN 1000000 o1) + nI (eN 1000000 o2) then P (-9) else if nI (eN 1000000 o3) + nI (eN 1000000 o4) < 1000000 then P (100 + (nI (eN 1000000 o1) + nI (eN 1000000 o2)) - (nI (eN 1000000 o3) + nI (eN 1000000 o4))) else P (-9) := by
  have e1 := eN_le (F := 1000000) (oB_mono B1 (by decide))
  have e2 := eN_le (F := 1000000) (oB_mono B2 (by decide))
  have e3 := eN_le (F := 1000000) (oB_mono B3 (by decide))
  have e4 := eN_le (F := 1000000) (oB_mono B4 (by decide))
  cases o1 with
  | none =>
    refine iT ?_ h
    rw [nI_add]
    exact nI_le (a := 1000000) (show 1000000 ≤ 1000000 + eN 1000000 o2 by omega) (show 1000000 + eN 1000000 o2 < _ by omega)
  | some a =>
    cases o2 with
    | none =>
      have h : P (-9) := h
      have g : (1000000 : Int32) ≤ nI (eN 1000000 (some a)) + nI (eN 1000000 none) := by
        rw [nI_add]
        exact nI_le (a := 1000000) (show 1000000 ≤ eN 1000000 (some a) + 1000000 by omega) (show eN 1000000 (some a) + 1000000 < 2147483648 by omega)
      rw [if_pos g]
      exact h
    | some b =>
      have a1 := B1 a rfl
      have a2 := B2 b rfl
      refine iF ?_ ?_
      · rw [nI_add]
        exact nI_ge (b := 1000000) (show a + b < 1000000 by omega) (by decide)
      · cases o3 with
        | none =>
          refine iF ?_ h
          rw [nI_add]
          exact nI_nlt (b := 1000000) (show 1000000 ≤ 1000000 + eN 1000000 o4 by omega) (show 1000000 + eN 1000000 o4 < _ by omega)
        | some c =>
          cases o4 with
          | none =>
            have h : P (-9) := h
            have g : ¬ nI (eN 1000000 (some c)) + nI (eN 1000000 none) < (1000000 : Int32) := by
              rw [nI_add]
              exact nI_nlt (b := 1000000) (show 1000000 ≤ eN 1000000 (some c) + 1000000 by omega) (show eN 1000000 (some c) + 1000000 < 2147483648 by omega)
            rw [if_neg g]
            exact h
          | some d =>
            have a3 := B3 c rfl
            have a4 := B4 d rfl
            refine iT ?_ h
            rw [nI_add]
            exact nI_lt (b := 1000000) (show c + d < 1000000 by omega) (by decide)
theorem sub5 (a b c d : Int32) : 100 + a + b - c - d = 100 + (a + b) - (c + d) := by
  simp only [Int32.sub_eq_add_neg, Int32.neg_add, Int32.add_assoc]
theorem gnM (B1 : oB 1296 o1) (B2 : oB 1296 o2) (B3 : oB 1296 o3) (B4 : oB 1296 o4) (h : P (gnO o1 o2 o3 o4)) : if (100000000 : Int32) ≤ nI (eN 100000000 o1) then P (-9) else if (100000000 : Int32) ≤ nI (eN 100000000 o2) then P (-9) else if (100000000 : Int32) ≤ nI (eN 100000000 o3) then P (-9) else if (100000000 : Int32) ≤ nI (eN 100000000 o4) then P (-9) else P (100 + nI (eN 100000000 o1) + nI (eN 100000000 o2) - nI (eN 100000000 o3) - nI (eN 100000000 o4)) := by
  cases o1 with
  | none => exact iT le8 h
  | some a =>
    refine iF (ge8 (B1 a rfl)) ?_
    cases o2 with
    | none => exact iT le8 h
    | some b =>
      refine iF (ge8 (B2 b rfl)) ?_
      cases o3 with
      | none => exact iT le8 h
      | some c =>
        refine iF (ge8 (B3 c rfl)) ?_
        cases o4 with
        | none => exact iT le8 h
        | some d =>
          refine iF (ge8 (B4 d rfl)) ?_
          rw [sub5]
          exact h
end O52
/-- houses that can't, the hurt of all others -/
def ltf (f : Nat → Option Nat) : Nat → Int32 × Int32
  | 0 => (0, 0)
  | h + 1 => match f h with
    | none => ((ltf f h).1 ||| (1 <<< (nI h &&& 31)), (ltf f h).2)
    | some v => ((ltf f h).1, (ltf f h).2 + nI v)
abbrev own (H : Hs) (c : Sc) (h : Nat) : Option Nat := LL H c h (vo (cs H c) h)
def gp (H : Hs) (c : Sc) (h : Nat) : Option Nat := if vo (cs H c) h = 0 then none else LL H c h (vo (cs H c) h - 1)
def gv (H : Hs) (c : Sc) (h k : Nat) : Int32 := gnO (own H c h) (own H c k) (gp H c h) (LL H c k (vo (cs H c) k + 1))
abbrev Q3 : Type := Int32 × Int32 × Int32
def slv (g : Nat → Nat → Int32) (h k : Nat) : Int32 := if h = k then -9 else g h k
def sl1 (g : Nat → Nat → Int32) (h k : Nat) (q : Q3) : Q3 := (if slv g h k ≤ 100 then q.1 else q.1 + 1, if slv g h k ≤ q.2.1 then q.2.1 else slv g h k, if slv g h k ≤ q.2.1 then q.2.2 else 6 * nI h + nI k)
def sl2 (g : Nat → Nat → Int32) (h : Nat) : Nat → Nat → Q3 → Q3
  | 0, _, q => q
  | d + 1, k, q => sl2 g h d (k + 1) (sl1 g h k q)
def sl3 (g : Nat → Nat → Int32) (n : Nat) : Nat → Nat → Q3 → Q3
  | 0, _, q => q
  | d + 1, h, q => sl3 g n d (h + 1) (sl2 g h n 0 q)
section P52
variable {G : Ge} {μ : Mm} {K : Int32 → Mm → Prop} {V : Mm → Prop} {H : Hs} {c : Sc} {h k : Nat}
theorem gp_B (hH : HI H) (hc : CI H c) : oB 1296 (gp H c h) := by
  unfold gp
  split
  · exact oB_n
  · exact LL_B hH hc _
theorem price_M (hH : HI H) (hc : CI H c) (hh : h < hn H) (hM : Ms H c μ) (hK : ∀ μ1, Fa (L1 11) μ μ1 → K (prc (own H c h) (LL H c h (vo (cs H c) h + 1))) μ1) : CS G m_Mo_price [vr 7 0, vi (nI h)] μ (RI K) := by
  have b1 := hH.1
  have ho := (SI_now hH hc).owes hh
  refine c_Mo_price _ (isHouse_T hM.1.1 (by omega) hh (i1 (layLeasts_s hH hc hM fun μ1 k1 F1 => ?_)))
  have hM1 := hM.fa F1 rfl
  have h16 : vp_in (nI h) 16 := in_nI (by omega) (by decide)
  have ev := (hM1.2.2.2.1.2 h hh).1
  rw [nI_tn (n := h) (by omega), ev]
  refine ⟨h16, leastOf_s (k1 h hh) (by omega) (by omega) ⟨h16, ?_⟩⟩
  rw [ev, nI_1]
  refine leastOf_s (k1 h hh) (by omega) (by omega) ?_
  exact prcM (P := fun v => K v μ1) (LL_B hH hc _) (LL_B hH hc _) (hK μ1 F1)
theorem two_price (x1 : Int32) : Two G m_Cs_price m_Mo_price [vr 6 0, vi x1] [vr 7 0, vi x1] := by
  intro μ L ⟨a, hA, hC, hM⟩ hL
  have hH := hA.2.2.1
  have hc := hA.2.2.2.1
  have b1 := hH.1
  by_cases h1 : rg x1 (hn (aH a))
  · obtain ⟨h, hh, rfl⟩ := h1
    have hS := hC.2.2.2.1
    have ho := (SI_now hH hc).owes hh
    refine c_Cs_price _ (noHouse_T hS.1.1 (by omega) hh (i0 (weigh_s hH hc hh hS fun μ1 _ k2 k3 => ?_)))
    have F1 := k3.fa (L := L1 5) (fun _ _ => rfl)
    have hC1 := hC.fa hA F1 L1_5
    have hM1 := hM.fa F1 (L1_M (by decide))
    have ev := (hC1.2.2.2.1.2.2.2 h hh).1
    have h5 : vp_in (nI h) 5 := in_nI (by omega) (by decide)
    rw [nI_tn (n := h) (by omega), ev]
    refine ⟨h5, painFor_s k2 (by omega) (by omega) ⟨h5, ?_⟩⟩
    rw [ev, nI_1]
    refine painFor_s k2 (by omega) (by omega) ?_
    refine prcC (P := fun v => CS G m_Mo_price [vr 7 0, vi (nI h)] μ1 (RI fun v2 μ2 => L v v2 μ2)) (LL_B hH hc _) (LL_B hH hc _) ?_
    exact price_M hH hc hh hM1.2.2.2.1 fun μ2 F2 => hL _ _ ⟨a, hA, hC1.fa hA F2 (L1_C (by decide)), hM1.fa F2 L1_W⟩
  · exact c_Cs_price _ (noHouse_F hC.2.2.2.1.1.1 (by omega) h1 (i1 (c_Mo_price _ (isHouse_F hM.2.2.2.1.1.1 (by omega) h1 (i0 (hL _ _ ⟨a, hA, hC, hM⟩))))))
theorem late_C (hH : HI H) (hc : CI H c) (hC : Cs H c μ) (hA : ∀ h, h < hn H → Al H c h μ) (hK : K (ltf (own H c) (hn H)).1 (wI μ 6 0 9 (ltf (own H c) (hn H)).2)) : ∀ (m h : Nat), hn H = h + m → SS G m_Cs_late 17 [vr 6 0, vi (ltf (own H c) h).1, vi (ltf (own H c) h).2, vi (nI h), un] [] μ (RI K)
  | 0, h, e => by
    have b1 := hH.1
    refine b_Cs_late_17 _ _ _ ?_
    rw [hC.1.1]
    refine iLeT (by omega) (by omega) ?_
    rw [show h = hn H by omega]
    exact hK
  | m + 1, h, e => by
    have b1 := hH.1
    have hh : h < hn H := by omega
    have ho := (SI_now hH hc).owes hh
    have ih := late_C hH hc hC hA hK m (h + 1) (by omega)
    have B := LL_B (h := h) hH hc (vo (cs H c) h)
    refine b_Cs_late_17 _ _ _ ?_
    rw [hC.1.1, nI_tn (n := h) (by omega), (hC.2.2.2 h hh).1, nI_1]
    refine iLeF (by omega) (by omega) ⟨in_nI (by omega) (by decide), painFor_s (hA h hh) (by omega) (by omega) ?_⟩
    unfold ltf at ih
    have ih2 : SS G m_Cs_late 17 [vr 6 0, vi (match own H c h with
    | none => ((ltf (own H c) h).1 ||| (1 <<< (nI h &&& 31)), (ltf (own H c) h).2)
    | some v => ((ltf (own H c) h).1, (ltf (own H c) h).2 + nI v)).1, vi (match own H c h with
    | none => ((ltf (own H c) h).1 ||| (1 <<< (nI h &&& 31)), (ltf (own H c) h).2)
    | some v => ((ltf (own H c) h).1, (ltf (own H c) h).2 + nI v)).2, vi (nI (h + 1)), un] [] μ (RI K) := ih
    cases e2 : LL H c h (vo (cs H c) h) with
    | none =>
      rw [show own H c h = none from e2] at ih2
      exact iF (by decide) ih2
    | some v =>
      rw [show own H c h = some v from e2] at ih2
      exact iT (lt6 (B v e2)) ih2
theorem late_M (hH : HI H) (hc : CI H c) (hM : Ms H c μ) (hA : ∀ h, h < hn H → AlM H c h μ) (hK : CS G m_Mo_tells [vr 7 0, vi (ltf (own H c) (hn H)).2, vi (ltf (own H c) (hn H)).1] μ (RI K)) : ∀ (m h : Nat), hn H = h + m → SS G m_Mo_late 10 [vr 7 0, vi (ltf (own H c) h).1, vi (ltf (own H c) h).2, vi (nI h), un] [] μ (RI K)
  | 0, h, e => by
    have b1 := hH.1
    refine b_Mo_late_10 _ _ _ ?_
    rw [hM.1.1]
    refine iLeT (by omega) (by omega) ?_
    rw [show h = hn H by omega]
    exact hK
  | m + 1, h, e => by
    have b1 := hH.1
    have hh : h < hn H := by omega
    have ho := (SI_now hH hc).owes hh
    have ih := late_M hH hc hM hA hK m (h + 1) (by omega)
    have B := LL_B (h := h) hH hc (vo (cs H c) h)
    refine b_Mo_late_10 _ _ _ ?_
    rw [hM.1.1, nI_tn (n := h) (by omega), (hM.2.2.2.1.2 h hh).1, nI_1]
    refine iLeF (by omega) (by omega) ⟨in_nI (by omega) (by decide), leastOf_s (hA h hh) (by omega) (by omega) ?_⟩
    have ih2 : SS G m_Mo_late 10 [vr 7 0, vi (match own H c h with
    | none => ((ltf (own H c) h).1 ||| (1 <<< (nI h &&& 31)), (ltf (own H c) h).2)
    | some v => ((ltf (own H c) h).1, (ltf (own H c) h).2 + nI v)).1, vi (match own H c h with
    | none => ((ltf (own H c) h).1 ||| (1 <<< (nI h &&& 31)), (ltf (own H c) h).2)
    | some v => ((ltf (own H c) h).1, (ltf (own H c) h).2 + nI v)).2, vi (nI (h + 1)), un] [] μ (RI K) := ih
    rw [Int32.or_zero, Int32.add_zero]
    cases e2 : LL H c h (vo (cs H c) h) with
    | none =>
      rw [show own H c h = none from e2] at ih2
      exact iT rfl (iT rfl ih2)
    | some v =>
      rw [show own H c h = some v from e2] at ih2
      exact iF (ne8 (B v e2)) (iF (ne8 (B v e2)) ih2)
theorem two_late : Two G m_Cs_late m_Mo_late [vr 6 0] [vr 7 0] := by
  intro μ L ⟨a, hA, hC, hM⟩ hL
  have hH := hA.2.2.1
  have hc := hA.2.2.2.1
  have hS := hC.2.2.2.1
  refine c_Cs_late (wAll_s hH hc hS fun μ1 k1 k2 => ?_)
  have F1 := k2.fa (L := L1 5) (fun _ _ => rfl)
  have hC1 := hC.fa hA F1 L1_5
  have hM1 := hM.fa F1 (L1_M (by decide))
  refine late_C hH hc hC1.2.2.2.1 k1 ?_ (hn (aH a)) 0 (by omega)
  have F2 : Fa (L1 0) μ1 (wI μ1 6 0 9 (ltf (own (aH a) (aC a)) (hn (aH a))).2) := Fa.rf.wI rfl
  have hM2 := hM1.fa F2 (L1_M (by decide))
  have hC2 := hC1.rest0 hA F2 (tellC (v := (ltf (own (aH a) (aC a)) (hn (aH a))).2) hC1.1)
  generalize wI μ1 6 0 9 (ltf (own (aH a) (aC a)) (hn (aH a))).2 = μ2 at F2 hM2 hC2 ⊢
  refine c_Mo_late (layLeasts_s hH hc hM2.2.2.2.1 fun μ3 k3 F3 => ?_)
  have hM3 := hM2.fa F3 L1_W
  have hC3 := RC.fa (a := (tellI (ltf (own (aH a) (aC a)) (hn (aH a))).2 (aT a), a.2)) hC2 hA F3 (L1_C (by decide))
  refine late_M hH hc hM3.2.2.2.1 k3 ?_ (hn (aH a)) 0 (by omega)
  exact tells_s hM3.1 fun μ4 hT F4 => hL _ _ ⟨(tellI (ltf (own (aH a) (aC a)) (hn (aH a))).2 (aT a), a.2), hA, hC3.fa hA F4 (L1_C (by decide)), hM3.rest0 F4 hT⟩
theorem gain_C (hH : HI H) (hc : CI H c) (hC : Cs H c μ) (hh : h < hn H) (hk2 : k < hn H) (A1 : Al H c h μ) (A2 : Al H c k μ) (hK : K (gv H c h k) μ) : CS G m_Cs_gainOf [vr 6 0, vi (nI h), vi (nI k)] μ (RI K) := by
  have b1 := hH.1
  have ho := (SI_now hH hc).owes hh
  have ho2 := (SI_now hH hc).owes hk2
  have h5 : vp_in (nI h) 5 := in_nI (by omega) (by decide)
  have k5 : vp_in (nI k) 5 := in_nI (by omega) (by decide)
  have e1 := (hC.2.2.2 h hh).1
  have e2 := (hC.2.2.2 k hk2).1
  refine c_Cs_gainOf _ _ ?_
  rw [nI_tn (n := h) (by omega), nI_tn (n := k) (by omega), e1]
  refine ⟨h5, painFor_s A1 (by omega) (by omega) ⟨k5, ?_⟩⟩
  rw [e2]
  refine painFor_s A2 (by omega) (by omega) ⟨h5, ?_⟩
  rw [e1]
  have go : ∀ (K2 : Int32 → Mm → Prop), K2 (nI (eN 1000000 (gp H c h))) μ → CS G m_Pl_painFor [vr 1 0, vi (nI h), vi (nI (vo (cs H c) h) - 1)] μ (RI K2) := by
    intro K2 q
    unfold gp at q
    by_cases z : vo (cs H c) h = 0
    · rw [if_pos z] at q
      rw [z, neg_sub1]
      exact painFor_n q
    · rw [if_neg z] at q
      rw [show nI (vo (cs H c) h) - 1 = nI (vo (cs H c) h - 1) from nI_sub (b := 1) (by omega)]
      exact painFor_s A1 (by omega) (by omega) q
  refine go _ ⟨k5, ?_⟩
  rw [e2, nI_1]
  refine painFor_s A2 (by omega) (by omega) ?_
  exact gnC (P := fun v => K v μ) (LL_B hH hc _) (LL_B hH hc _) (gp_B hH hc) (LL_B hH hc _) hK
theorem gain_M (hH : HI H) (hc : CI H c) (hM : Ms H c μ) (hh : h < hn H) (hk2 : k < hn H) (A1 : AlM H c h μ) (A2 : AlM H c k μ) (hK : K (gv H c h k) μ) : CS G m_Mo_gainOf [vr 7 0, vi (nI h), vi (nI k)] μ (RI K) := by
  have b1 := hH.1
  have ho := (SI_now hH hc).owes hh
  have ho2 := (SI_now hH hc).owes hk2
  have h5 : vp_in (nI h) 16 := in_nI (by omega) (by decide)
  have k5 : vp_in (nI k) 16 := in_nI (by omega) (by decide)
  have e1 := (hM.2.2.2.1.2 h hh).1
  have e2 := (hM.2.2.2.1.2 k hk2).1
  refine c_Mo_gainOf _ _ ?_
  rw [nI_tn (n := h) (by omega), nI_tn (n := k) (by omega), e1]
  refine ⟨h5, iEq (b := 0) (by omega) (by decide) (fun z => ?_) fun z => ⟨h5, leastOf_s A1 (by omega) (by omega) ⟨k5, ?_⟩⟩⟩
  · unfold gv gp at hK
    rw [if_pos z] at hK
    have e : gnO (own H c h) (own H c k) none (LL H c k (vo (cs H c) k + 1)) = -9 := by
      cases own H c h with
      | none => rfl
      | some v =>
        cases own H c k with
        | none => rfl
        | some w => rfl
    rw [e] at hK
    exact hK
  · rw [e2]
    refine leastOf_s A2 (by omega) (by omega) ⟨h5, ?_⟩
    rw [e1, show nI (vo (cs H c) h) - 1 = nI (vo (cs H c) h - 1) from nI_sub (b := 1) (by omega)]
    refine leastOf_s A1 (by omega) (by omega) ⟨k5, ?_⟩
    rw [e2, nI_1]
    refine leastOf_s A2 (by omega) (by omega) ?_
    unfold gv gp at hK
    rw [if_neg z] at hK
    have := gnM (P := fun v => K v μ) (LL_B (h := h) hH hc (vo (cs H c) h)) (LL_B (h := k) hH hc (vo (cs H c) k)) (LL_B (h := h) hH hc (vo (cs H c) h - 1)) (LL_B (h := k) hH hc (vo (cs H c) k + 1)) hK
    rw [if_pos (rfl : (0 : Int32) = 0), if_neg (by decide : ¬ (1 : Int32) = 0)]
    exact this
theorem two_gain (x1 x2 : Int32) : Two G m_Cs_gain m_Mo_gain [vr 6 0, vi x1, vi x2] [vr 7 0, vi x1, vi x2] := by
  intro μ L ⟨a, hA, hC, hM⟩ hL
  have hH := hA.2.2.1
  have hc := hA.2.2.2.1
  have b1 := hH.1
  have ok : Ok G μ := ⟨a, hA, hC, hM⟩
  have hS := hC.2.2.2.1
  have hS2 := hM.2.2.2.1
  by_cases h1 : rg x1 (hn (aH a))
  · obtain ⟨h, hh, rfl⟩ := h1
    by_cases h2 : rg x2 (hn (aH a))
    · obtain ⟨k, hk2, rfl⟩ := h2
      refine c_Cs_gain _ _ (noHouse_T hS.1.1 (by omega) hh (i0 (noHouse_T hS.1.1 (by omega) hk2 (i0 (iEq (by omega) (by omega) (fun z => ?_) fun z => ?_)))))
      · exact c_Mo_gain _ _ (isHouse_T hS2.1.1 (by omega) hh (i1 (isHouse_T hS2.1.1 (by omega) hk2 (i1 (iT (by rw [z]) (hL _ _ ok))))))
      · refine weigh_s hH hc hh hS fun μ1 _ k2 k3 => ?_
        have hS1 := hS.fa hH (k3.fa (L := L1 5) (fun _ _ => rfl)) rfl
        refine weigh_s hH hc hk2 hS1 fun μ2 _ j2 j3 => ?_
        have F1 := (k3.fa (L := L1 5) (fun _ _ => rfl)).tr (j3.fa (L := L1 5) (fun _ _ => rfl))
        have hC1 := hC.fa hA F1 L1_5
        have hM1 := hM.fa F1 (L1_M (by decide))
        refine gain_C hH hc hC1.2.2.2.1 hh hk2 (fun y hy => by rw [j3.i _ _ (by omega)]; exact k2 y hy) j2 ?_
        refine c_Mo_gain _ _ (isHouse_T hM1.2.2.2.1.1.1 (by omega) hh (i1 (isHouse_T hM1.2.2.2.1.1.1 (by omega) hk2 (i1 (iEqF (by omega) (by omega) z (layLeasts_s hH hc hM1.2.2.2.1 fun μ3 i1 F3 => ?_))))))
        exact gain_M hH hc (hM1.2.2.2.1.fa F3 rfl) hh hk2 (i1 h hh) (i1 k hk2) (hL _ _ ⟨a, hA, hC1.fa hA F3 (L1_C (by decide)), hM1.fa F3 L1_W⟩)
    · exact c_Cs_gain _ _ (noHouse_T hS.1.1 (by omega) hh (i0 (noHouse_F hS.1.1 (by omega) h2 (i1 (c_Mo_gain _ _ (isHouse_T hS2.1.1 (by omega) hh (i1 (isHouse_F hS2.1.1 (by omega) h2 (i0 (hL _ _ ok))))))))))
  · exact c_Cs_gain _ _ (noHouse_F hS.1.1 (by omega) h1 (i1 (c_Mo_gain _ _ (isHouse_F hS2.1.1 (by omega) h1 (i0 (hL _ _ ok))))))
theorem sl_C {q : Q3} {v : Int32} {S : Int32 → Int32 → Int32 → Prop} {f : Int32} (h : S (if v ≤ 100 then q.1 else q.1 + 1) (if v ≤ q.2.1 then q.2.1 else v) (if v ≤ q.2.1 then q.2.2 else f)) : if v ≤ 100 then (if v ≤ q.2.1 then S q.1 q.2.1 q.2.2 else S q.1 v f) else (if v ≤ q.2.1 then S (q.1 + 1) q.2.1 q.2.2 else S (q.1 + 1) v f) := by
  by_cases z1 : v ≤ 100
  · rw [if_pos z1] at h ⊢
    by_cases z2 : v ≤ q.2.1
    · rw [if_pos z2, if_pos z2] at h
      exact iT z2 h
    · rw [if_neg z2, if_neg z2] at h
      exact iF z2 h
  · rw [if_neg z1] at h ⊢
    by_cases z2 : v ≤ q.2.1
    · rw [if_pos z2, if_pos z2] at h
      exact iT z2 h
    · rw [if_neg z2, if_neg z2] at h
      exact iF z2 h
theorem sl_M {q : Q3} {v : Int32} {S : Int32 → Int32 → Int32 → Prop} {f : Int32} (h : S (if v ≤ 100 then q.1 else q.1 + 1) (if v ≤ q.2.1 then q.2.2 else f) (if v ≤ q.2.1 then q.2.1 else v)) : if v ≤ 100 then (if v ≤ q.2.1 then (if v ≤ q.2.1 then S (q.1 + 0) q.2.2 q.2.1 else S (q.1 + 0) q.2.2 v) else (if v ≤ q.2.1 then S (q.1 + 0) f q.2.1 else S (q.1 + 0) f v)) else (if v ≤ q.2.1 then (if v ≤ q.2.1 then S (q.1 + 1) q.2.2 q.2.1 else S (q.1 + 1) q.2.2 v) else (if v ≤ q.2.1 then S (q.1 + 1) f q.2.1 else S (q.1 + 1) f v)) := by
  rw [Int32.add_zero]
  by_cases z1 : v ≤ 100
  · rw [if_pos z1] at h ⊢
    by_cases z2 : v ≤ q.2.1
    · rw [if_pos z2, if_pos z2] at h
      exact iT z2 (iT z2 h)
    · rw [if_neg z2, if_neg z2] at h
      exact iF z2 (iF z2 h)
  · rw [if_neg z1] at h ⊢
    by_cases z2 : v ≤ q.2.1
    · rw [if_pos z2, if_pos z2] at h
      exact iT z2 (iT z2 h)
    · rw [if_neg z2, if_neg z2] at h
      exact iF z2 (iF z2 h)
theorem sal37 (hH : HI H) (hc : CI H c) (hC : Cs H c μ) (hA : ∀ h, h < hn H → Al H c h μ) (hh : h < hn H) : ∀ (d : Nat) {k : Nat} {q : Q3}, hn H = k + d → SS G m_Cs_sales 22 [vr 6 0, vi (sl2 (gv H c) h d k q).1, vi (sl2 (gv H c) h d k q).2.1, vi (sl2 (gv H c) h d k q).2.2, vi (nI (h + 1)), un, un] [] μ (RI K) → SS G m_Cs_sales 37 [vr 6 0, vi q.1, vi q.2.1, vi q.2.2, vi (nI h), vi (nI k), un] [] μ (RI K)
  | 0, k, q, e, hK => by
    have b1 := hH.1
    refine b_Cs_sales_37 _ _ _ _ _ ?_
    rw [hC.1.1, nI_1]
    exact iLeT (by omega) (by omega) hK
  | d + 1, k, q, e, hK => by
    have b1 := hH.1
    have ih := sal37 hH hc hC hA hh d (k := k + 1) (q := sl1 (gv H c) h k q) (by omega) hK
    refine b_Cs_sales_37 _ _ _ _ _ ?_
    rw [hC.1.1, nI_1 k]
    refine iLeF (by omega) (by omega) (iEq (by omega) (by omega) (fun z => ?_) fun z => gain_C hH hc hC hh (by omega) (hA h hh) (hA k (by omega)) ?_)
    · refine sl_C (q := q) (v := -9) (f := 6 * nI h + nI k) (S := fun x y z => SS G m_Cs_sales 37 [vr 6 0, vi x, vi y, vi z, vi (nI h), vi (nI (k + 1)), un] [] μ (RI K)) ?_
      unfold sl1 slv at ih
      rw [if_pos z] at ih
      exact ih
    · refine sl_C (q := q) (v := gv H c h k) (f := 6 * nI h + nI k) (S := fun x y z => SS G m_Cs_sales 37 [vr 6 0, vi x, vi y, vi z, vi (nI h), vi (nI (k + 1)), un] [] μ (RI K)) ?_
      unfold sl1 slv at ih
      rw [if_neg z] at ih
      exact ih
theorem sal22 (hH : HI H) (hc : CI H c) (hC : Cs H c μ) (hA : ∀ h, h < hn H → Al H c h μ) : ∀ (d : Nat) {h : Nat} {q : Q3}, hn H = h + d → K (sl3 (gv H c) (hn H) d h q).1 (wI μ 6 0 9 (sl3 (gv H c) (hn H) d h q).2.2) → SS G m_Cs_sales 22 [vr 6 0, vi q.1, vi q.2.1, vi q.2.2, vi (nI h), un, un] [] μ (RI K)
  | 0, h, q, e, hK => by
    have b1 := hH.1
    refine b_Cs_sales_22 _ _ _ _ ?_
    rw [hC.1.1]
    exact iLeT (by omega) (by omega) hK
  | d + 1, h, q, e, hK => by
    have b1 := hH.1
    refine b_Cs_sales_22 _ _ _ _ ?_
    rw [hC.1.1]
    exact iLeF (by omega) (by omega) (sal37 hH hc hC hA (by omega) (hn H) (k := 0) (by omega) (sal22 hH hc hC hA d (h := h + 1) (by omega) hK))
theorem sal27 (hH : HI H) (hc : CI H c) (hM : Ms H c μ) (hA : ∀ h, h < hn H → AlM H c h μ) (hh : h < hn H) : ∀ (d : Nat) {k : Nat} {q : Q3}, hn H = k + d → SS G m_Mo_sales 15 [vr 7 0, vi (sl2 (gv H c) h d k q).1, vi (sl2 (gv H c) h d k q).2.2, vi (sl2 (gv H c) h d k q).2.1, vi (nI (h + 1)), un, un] [] μ (RI K) → SS G m_Mo_sales 27 [vr 7 0, vi q.1, vi q.2.2, vi q.2.1, vi (nI h), vi (nI k), un] [] μ (RI K)
  | 0, k, q, e, hK => by
    have b1 := hH.1
    refine b_Mo_sales_27 _ _ _ _ _ ?_
    rw [hM.1.1, nI_1]
    exact iLeT (by omega) (by omega) hK
  | d + 1, k, q, e, hK => by
    have b1 := hH.1
    have ih := sal27 hH hc hM hA hh d (k := k + 1) (q := sl1 (gv H c) h k q) (by omega) hK
    refine b_Mo_sales_27 _ _ _ _ _ ?_
    rw [hM.1.1, nI_1 k]
    refine iLeF (by omega) (by omega) (iEq (by omega) (by omega) (fun z => ?_) fun z => gain_M hH hc hM hh (by omega) (hA h hh) (hA k (by omega)) ?_)
    · refine sl_M (q := q) (v := -9) (f := 6 * nI h + nI k) (S := fun x y z => SS G m_Mo_sales 27 [vr 7 0, vi x, vi y, vi z, vi (nI h), vi (nI (k + 1)), un] [] μ (RI K)) ?_
      unfold sl1 slv at ih
      rw [if_pos z] at ih
      exact ih
    · refine sl_M (q := q) (v := gv H c h k) (f := 6 * nI h + nI k) (S := fun x y z => SS G m_Mo_sales 27 [vr 7 0, vi x, vi y, vi z, vi (nI h), vi (nI (k + 1)), un] [] μ (RI K)) ?_
      unfold sl1 slv at ih
      rw [if_neg z] at ih
      exact ih
theorem sal15 (hH : HI H) (hc : CI H c) (hM : Ms H c μ) (hA : ∀ h, h < hn H → AlM H c h μ) : ∀ (d : Nat) {h : Nat} {q : Q3}, hn H = h + d → CS G m_Mo_tells [vr 7 0, vi (sl3 (gv H c) (hn H) d h q).2.2, vi (sl3 (gv H c) (hn H) d h q).1] μ (RI K) → SS G m_Mo_sales 15 [vr 7 0, vi q.1, vi q.2.2, vi q.2.1, vi (nI h), un, un] [] μ (RI K)
  | 0, h, q, e, hK => by
    have b1 := hH.1
    refine b_Mo_sales_15 _ _ _ _ ?_
    rw [hM.1.1]
    exact iLeT (by omega) (by omega) hK
  | d + 1, h, q, e, hK => by
    have b1 := hH.1
    refine b_Mo_sales_15 _ _ _ _ ?_
    rw [hM.1.1]
    exact iLeF (by omega) (by omega) (sal27 hH hc hM hA (by omega) (hn H) (k := 0) (by omega) (sal15 hH hc hM hA d (h := h + 1) (by omega) hK))
theorem two_sales : Two G m_Cs_sales m_Mo_sales [vr 6 0] [vr 7 0] := by
  intro μ L ⟨a, hA, hC, hM⟩ hL
  have hH := hA.2.2.1
  have hc := hA.2.2.2.1
  have hS := hC.2.2.2.1
  refine c_Cs_sales (wAll_s hH hc hS fun μ1 k1 k2 => ?_)
  have F1 := k2.fa (L := L1 5) (fun _ _ => rfl)
  have hC1 := hC.fa hA F1 L1_5
  have hM1 := hM.fa F1 (L1_M (by decide))
  obtain ⟨Q, hQ⟩ : ∃ Q : Q3, Q = sl3 (gv (aH a) (aC a)) (hn (aH a)) (hn (aH a)) 0 (0, 100, -9) := ⟨_, rfl⟩
  refine sal22 hH hc hC1.2.2.2.1 k1 (hn (aH a)) (h := 0) (q := (0, 100, -9)) (by omega) ?_
  rw [← hQ]
  have F2 : Fa (L1 0) μ1 (wI μ1 6 0 9 Q.2.2) := Fa.rf.wI rfl
  have hM2 := hM1.fa F2 (L1_M (by decide))
  have hC2 := hC1.rest0 hA F2 (tellC (v := Q.2.2) hC1.1)
  generalize wI μ1 6 0 9 Q.2.2 = μ2 at F2 hM2 hC2 ⊢
  refine c_Mo_sales (layLeasts_s hH hc hM2.2.2.2.1 fun μ3 k3 F3 => ?_)
  have hM3 := hM2.fa F3 L1_W
  have hC3 := RC.fa (a := (tellI Q.2.2 (aT a), a.2)) hC2 hA F3 (L1_C (by decide))
  refine sal15 hH hc hM3.2.2.2.1 k3 (hn (aH a)) (h := 0) (q := (0, 100, -9)) (by omega) ?_
  rw [← hQ]
  exact tells_s hM3.1 fun μ4 hT F4 => hL _ _ ⟨(tellI Q.2.2 (aT a), a.2), hA, hC3.fa hA F4 (L1_C (by decide)), hM3.rest0 F4 hT⟩
end P52
