/-! lots -/
abbrev Lq : Type := Sc × Nat × Int32
def lnx (n : Nat) : Nat := n * 48271 % 2147483647
def ld (H : Hs) (c : Sc) (h n : Nat) : Nat := n / 8 % (ct H c (cs H c) h + 1)
def lt1 (H : Hs) (h : Nat) (q : Lq) : Lq := if vb (cs H q.1) h = 0 then (if ld H q.1 h (lnx q.2.1) = 0 then (q.1, lnx q.2.1, q.2.2) else (push q.1 (h + 1, 0, ld H q.1 h (lnx q.2.1)), lnx q.2.1, q.2.2 + nI (hu (hk H h) (hw H h) (ld H q.1 h (lnx q.2.1))))) else q
def ltn (H : Hs) : Nat → Nat → Lq → Lq
  | 0, _, q => q
  | d + 1, h, q => ltn H d (h + 1) (lt1 H h q)
def lpass (r : Lq) : Lq := (push r.1 (0, 0, 0), r.2.1, r.2.2)
def lts (H : Hs) : Nat → Lq → Lq
  | 0, q => q
  | n + 1, q => if vt (cs H q.1) < hN H then lts H n (lpass (ltn H (hn H) 0 q)) else q
theorem lnx_lt (n : Nat) : lnx n < 2147483647 := Nat.mod_lt _ (by decide)
theorem ld_le {H : Hs} {c : Sc} {h n : Nat} : ld H c h n ≤ vo (cs H c) h := by
  have h1 : ld H c h n < ct H c (cs H c) h + 1 := Nat.mod_lt _ (Nat.succ_pos _)
  have h2 := ct_le (H := H) (c := c) (s := cs H c) (h := h)
  omega
section P44
variable {G : Ge} {K : Int32 → Mm → Prop} {H : Hs}
theorem ld_dv {c : Sc} {h n : Nat} (hh : h < hn H) (h0 : ld H c h n ≠ 0) : dv H (h + 1, 0, ld H c h n) (cs H c) := ⟨hh, Nat.pos_of_ne_zero h0, ld_le, trivial⟩
theorem lt1_ok {q : Lq} {h : Nat} (hc : CI H q.1) (hD : cD q.1 < 60) (hh : h < hn H) (hQ : q.2.1 < 2147483647) : CI H (lt1 H h q).1 ∧ cD (lt1 H h q).1 ≤ cD q.1 + 1 ∧ vt (cs H (lt1 H h q).1) = vt (cs H q.1) ∧ (lt1 H h q).2.1 < 2147483647 := by
  unfold lt1
  split
  · split
    · exact ⟨hc, Nat.le_succ _, rfl, lnx_lt _⟩
    · rename_i h0
      refine ⟨CI_push hc hD (ld_dv hh h0), Nat.le_refl _, ?_, lnx_lt _⟩
      show vt (cs H (push q.1 _)) = _
      rw [cs_push]
      rfl
  · exact ⟨hc, Nat.le_succ _, rfl, hQ⟩
theorem ltn_ok : ∀ (d : Nat) {h : Nat} {q : Lq}, hn H = h + d → CI H q.1 → q.2.1 < 2147483647 → cD q.1 + d ≤ 60 → CI H (ltn H d h q).1 ∧ cD (ltn H d h q).1 ≤ cD q.1 + d ∧ vt (cs H (ltn H d h q).1) = vt (cs H q.1) ∧ (ltn H d h q).2.1 < 2147483647
  | 0, h, q, e, hc, hQ, hD => ⟨hc, Nat.le_refl _, rfl, hQ⟩
  | d + 1, h, q, e, hc, hQ, hD => by
    obtain ⟨g1, g2, g3, g4⟩ := lt1_ok (h := h) hc (by omega) (by omega) hQ
    obtain ⟨k1, k2, k3, k4⟩ := ltn_ok d (h := h + 1) (q := lt1 H h q) (by omega) g1 g4 (by omega)
    exact ⟨k1, Nat.le_trans k2 (by omega), k3.trans g3, k4⟩
theorem lpass_ok {q : Lq} (hH : HI H) (hc : CI H q.1) (hQ : q.2.1 < 2147483647) (hD : cD q.1 + 6 ≤ 60) (hv : vt (cs H q.1) < hN H) : CI H (lpass (ltn H (hn H) 0 q)).1 ∧ cD (lpass (ltn H (hn H) 0 q)).1 ≤ cD q.1 + 6 ∧ (lpass (ltn H (hn H) 0 q)).2.1 < 2147483647 := by
  have b1 := hH.1
  obtain ⟨k1, k2, k3, k4⟩ := ltn_ok (hn H) (h := 0) (q := q) (by omega) hc hQ (by omega)
  refine ⟨CI_push k1 (by omega) (e := (0, 0, 0)) (show vt (cs H (ltn H (hn H) 0 q).1) < hN H by rw [k3]; exact hv), ?_, k4⟩
  show cD (ltn H (hn H) 0 q).1 + 1 ≤ cD q.1 + 6
  omega
theorem lts_ok (hH : HI H) : ∀ (n : Nat) {q : Lq}, CI H q.1 → q.2.1 < 2147483647 → cD q.1 + 6 * n ≤ 60 → CI H (lts H n q).1
  | 0, q, hc, hQ, hD => hc
  | n + 1, q, hc, hQ, hD => by
    show CI H (if vt (cs H q.1) < hN H then lts H n (lpass (ltn H (hn H) 0 q)) else q).1
    by_cases h : vt (cs H q.1) < hN H
    · rw [if_pos h]
      obtain ⟨k1, k2, k3⟩ := lpass_ok hH hc hQ (by omega) h
      exact lts_ok hH n k1 k3 (by omega)
    · rw [if_neg h]
      exact hc
theorem lnum {n : Nat} (hn : n < 2147483647) : lN n * 48271 - lN n * 48271 / 2147483647 * 2147483647 = lN (lnx n) := by
  rw [show lN n * 48271 = lN (n * 48271) from lN_mul n 48271]
  exact pk_lRem (a := n * 48271) (b := 2147483647) (by omega) (by decide) (by decide)
theorem lnum2 {n : Nat} (hn : n < 2147483647) : 48271 * lN n - 48271 * lN n / 2147483647 * 2147483647 = lN (lnx n) := by
  rw [Int64.mul_comm]
  exact lnum hn
theorem ldeg {n c : Nat} (hn : n < 2147483647) (hc : c < 2147483647) : Int64.toInt32 (lN n / 8 - lN n / 8 / (nI (c + 1)).toInt64 * (nI (c + 1)).toInt64) = nI (n / 8 % (c + 1)) := by
  rw [nI_l (by omega), show lN n / 8 = lN (n / 8) from pk_lDiv (a := n) (b := 8) (by omega) (by decide) (by decide), pk_lRem (by omega) (by omega) (by omega), lN_i]
theorem lne {c : Nat} (hc : c < 2147483647) : ¬ (nI (c + 1)).toInt64 = 0 := by
  rw [nI_l (by omega)]
  intro q
  have := (lN_eq (a := c + 1) (b := 0) (by omega) (by decide)).mp q
  omega
theorem lotC86 {n i : Nat} (hH : HI H) : ∀ (d : Nat) {h : Nat} {q : Lq} {μ : Mm}, hn H = h + d → CI H q.1 → q.2.1 < 2147483647 → cD q.1 + d < 60 → vt (cs H q.1) < hN H → Cs H q.1 μ → (∀ μ1, Cs H (lpass (ltn H d h q)).1 μ1 → Fa (L1 3) μ μ1 → SS G m_Cs_lots 67 [vr 6 0, vi (nI n), un, vl (lN (lpass (ltn H d h q)).2.1), un, vi (lpass (ltn H d h q)).2.2, vi (nI (i + 1)), un] [] μ1 (RI K)) → SS G m_Cs_lots 86 [vr 6 0, vi (nI n), un, vl (lN q.2.1), un, vi q.2.2, vi (nI i), vi (nI h)] [] μ (RI K)
  | 0, h, q, μ, e, hc, hQ, hD, hv, hC, hE => by
    have b1 := hH.1
    refine b_Cs_lots_86 _ _ _ _ _ ?_
    rw [hC.1.1, nI_1]
    exact iLeT (by omega) (by omega) (act_s (e := (0, 0, 0)) hH hc (by omega) hv hC rfl rfl rfl fun μ1 hC1 F1 => hE μ1 hC1 F1)
  | d + 1, h, q, μ, e, hc, hQ, hD, hv, hC, hE => by
    have b1 := hH.1
    have hh : h < hn H := by omega
    have hS := SI_now hH hc
    have hb := hS.2.2.1 h hh
    have ho := hS.owes hh
    have hk5 := hH.2.2.2 h hh
    obtain ⟨g1, g2, g3, g4⟩ := lt1_ok (h := h) hc (by omega) hh hQ
    have rk : ∀ μ1, Cs H (lt1 H h q).1 μ1 → Fa (L1 3) μ μ1 → SS G m_Cs_lots 86 [vr 6 0, vi (nI n), un, vl (lN (lt1 H h q).2.1), un, vi (lt1 H h q).2.2, vi (nI i), vi (nI (h + 1))] [] μ1 (RI K) := fun μ1 hC1 F1 => lotC86 hH d (by omega) g1 g4 (by omega) (by rw [g3]; exact hv) hC1 fun μ2 hC2 F2 => hE μ2 hC2 (F1.tr F2)
    refine b_Cs_lots_86 _ _ _ _ _ ?_
    rw [hC.1.1, nI_1 h]
    refine iLeF (by omega) (by omega) ⟨in_nI (by omega) (by decide), ?_⟩
    rw [nI_tn (by omega), (hC.2.2.2 h hh).2.2, lnum hQ]
    unfold lt1 at rk
    refine iB (fun z => ⟨by decide, c_Cs_bearByLot _ _ ⟨by decide, canT_C hC hH hc hh ?_⟩⟩) fun z => ?_
    · rw [if_pos ((bI_9 hb).mp z)] at rk
      have hct := ct_le (H := H) (c := q.1) (s := cs H q.1) (h := h)
      have hl := lnx_lt q.2.1
      rw [show (1 : Int32) + nI (ct H q.1 (cs H q.1) h) = nI (ct H q.1 (cs H q.1) h + 1) from by rw [show (1 : Int32) + nI (ct H q.1 (cs H q.1) h) = nI (1 + ct H q.1 (cs H q.1) h) from nI_add 1 _, Nat.add_comm], ldeg hl (by omega)]
      have hld := ld_le (H := H) (c := q.1) (h := h) (n := lnx q.2.1)
      refine ⟨lne (by omega), iEq (a := ld H q.1 h (lnx q.2.1)) (b := 0) (by omega) (by decide) (fun y => ?_) fun y => ?_⟩
      · rw [if_pos y] at rk
        rw [Int32.add_zero]
        exact rk μ hC Fa.rf
      · rw [if_neg y] at rk
        refine act_s (e := (h + 1, 0, ld H q.1 h (lnx q.2.1))) hH hc (by omega) (ld_dv hh y) hC rfl rfl rfl fun μ1 hC1 F1 => ⟨in_nI (by omega) (by decide), ?_⟩
        rw [nI_tn (by omega)]
        exact painOf_s (d := ld H q.1 h (lnx q.2.1)) (hC1.1.2.2 h hh).1 (hC1.1.2.2 h hh).2.1 hk5.1 hk5.2.1 (by omega) (rk μ1 hC1 F1)
    · rw [if_neg (fun y => z ((bI_9 hb).mpr y))] at rk
      exact rk μ hC Fa.rf
theorem lotC67 {n : Nat} (hH : HI H) (hn8 : n ≤ 8) : ∀ (d : Nat) {i : Nat} {q : Lq} {μ : Mm}, n = i + d → CI H q.1 → q.2.1 < 2147483647 → cD q.1 + 6 * d ≤ 60 → Cs H q.1 μ → (∀ μ1, Cs H (lts H d q).1 μ1 → Fa (L1 3) μ μ1 → K (lts H d q).2.2 μ1) → SS G m_Cs_lots 67 [vr 6 0, vi (nI n), un, vl (lN q.2.1), un, vi q.2.2, vi (nI i), un] [] μ (RI K)
  | 0, i, q, μ, e, hc, hQ, hD, hC, hE => b_Cs_lots_67 _ _ _ _ (iLeT (by omega) (by omega) (hE μ hC Fa.rf))
  | d + 1, i, q, μ, e, hc, hQ, hD, hC, hE => by
    have b1 := hH.1
    have hE2 : ∀ μ1, Cs H (if vt (cs H q.1) < hN H then lts H d (lpass (ltn H (hn H) 0 q)) else q).1 μ1 → Fa (L1 3) μ μ1 → K (if vt (cs H q.1) < hN H then lts H d (lpass (ltn H (hn H) 0 q)) else q).2.2 μ1 := hE
    refine b_Cs_lots_67 _ _ _ _ (iLeF (by omega) (by omega) (cand_C hC hH hc (fun z => i0 ?_) fun z => i1 ?_))
    · rw [if_pos z] at hE2
      obtain ⟨k1, k2, k3⟩ := lpass_ok hH hc hQ (by omega) z
      exact lotC86 hH (hn H) (h := 0) (by omega) hc hQ (by omega) z hC fun μ1 hC1 F1 => lotC67 hH hn8 d (by omega) k1 k3 (by omega) hC1 fun μ2 hC2 F2 => hE2 μ2 hC2 (F1.tr F2)
    · rw [if_neg (by omega)] at hE2
      exact hE2 μ hC Fa.rf
theorem lotM82 {n i : Nat} (hH : HI H) : ∀ (d : Nat) {h : Nat} {q : Lq} {μ : Mm}, hn H = h + d → CI H q.1 → q.2.1 < 2147483647 → cD q.1 + d < 60 → vt (cs H q.1) < hN H → Ms H q.1 μ → (∀ μ1, Ms H (lpass (ltn H d h q)).1 μ1 → Fa (L1 9) μ μ1 → SS G m_Mo_lots 66 [vr 7 0, vi (nI n), un, vl (lN (lpass (ltn H d h q)).2.1), un, vi (lpass (ltn H d h q)).2.2, vi (nI (i + 1)), un, un] [] μ1 (RI K)) → SS G m_Mo_lots 82 [vr 7 0, vi (nI n), un, vl (lN q.2.1), un, vi q.2.2, vi (nI i), vi (nI h), un] [] μ (RI K)
  | 0, h, q, μ, e, hc, hQ, hD, hv, hC, hE => by
    have b1 := hH.1
    refine b_Mo_lots_82 _ _ _ _ _ ?_
    rw [hC.1.1, nI_1]
    exact iLeT (by omega) (by omega) (passes_s hH hC (by omega) fun μ1 hC1 F1 => hE μ1 hC1 F1)
  | d + 1, h, q, μ, e, hc, hQ, hD, hv, hC, hE => by
    have b1 := hH.1
    have hh : h < hn H := by omega
    have hS := SI_now hH hc
    have ho := hS.owes hh
    obtain ⟨g1, g2, g3, g4⟩ := lt1_ok (h := h) hc (by omega) hh hQ
    have rk : ∀ μ1, Ms H (lt1 H h q).1 μ1 → Fa (L1 9) μ μ1 → SS G m_Mo_lots 82 [vr 7 0, vi (nI n), un, vl (lN (lt1 H h q).2.1), un, vi (lt1 H h q).2.2, vi (nI i), vi (nI (h + 1)), un] [] μ1 (RI K) := fun μ1 hC1 F1 => lotM82 hH d (by omega) g1 g4 (by omega) (by rw [g3]; exact hv) hC1 fun μ2 hC2 F2 => hE μ2 hC2 (F1.tr F2)
    refine b_Mo_lots_82 _ _ _ _ _ ?_
    rw [hC.1.1, nI_1 h, lnum2 hQ]
    unfold lt1 at rk
    refine iLeF (by omega) (by omega) (did_M hC hH hc hh (fun z => i0 ⟨by decide, b_Mo_lots_110 _ _ _ _ _ ⟨by decide, canT_M hC hH hc hh ?_⟩⟩) fun z => i1 ?_)
    · rw [if_pos z] at rk
      have hct := ct_le (H := H) (c := q.1) (s := cs H q.1) (h := h)
      have hl := lnx_lt q.2.1
      rw [nI_1, ldeg hl (by omega)]
      have hld := ld_le (H := H) (c := q.1) (h := h) (n := lnx q.2.1)
      refine ⟨lne (by omega), b_Mo_lots_128 _ _ _ _ _ _ (iEq (a := ld H q.1 h (lnx q.2.1)) (b := 0) (by omega) (by decide) (fun y => ?_) fun y => ?_)⟩
      · rw [if_pos y] at rk
        rw [Int32.add_zero, nI_1]
        exact rk μ hC Fa.rf
      · rw [if_neg y] at rk
        refine bears_s (d := ld H q.1 h (lnx q.2.1)) hH hc hC (by omega) hh hld fun μ1 hC1 F1 => ?_
        rw [nI_1]
        exact rk μ1 hC1 F1
    · rw [if_neg z] at rk
      exact rk μ hC Fa.rf
theorem lotM66 {n : Nat} (hH : HI H) (hn8 : n ≤ 8) : ∀ (d : Nat) {i : Nat} {q : Lq} {μ : Mm}, n = i + d → CI H q.1 → q.2.1 < 2147483647 → cD q.1 + 6 * d ≤ 60 → Ms H q.1 μ → (∀ μ1, Ms H (lts H d q).1 μ1 → Fa (L1 9) μ μ1 → K (lts H d q).2.2 μ1) → SS G m_Mo_lots 66 [vr 7 0, vi (nI n), un, vl (lN q.2.1), un, vi q.2.2, vi (nI i), un, un] [] μ (RI K)
  | 0, i, q, μ, e, hc, hQ, hD, hC, hE => b_Mo_lots_66 _ _ _ _ (iLeT (by omega) (by omega) (hE μ hC Fa.rf))
  | d + 1, i, q, μ, e, hc, hQ, hD, hC, hE => by
    have b1 := hH.1
    have hE2 : ∀ μ1, Ms H (if vt (cs H q.1) < hN H then lts H d (lpass (ltn H (hn H) 0 q)) else q).1 μ1 → Fa (L1 9) μ μ1 → K (if vt (cs H q.1) < hN H then lts H d (lpass (ltn H (hn H) 0 q)) else q).2.2 μ1 := hE
    refine b_Mo_lots_66 _ _ _ _ (iLeF (by omega) (by omega) (cand_M hC hH hc (fun z => i0 ?_) fun z => i1 ?_))
    · rw [if_pos z] at hE2
      obtain ⟨k1, k2, k3⟩ := lpass_ok hH hc hQ (by omega) z
      exact lotM82 hH (hn H) (h := 0) (by omega) hc hQ (by omega) z hC fun μ1 hC1 F1 => lotM66 hH hn8 d (by omega) k1 k3 (by omega) hC1 fun μ2 hC2 F2 => hE2 μ2 hC2 (F1.tr F2)
    · rw [if_neg (by omega)] at hE2
      exact hE2 μ hC Fa.rf
theorem in_18 {x y : Int32} {μ : Mm} (h1 : ¬ x < 1) (h2 : ¬ y < x) (hK : K 1 μ) : CS G m_Mo_in [vi x, vi 1, vi y] μ (RI K) := c_Mo_in _ _ _ (iF h1 (iF h2 ⟨z01, hK⟩))
theorem lt_max {x : Int32} : x < 2147483647 ↔ ¬ (2147483646 : Int32) < x := by
  rw [Int32.lt_iff_toInt_lt, Int32.lt_iff_toInt_lt]
  have e1 : (2147483647 : Int32).toInt = 2147483647 := rfl
  have e0 : (2147483646 : Int32).toInt = 2147483646 := rfl
  omega
theorem two_lots (x1 x2 : Int32) : Two G m_Cs_lots m_Mo_lots [vr 6 0, vi x1, vi x2] [vr 7 0, vi x1, vi x2] := by
  intro μ L ⟨a, hA, hC, hM⟩ hL
  have b1 := hA.2.2.1.1
  have ok : Ok G μ := ⟨a, hA, hC, hM⟩
  have hS := hC.2.2.2.1
  have hS2 := hM.2.2.2.1
  have hH := hA.2.2.1
  have hc := hA.2.2.2.1
  have hD := hc.1
  have hvt := (SI_now hH hc).1
  refine c_Cs_lots _ _ (iB (fun z1 => ?_) fun z1 => iB (fun z2 => ?_) fun z2 => iB (fun z3 => ?_) fun z3 => iB (fun z4 => ?_) fun z4 => ?_)
  · exact c_Mo_lots _ _ (c_Mo_in _ _ _ (iT z1 ⟨z00, i0 (hL _ _ ok)⟩))
  · exact c_Mo_lots _ _ (c_Mo_in _ _ _ (iF z1 (iT z2 ⟨z00, i0 (hL _ _ ok)⟩)))
  · exact c_Mo_lots _ _ (in_18 z1 z2 (i1 (c_Mo_in _ _ _ (iT z3 ⟨z00, i0 (hL _ _ ok)⟩))))
  · have z5 := lt_max.mp z4
    obtain ⟨n, hn8, rfl⟩ := le_of_n (m := 8) (by decide) (Int32.le_iff_toInt_le.mpr (by rw [Int32.lt_iff_toInt_lt] at z2; exact Int.not_lt.mp z2)) (toI_ge z1)
    obtain ⟨s, hs, rfl⟩ := nI_of (x := x2) (fun q => z3 (by
      rw [Int32.lt_iff_toInt_lt] at q ⊢
      have e1 : (1 : Int32).toInt = 1 := rfl
      have e0 : (0 : Int32).toInt = 0 := rfl
      omega))
    have hs2 : s < 2147483647 := (nI_ltI hs (by decide)).mp z4
    have mo : ∀ (μ1 : Mm) (K1 : Int32 → Mm → Prop), (if (μ1.1 7 0 10) = 0 then K1 (-4) μ1 else CS G m_Mo_isCandlemas [vr 7 0] μ1 (RI fun v3 μ3 => (if v3 = 0 then (if ((μ3.1 7 0 21) + (6 * nI n)) ≤ 60 then SS G m_Mo_lots 66 [vr 7 0, vi (nI n), un, vl (Int32.toInt64 (nI s)), un, vi 0, vi 0, un, un] [] μ3 (RI K1) else K1 (-2) μ3) else K1 (-4) μ3))) → CS G m_Mo_lots [vr 7 0, vi (nI n), vi (nI s)] μ1 (RI K1) := fun μ1 K1 h => c_Mo_lots _ _ (in_18 z1 z2 (i1 (in_18 z3 z5 (i1 h))))
    refine cand_C hS hH hc (fun z => i0 ?_) fun z => i1 ?_
    · have h0 : hn (aH a) ≠ 0 := fun q => by
        have := hH.2.2.1 q
        omega
      rw [hS.2.1.1, show (6 : Int32) * nI n = nI (6 * n) from nI_mul 6 n, nI_add, nI_l hs]
      refine iLe (b := 60) (by omega) (by decide) (fun w => ?_) fun w => ?_
      · refine lotC67 hH hn8 n (i := 0) (q := (aC a, s, 0)) (by omega) hc hs2 w hS fun μ1 hS1 F1 => ?_
        have hM1 := hM.fa F1 (L1_M (by decide))
        have hC1 := hC.rest3 hA F1 hS1
        have hA1 := AI_upC hA (lts_ok hH n (q := (aC a, s, 0)) hc hs2 w)
        have hS3 := hM1.2.2.2.1
        refine mo μ1 _ ?_
        rw [hS3.1.1]
        refine iF (nI_ne0 (by omega) (by omega)) (cand_M hS3 hH hc (fun _ => i0 ?_) fun y => absurd y (by omega))
        rw [hS3.2.1, show (6 : Int32) * nI n = nI (6 * n) from nI_mul 6 n, nI_add, nI_l hs]
        refine iLeT (b := 60) (by decide) w (lotM66 hH hn8 n (i := 0) (q := (aC a, s, 0)) (by omega) hc hs2 w hS3 fun μ2 hS4 F2 => hL _ _ ⟨_, hA1, hC1.fa hA1 F2 (L1_C (by decide)), hM1.rest9 F2 hS4⟩)
      · refine mo μ _ ?_
        rw [hS2.1.1]
        refine iF (nI_ne0 (by omega) (by omega)) (cand_M hS2 hH hc (fun _ => i0 ?_) fun y => absurd y (by omega))
        rw [hS2.2.1, show (6 : Int32) * nI n = nI (6 * n) from nI_mul 6 n, nI_add]
        exact iLeF (b := 60) (by omega) w (hL _ _ ok)
    · refine mo μ _ ?_
      exact iB (fun _ => hL _ _ ok) fun _ => cand_M hS2 hH hc (fun y => absurd z (by omega)) fun _ => i1 (hL _ _ ok)
  · refine c_Mo_lots _ _ (in_18 z1 z2 (i1 (c_Mo_in _ _ _ (iF z3 (iT ?_ ⟨z00, i0 (hL _ _ ok)⟩)))))
    exact Decidable.not_not.mp fun q => z4 (lt_max.mpr q)
end P44
