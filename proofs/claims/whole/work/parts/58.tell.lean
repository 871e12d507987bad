/-! numbers in lowest terms; risk -/
theorem gcd_st (a b : Nat) : Nat.gcd a b = Nat.gcd b (a % b) := by rw [Nat.gcd_comm a b, Nat.gcd_rec b a, Nat.gcd_comm]
theorem mod_half {b r : Nat} (h0 : 0 < r) (h1 : r < b) : 2 * (b % r) < b := by
  have e := Nat.div_add_mod b r
  have e1 := Nat.mod_lt b h0
  have e2 : 0 < b / r := Nat.div_pos (Nat.le_of_lt h1) h0
  have e3 : r ≤ r * (b / r) := Nat.le_mul_of_pos_right r e2
  omega
theorem lN_ne {a : Nat} (h0 : 0 < a) (h : a < 4611686018427387904) : ¬ lN a = 0 := fun q => by
  have := (pk_lEQ (a := a) (b := 0) (by omega) (by decide)).mp q
  omega
section P58
variable {G : Ge} {μ : Mm} {K : Int32 → Mm → Prop} {l1 l3 : Int64}
theorem tel0 {a j : Nat} (hj : j < 200) (h0 : 0 < a) (ha : a < 4611686018427387904) (hK : K 1 (wL (wL μ 6 0 10 (l1 / lN a)) 6 0 11 (l3 / lN a))) : SS G m_Cs_tell 9 [vr 6 0, vl l1, un, vl l3, un, vl (lN a), un, vl (lN 0), un, vi (nI j), un, un] [] μ (RI K) := by
  refine b_Cs_tell_9 _ _ _ _ _ (iF (nI_ge (b := 200) (by omega) (by decide)) (iT ((lg_cmp_eq _ _).mpr rfl) (iT ?_ ⟨lN_ne h0 ha, lN_ne h0 ha, hK⟩)))
  rw [lg_cmp_ge]
  exact (pk_lLE (a := 1) (b := a) (by decide) (by omega)).mpr (by omega)
theorem tel1 {a b j : Nat} (hj : j < 199) (h0 : 0 < b) (ha : a < 4611686018427387904) (hb : b < 4611686018427387904) (hK : SS G m_Cs_tell 9 [vr 6 0, vl l1, un, vl l3, un, vl (lN b), un, vl (lN (a % b)), un, vi (nI (j + 1)), un, un] [] μ (RI K)) : SS G m_Cs_tell 9 [vr 6 0, vl l1, un, vl l3, un, vl (lN a), un, vl (lN b), un, vi (nI j), un, un] [] μ (RI K) := by
  refine b_Cs_tell_9 _ _ _ _ _ (iF (nI_ge (b := 200) (by omega) (by decide)) (iF (fun q => lN_ne h0 hb ((lg_cmp_eq _ _).mp q)) ⟨lN_ne h0 hb, ?_⟩))
  rw [pk_lRem (by omega) h0 (by omega), nI_1]
  exact hK
theorem tel9 : ∀ (m : Nat) {a b j : Nat}, b < 2 ^ m → j + 2 * m + 2 ≤ 199 → a < 4611686018427387904 → b < 4611686018427387904 → (0 < a ∨ 0 < b) → K 1 (wL (wL μ 6 0 10 (l1 / lN (Nat.gcd a b))) 6 0 11 (l3 / lN (Nat.gcd a b))) → SS G m_Cs_tell 9 [vr 6 0, vl l1, un, vl l3, un, vl (lN a), un, vl (lN b), un, vi (nI j), un, un] [] μ (RI K)
  | m, a, b, j, hm, hj, ha, hb, h0, hK => by
    by_cases z : b = 0
    · subst z
      rw [Nat.gcd_zero_right] at hK
      exact tel0 (by omega) (by omega) ha hK
    · refine tel1 (by omega) (by omega) ha hb ?_
      have r1 := Nat.mod_lt a (show 0 < b by omega)
      rw [gcd_st] at hK
      by_cases y : a % b = 0
      · rw [y, Nat.gcd_zero_right] at hK
        rw [y]
        exact tel0 (by omega) (by omega) hb hK
      · cases m with
        | zero => exact absurd hm (by rw [Nat.pow_zero]; omega)
        | succ m =>
          have r2 := mod_half (b := b) (r := a % b) (by omega) r1
          have r3 := Nat.mod_lt b (show 0 < a % b by omega)
          rw [gcd_st] at hK
          rw [Nat.pow_succ] at hm
          exact tel1 (by omega) (by omega) hb (by omega) (tel9 m (by omega) (by omega) (by omega) (by omega) (by omega) hK)
theorem tell_s {T : Tl} {U W : Nat} (hT : Ct T μ) (hU : U < 4611686018427387904) (hW0 : 0 < W) (hW : W < 2 ^ 40) (hK : ∀ μ1, Ct (tellL (lN U / lN (Nat.gcd U W)) (lN W / lN (Nat.gcd U W)) T) μ1 → Fa (L1 0) μ μ1 → K 1 μ1) : CS G m_Cs_tell [vr 6 0, vl (lN U), vl (lN W)] μ (RI K) := by
  refine c_Cs_tell _ _ (tel9 40 (j := 0) hW (by decide) hU (by omega) (Or.inr hW0) (hK _ ⟨hT.1, hT.2.1, hT.2.2.1, ?_, ?_⟩ ((Fa.rf.wL rfl).wL rfl)))
  · rw [wL_n _ _ _ _ (by decide), wL_s]
    rfl
  · rw [wL_s]
    rfl
theorem fra1 {a b : Nat} (h0 : 0 < b) (ha : a < 4611686018427387904) (hb : b < 4611686018427387904) (hK : SS G m_Mo_fraction 17 [vr 7 0, vl l1, un, vl l3, un, vl (lN b), un, vl (lN (a % b)), un, un, un] [] μ (RI K)) : SS G m_Mo_fraction 17 [vr 7 0, vl l1, un, vl l3, un, vl (lN a), un, vl (lN b), un, un, un] [] μ (RI K) := by
  refine b_Mo_fraction_17 _ _ _ _ (iF (fun q => lN_ne h0 hb ((lg_cmp_eq _ _).mp q)) ⟨lN_ne h0 hb, ?_⟩)
  rw [pk_lRem (by omega) h0 (by omega)]
  exact hK
theorem fra17 : ∀ (m : Nat) {a b : Nat}, b < m → a < 4611686018427387904 → b < 4611686018427387904 → (0 < a ∨ 0 < b) → K 1 (wL (wL μ 7 0 3 (l1 / lN (Nat.gcd a b))) 7 0 4 (l3 / lN (Nat.gcd a b))) → SS G m_Mo_fraction 17 [vr 7 0, vl l1, un, vl l3, un, vl (lN a), un, vl (lN b), un, un, un] [] μ (RI K)
  | 0, a, b, hm, ha, hb, h0, hK => absurd hm (by omega)
  | m + 1, a, b, hm, ha, hb, h0, hK => by
    by_cases z : b = 0
    · subst z
      rw [Nat.gcd_zero_right] at hK
      exact b_Mo_fraction_17 _ _ _ _ (iT ((lg_cmp_eq _ _).mpr rfl) ⟨lN_ne (by omega) ha, lN_ne (by omega) ha, hK⟩)
    · have r1 := Nat.mod_lt a (show 0 < b by omega)
      rw [gcd_st] at hK
      exact fra1 (by omega) ha hb (fra17 m (by omega) hb (by omega) (by omega) hK)
theorem fraction_s {T : Tl} {U W : Nat} (hT : Mt T μ) (hU : U < 4611686018427387904) (hW0 : 0 < W) (hW : W < 2 ^ 40) (hK : ∀ μ1, Mt (tellL (lN U / lN (Nat.gcd U W)) (lN W / lN (Nat.gcd U W)) T) μ1 → Fa (L1 6) μ μ1 → K 1 μ1) : CS G m_Mo_fraction [vr 7 0, vl (lN U), vl (lN W)] μ (RI K) := by
  refine c_Mo_fraction _ _ (iT ?_ (fra17 (W + 1) (by omega) hU (by omega) (Or.inr hW0) (hK _ ⟨hT.1, hT.2.1, hT.2.2.1, ?_, ?_⟩ ((Fa.rf.wL rfl).wL rfl))))
  · rw [lg_cmp_ge]
    exact (pk_lLE (a := 0) (b := U) (by decide) (by omega)).mpr (by omega)
  · rw [wL_n _ _ _ _ (by decide), wL_s]
    rfl
  · rw [wL_s]
    rfl
/-- both tell the same -/
theorem both_tell {a : Ab} {U W : Nat} {L : Int32 → Int32 → Mm → Prop} {M' : MS} {as' : List Vl} (hU : U < 4611686018427387904) (hW0 : 0 < W) (hW : W < 2 ^ 40) (hA : AI a) (hC : RC a μ) (hM : RM a μ) (hL : ∀ v μ1, Ok G μ1 → L v v μ1)
    (hm : ∀ (μ1 : Mm) (K1 : Int32 → Mm → Prop), RM a μ1 → (∀ μ2, RM a μ2 → Fa (L1 11) μ1 μ2 → CS G m_Mo_fraction [vr 7 0, vl (lN U), vl (lN W)] μ2 (RI K1)) → CS G M' as' μ1 (RI K1)) : CS G m_Cs_tell [vr 6 0, vl (lN U), vl (lN W)] μ (RI fun v1 μ1 => CS G M' as' μ1 (RI fun v2 μ2 => L v1 v2 μ2)) := by
  refine tell_s hC.1 hU hW0 hW fun μ1 hT F1 => ?_
  have hM1 := hM.fa F1 (L1_M (by decide))
  have hC1 := hC.rest0 hA F1 hT
  refine hm μ1 _ hM1 fun μ2 hM2 F2 => fraction_s hM2.1 hU hW0 hW fun μ3 hT3 F3 => hL _ _ ⟨(tellL (lN U / lN (Nat.gcd U W)) (lN W / lN (Nat.gcd U W)) (aT a), a.2), hA, ?_, hM2.rest0 F3 hT3⟩
  exact (RC.fa (a := (tellL (lN U / lN (Nat.gcd U W)) (lN W / lN (Nat.gcd U W)) (aT a), a.2)) hC1 hA F2 (L1_C (by decide))).fa hA F3 (L1_C (by decide))
/-! risk -/
def rkf (k w : Nat) : Nat → Nat := fun x => if hu k w (cap k x) = 0 then 0 else 1
theorem rk_le {k w n : Nat} : sm (rkf k w) n ≤ 1 * n := sm_bd fun j _ => by
  show (if hu k w (cap k j) = 0 then 0 else 1) ≤ 1
  split <;> decide
theorem rk25 {q k w : Nat} (e0 : μ.1 0 q 0 = nI k) (e1 : μ.1 0 q 1 = nI w) (hk : k ≤ 5) (hw : w ≤ 9) (hK : CS G m_Cs_tell [vr 6 0, vl (lN (sm (rkf k w) 10)), vl (lN 10)] μ (RI K)) : ∀ (m x : Nat), 10 = x + m → SS G m_Cs_risk 25 [vr 6 0, un, vr 0 q, vi (nI (sm (rkf k w) x)), vi (nI x)] [] μ (RI K)
  | 0, x, e => by
    have : x = 10 := by omega
    subst this
    have := rk_le (k := k) (w := w) (n := 10)
    refine b_Cs_risk_25 _ _ _ (iT (by decide) ?_)
    rw [nI_l (by omega)]
    exact hK
  | m + 1, x, e => by
    have ih := rk25 e0 e1 hk hw hK m (x + 1) (by omega)
    have ih2 : SS G m_Cs_risk 25 [vr 6 0, un, vr 0 q, vi (nI (sm (rkf k w) x + if hu k w (cap k x) = 0 then 0 else 1)), vi (nI (x + 1))] [] μ (RI K) := ih
    have hc := cap_le (k := k) (c := x)
    have hu1 := hu9 (k := k) (w := w) (d := cap k x) (by omega)
    refine b_Cs_risk_25 _ _ _ (iF (nI_nlt (a := 9) (b := x) (by omega) (by decide)) (canAt_s e0 hk (by omega) (painOf_s e0 e1 hk hw (by omega) ?_)))
    rw [nI_1, nI_1]
    refine iLe (b := 0) (by omega) (by decide) (fun z => ?_) fun z => ?_
    · rw [if_pos (by omega)] at ih2
      exact ih2
    · rw [if_neg (by omega)] at ih2
      exact ih2
theorem rk14 {h k w : Nat} (hh : h < 5) (e0 : μ.1 32 0 h = nI k) (e1 : μ.1 33 0 h = nI w) (hk : k ≤ 5) (hw : w ≤ 9) (hK : CS G m_Mo_fraction [vr 7 0, vl (lN (sm (rkf k w) 10)), vl (lN 10)] μ (RI K)) : ∀ (m x : Nat), 10 = x + m → SS G m_Mo_risk 14 [vr 7 0, vi (nI h), vi (nI (sm (rkf k w) x)), vi (nI x)] [] μ (RI K)
  | 0, x, e => by
    have : x = 10 := by omega
    subst this
    have := rk_le (k := k) (w := w) (n := 10)
    refine b_Mo_risk_14 _ _ _ (iT (by decide) ?_)
    rw [nI_l (by omega)]
    exact hK
  | m + 1, x, e => by
    have ih := rk14 hh e0 e1 hk hw hK m (x + 1) (by omega)
    have ih2 : SS G m_Mo_risk 14 [vr 7 0, vi (nI h), vi (nI (sm (rkf k w) x + if hu k w (cap k x) = 0 then 0 else 1)), vi (nI (x + 1))] [] μ (RI K) := ih
    have hc := cap_le (k := k) (c := x)
    have hu1 := hu9 (k := k) (w := w) (d := cap k x) (by omega)
    refine b_Mo_risk_14 _ _ _ (iF (nI_ge (b := 10) (by omega) (by decide)) (canIn_s hh e0 hk (by omega) (hurtOf_s hh e0 e1 hk hw (by omega) ?_)))
    rw [nI_1, nI_1, Int32.add_zero]
    refine iLe (b := 0) (by omega) (by decide) (fun z => ?_) fun z => ?_
    · rw [if_pos (by omega)] at ih2
      exact ih2
    · rw [if_neg (by omega)] at ih2
      exact ih2
theorem two_risk (x1 : Int32) : Two G m_Cs_risk m_Mo_risk [vr 6 0, vi x1] [vr 7 0, vi x1] := by
  intro μ L ⟨a, hA, hC, hM⟩ hL
  have hH := hA.2.2.1
  have b1 := hH.1
  by_cases h1 : rg x1 (hn (aH a))
  · obtain ⟨h, hh, rfl⟩ := h1
    have hkw := hH.2.2.2 h hh
    have hS := hC.2.2.2.1
    have := rk_le (k := hk (aH a) h) (w := hw (aH a) h) (n := 10)
    refine c_Cs_risk _ (noHouse_T hS.1.1 (by omega) hh (i0 ⟨in_nI (by omega) (by decide), ?_⟩))
    rw [nI_tn (n := h) (by omega)]
    refine rk25 (hS.1.2.2 h hh).1 (hS.1.2.2 h hh).2.1 hkw.1 hkw.2.1 (both_tell (by omega) (by decide) (by decide) hA hC hM hL fun μ1 K1 hM1 h => ?_) 10 0 rfl
    have hS2 := hM1.2.2.2.1
    exact c_Mo_risk _ (isHouse_T hS2.1.1 (by omega) hh (i1 (rk14 (by omega) (hS2.1.2.2 _ hh).1 (hS2.1.2.2 _ hh).2 hkw.1 hkw.2.1 (h μ1 hM1 Fa.rf) 10 0 rfl)))
  · exact c_Cs_risk _ (noHouse_F hC.2.2.2.1.1.1 (by omega) h1 (i1 (c_Mo_risk _ (isHouse_F hM.2.2.2.1.1.1 (by omega) h1 (i0 (hL _ _ ⟨a, hA, hC, hM⟩))))))
end P58
